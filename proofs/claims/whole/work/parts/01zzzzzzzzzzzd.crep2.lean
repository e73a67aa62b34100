/-! THE CLASS: isRepeated() whole -/
/-- two rows are the same but for what stands for _ -/
def sameT (T : pCd) (xs ys : List Int) : Prop := ∀ c, c < T.length → (T.getD c (0, 0)).1 = 2 ∨ xs.getD c 0 = ys.getD c 0
/-- an earlier row makes the same -/
def isRp (T : pCd) (lo hi : Int) (R : List pRw) (i : Nat) : Prop := (∃ c, c < T.length ∧ (T.getD c (0, 0)).1 = 2) ∧ ∃ j, j < i ∧ (lo ≤ (R.getD j dRw).2 ∧ (R.getD j dRw).2 ≤ hi) ∧ sameT T (R.getD i dRw).1 (R.getD j dRw).1
section
variable {f u x l st b nv W cap fi i : Nat} {S : Nat → Nat × Nat × Nat} {G : xG_} {m : Nat × Nat} {K T : pCd} {R : List pRw} {lo hi an : Int} {r59 : Nat → Int → Nat → Int → Int → Int → xT_ → Option (Int × xT_)}
theorem cTm_any {k v : Int} {y : Int × Int} (h : cTm k v y) : k = 3 ↔ y.1 = 2 := by
  unfold cTm at h
  constructor
  · intro hk
    rcases h with ⟨a, b, _⟩ | ⟨a, b⟩ | ⟨a, b, _⟩
    · omega
    · exact a
    · omega
  · intro hy
    rcases h with ⟨a, b, _⟩ | ⟨a, b⟩ | ⟨a, b, _⟩
    · omega
    · exact b
    · omega
theorem k_137c (h : cLv S G u x l st b nv W cap K T R lo hi) (hi2 : i < R.length) {j : Nat} (hj : j < R.length) : ∀ (d c fu : Nat), c + d = T.length → d < fu → (∀ k, k < c → (T.getD k (0, 0)).1 = 2 ∨ (R.getD i dRw).1.getD k 0 = (R.getD j dRw).1.getD k 0) → (sameT T (R.getD i dRw).1 (R.getD j dRw).1 → c137_120 r59 f fu 83 (l : Int) x (i : Int) an (j : Int) 1 (c : Int) (S, G, m) = some (1, (S, G, m))) ∧ (¬ sameT T (R.getD i dRw).1 (R.getD j dRw).1 → c137_120 r59 f fu 83 (l : Int) x (i : Int) an (j : Int) 1 (c : Int) (S, G, m) = r59 83 (l : Int) x (i : Int) an ((j : Int) - 1) (S, G, m)) := by
  obtain ⟨h1, h2, h3, h4, h5, h6, h7, h8, h9, h10, h11, h12, h13⟩ := h
  obtain ⟨a1, a2, a3, a4, a5, a6, a7, a8⟩ := id h1
  obtain ⟨t1, t2, t3, t4⟩ := id h2
  have hcap := h3.2.2.2.2.2.1
  have hlc := h3.2.2.2.2.1
  intro d
  induction d with
  | zero =>
    intro c fu e1 e2 e3
    obtain ⟨fu, rfl⟩ : ∃ t, fu = t + 1 := ⟨fu - 1, by omega⟩
    have hc : c = T.length := by omega
    subst hc
    exact ⟨fun _ => st_137z (r59 := r59) (r120 := c137_120 r59 f fu) a1 a3 a4 a5.1 a5.2.2.2.2.1 a6.2.2.2.1 t1 t2, fun y => absurd (fun k hk => e3 k hk) y⟩
  | succ d ih =>
    intro c fu e1 e2 e3
    obtain ⟨fu, rfl⟩ : ∃ t, fu = t + 1 := ⟨fu - 1, by omega⟩
    have hc : c < T.length := by omega
    have e4 : xwr ((xwr (4 * (l : Int))) + (c : Int)) = ((4 * l + c : Nat) : Int) := by rw [xwr_g (4 * (l : Int)) (by omega) (by omega), xwr_g _ (by omega) (by omega)]; omega
    have ec : xwr ((c : Int) + 1) = ((c + 1 : Nat) : Int) := by rw [xwr_g _ (by omega) (by omega)]; omega
    have st1 : c137_120 r59 f (fu + 1) 83 (l : Int) x (i : Int) an (j : Int) 1 (c : Int) (S, G, m) = _ := st_137c (r59 := r59) (r120 := c137_120 r59 f fu) (an := an) a1 a3 a4 a5.1 a5.2.2.2.2.1 a5.2.2.2.2.2.1 a6.2.2.2.1 a6.2.2.2.2.1 t1 t2 hc e4 (by omega) rfl h3.1 (k_70 (f := f) (m := m) h3 hi2 (by omega : c < W)) (k_70 (f := f) (m := m) h3 hj (by omega : c < W)) ec
    have ta := cTm_any (t4 c hc)
    by_cases q : G (u + 5) (4 * l + c) = 3 ∨ (R.getD i dRw).1.getD c 0 = (R.getD j dRw).1.getD c 0
    · rw [if_pos q] at st1
      have q' : (T.getD c (0, 0)).1 = 2 ∨ (R.getD i dRw).1.getD c 0 = (R.getD j dRw).1.getD c 0 := q.imp ta.mp id
      obtain ⟨i1, i2⟩ := ih (c + 1) fu (by omega) (by omega) (fun k hk => by
        by_cases ck : k = c
        · rw [ck]; exact q'
        · exact e3 k (by omega))
      exact ⟨fun y => st1.trans (i1 y), fun y => st1.trans (i2 y)⟩
    · rw [if_neg q] at st1
      obtain ⟨fu, rfl⟩ : ∃ t, fu = t + 1 := ⟨fu - 1, by omega⟩
      have ej : xwr ((j : Int) + (-1)) = (j : Int) - 1 := by rw [xwr_g _ (by omega) (by omega)]; omega
      have st2 : c137_120 r59 f (fu + 1) 83 (l : Int) x (i : Int) an (j : Int) 0 ((c + 1 : Nat) : Int) (S, G, m) = _ := st_137s0 (r59 := r59) (r120 := c137_120 r59 f fu) (an := an) (c := c + 1) ej
      refine ⟨fun y => ?_, fun _ => st1.trans st2⟩
      exfalso
      exact q ((y c hc).imp ta.mpr id)
theorem k_137j (hf : 10 < f) (h : cLv S G u x l st b nv W cap K T R lo hi) (hi2 : i < R.length) (h88 : G 88 st = (fi : Int)) (ha : an ≠ 0) : ∀ (d : Nat) (j1 fu : Nat), j1 = fi + d → j1 ≤ i → d < fu → ∃ v : Int, c137_59 f fu 83 (l : Int) x (i : Int) an ((j1 : Int) - 1) (S, G, m) = some (v, (S, G, m)) ∧ (v = 0 ∨ v = 1) ∧ (v = 1 ↔ ∃ j, fi ≤ j ∧ j < j1 ∧ (lo ≤ (R.getD j dRw).2 ∧ (R.getD j dRw).2 ≤ hi) ∧ sameT T (R.getD i dRw).1 (R.getD j dRw).1) := by
  have hb := h
  obtain ⟨h1, h2, h3, h4, h5, h6, h7, h8, h9, h10, h11, h12, h13⟩ := h
  obtain ⟨xs, _, ds, ⟨w0, w1, w2, w3⟩, hlc, hcap, hW, hR⟩ := id h3
  have t3 := h2.2.2.1
  intro d
  induction d with
  | zero =>
    intro j1 fu e1 e2 e3
    obtain ⟨fu, rfl⟩ : ∃ t, fu = t + 1 := ⟨fu - 1, by omega⟩
    exact ⟨0, st_137oe (r59 := c137_59 f fu) h1.1 h1.2.1 h8 h9 h88 ha (by omega), .inl rfl, fun y => by omega, fun ⟨j, y1, y2, _⟩ => by omega⟩
  | succ d ih =>
    intro j1 fu e1 e2 e3
    obtain ⟨fu, rfl⟩ : ∃ t, fu = t + 1 := ⟨fu - 1, by omega⟩
    obtain ⟨j, rfl⟩ : ∃ j, j1 = j + 1 := ⟨j1 - 1, by omega⟩
    have ej : (((j + 1 : Nat) : Int) - 1) = (j : Int) := by omega
    rw [ej]
    have hj : j < R.length := by omega
    have st1 : c137_59 f (fu + 1) 83 (l : Int) x (i : Int) an (j : Int) (S, G, m) = _ := st_137o (r59 := c137_59 f fu) (f := f) (i := i) (an := an) h1.1 h1.2.1 h8 h9 h88 ha (by omega : fi ≤ j) xs ds (by omega) w3 (hR j hj).2.2 h2.1 h12 h13
    obtain ⟨v, i1, i2, i3⟩ := ih j fu (by omega) (by omega) (by omega)
    have down : c137_59 f (fu + 1) 83 (l : Int) x (i : Int) an (j : Int) (S, G, m) = c137_59 f fu 83 (l : Int) x (i : Int) an ((j : Int) - 1) (S, G, m) → ¬ ((lo ≤ (R.getD j dRw).2 ∧ (R.getD j dRw).2 ≤ hi) ∧ sameT T (R.getD i dRw).1 (R.getD j dRw).1) → ∃ v : Int, c137_59 f (fu + 1) 83 (l : Int) x (i : Int) an (j : Int) (S, G, m) = some (v, (S, G, m)) ∧ (v = 0 ∨ v = 1) ∧ (v = 1 ↔ ∃ k, fi ≤ k ∧ k < j + 1 ∧ (lo ≤ (R.getD k dRw).2 ∧ (R.getD k dRw).2 ≤ hi) ∧ sameT T (R.getD i dRw).1 (R.getD k dRw).1) := fun e hn => by
      refine ⟨v, e.trans i1, i2, i3.trans ⟨fun ⟨k, y1, y2, y3⟩ => ⟨k, y1, by omega, y3⟩, fun ⟨k, y1, y2, y3⟩ => ?_⟩⟩
      by_cases ck : k = j
      · subst ck; exact absurd y3 hn
      · exact ⟨k, y1, by omega, y3⟩
    by_cases q : lo ≤ (R.getD j dRw).2 ∧ (R.getD j dRw).2 ≤ hi
    · rw [if_pos q] at st1
      obtain ⟨c1, c2⟩ := k_137c (f := f) (m := m) (r59 := c137_59 f fu) (an := an) hb hi2 hj T.length 0 f (by omega) (by omega) (fun k hk => absurd hk (Nat.not_lt_zero k))
      by_cases qs : sameT T (R.getD i dRw).1 (R.getD j dRw).1
      · exact ⟨1, st1.trans (c1 qs), .inr rfl, fun _ => ⟨j, by omega, by omega, q, qs⟩, fun _ => rfl⟩
      · exact down (st1.trans (c2 qs)) (fun y => qs y.2)
    · rw [if_neg q] at st1
      obtain ⟨fx, hfx⟩ : ∃ t, f = t + 1 := ⟨f - 1, by omega⟩
      have ejj : xwr ((j : Int) + (-1)) = (j : Int) - 1 := by rw [xwr_g _ (by omega) (by omega)]; omega
      have st2 : c137_120 (c137_59 f fu) f f 83 (l : Int) x (i : Int) an (j : Int) 0 0 (S, G, m) = c137_59 f fu 83 (l : Int) x (i : Int) an ((j : Int) - 1) (S, G, m) := by
        have : c137_120 (c137_59 f fu) f (fx + 1) 83 (l : Int) x (i : Int) an (j : Int) 0 ((0 : Nat) : Int) (S, G, m) = _ := st_137s0 (r59 := c137_59 f fu) (r120 := c137_120 (c137_59 f fu) f fx) (an := an) (c := 0) ejj
        rw [← hfx] at this
        exact this
      exact down (st1.trans st2) (fun y => q y.1)
theorem k_137a (h : cLv S G u x l st b nv W cap K T R lo hi) (hi2 : i < R.length) : ∀ (d c fu : Nat) (an : Int), c + d = T.length → d < fu → (an = 0 ∨ an = 1) → (an = 1 ↔ ∃ k, k < c ∧ (T.getD k (0, 0)).1 = 2) → ∃ an', c137_6 f fu 83 (l : Int) x (i : Int) an (c : Int) (S, G, m) = c137_59 f f 83 (l : Int) x (i : Int) an' ((i : Int) - 1) (S, G, m) ∧ (an' = 0 ∨ an' = 1) ∧ (an' = 1 ↔ ∃ k, k < T.length ∧ (T.getD k (0, 0)).1 = 2) := by
  obtain ⟨h1, h2, h3, h4, h5, h6, h7, h8, h9, h10, h11, h12, h13⟩ := h
  obtain ⟨a1, a2, a3, a4, a5, a6, a7, a8⟩ := id h1
  obtain ⟨t1, t2, t3, t4⟩ := id h2
  have hcap := h3.2.2.2.2.2.1
  have hlc := h3.2.2.2.2.1
  intro d
  induction d with
  | zero =>
    intro c fu an e1 e2 e3 e4
    obtain ⟨fu, rfl⟩ : ∃ t, fu = t + 1 := ⟨fu - 1, by omega⟩
    have hc : c = T.length := by omega
    subst hc
    have ej : xwr ((i : Int) - 1) = (i : Int) - 1 := xwr_g _ (by omega) (by omega)
    exact ⟨an, st_137f (r6 := c137_6 f fu) a1 a3 a4 a5.1 a5.2.2.2.2.1 a6.2.2.2.1 t1 t2 ej, e3, e4⟩
  | succ d ih =>
    intro c fu an e1 e2 e3 e4
    obtain ⟨fu, rfl⟩ : ∃ t, fu = t + 1 := ⟨fu - 1, by omega⟩
    have hc : c < T.length := by omega
    have e5 : xwr ((xwr (4 * (l : Int))) + (c : Int)) = ((4 * l + c : Nat) : Int) := by rw [xwr_g (4 * (l : Int)) (by omega) (by omega), xwr_g _ (by omega) (by omega)]; omega
    have ec : xwr ((c : Int) + 1) = ((c + 1 : Nat) : Int) := by rw [xwr_g _ (by omega) (by omega)]; omega
    have st1 : c137_6 f (fu + 1) 83 (l : Int) x (i : Int) an (c : Int) (S, G, m) = _ := st_137g (r6 := c137_6 f fu) a1 a3 a4 a5.1 a5.2.2.2.2.1 a5.2.2.2.2.2.1 a6.2.2.2.1 a6.2.2.2.2.1 t1 t2 hc e5 (by omega) rfl ec
    have ta := cTm_any (t4 c hc)
    rw [st1]
    have x1 : xor_ 0 0 = 0 := by decide
    have x2 : xor_ 1 0 = 1 := by decide
    have x3 : xor_ 0 1 = 1 := by decide
    have x4 : xor_ 1 1 = 1 := by decide
    refine ih (c + 1) fu _ (by omega) (by omega) ?_ ?_
    · rcases e3 with rfl | rfl <;> split <;> simp [x1, x2, x3, x4]
    · have key : (∃ k, k < c + 1 ∧ (T.getD k (0, 0)).1 = 2) ↔ (∃ k, k < c ∧ (T.getD k (0, 0)).1 = 2) ∨ (T.getD c (0, 0)).1 = 2 := by
        constructor
        · rintro ⟨k, y1, y2⟩
          by_cases ck : k = c
          · subst ck; exact .inr y2
          · exact .inl ⟨k, by omega, y2⟩
        · rintro (⟨k, y1, y2⟩ | y)
          · exact ⟨k, by omega, y2⟩
          · exact ⟨c, by omega, y⟩
      rw [key, ← e4, ← ta]
      by_cases q : G (u + 5) (4 * l + c) = 3
      · rw [if_pos q]
        refine ⟨fun _ => .inr q, fun _ => ?_⟩
        rcases e3 with rfl | rfl
        · exact x3
        · exact x4
      · rw [if_neg q]
        rcases e3 with rfl | rfl
        · rw [x1]
          exact ⟨fun y => by omega, fun y => y.elim (fun z => by omega) (fun z => absurd z q)⟩
        · rw [x2]
          exact ⟨fun _ => .inl rfl, fun _ => rfl⟩
/-- isRepeated() of a row that fits -/
theorem k_137 (hf : 600 < f) (h : cLv S G u x l st b nv W cap K T R lo hi) (hi2 : i < R.length) (h88 : G 88 st = (fi : Int)) {la : Nat} {vl : Nat → Int} (hrn : isRn R T b vl fi la) {b' : Nat} {vl' : Nat → Int} (hfit : fitR T lo hi b vl (R.getD i dRw) = some (b', vl')) : ∃ v : Int, c137 f 83 (l : Int) x (i : Int) (S, G, m) = some (v, (S, G, m)) ∧ (v = 0 ∨ v = 1) ∧ (v = 1 ↔ isRp T lo hi R i) := by
  have hb := h
  obtain ⟨h1, h2, h3, h4, h5, h6, h7, h8, h9, h10, h11, h12, h13⟩ := h
  have hR := h3.2.2.2.2.2.2.2
  have t3 := h2.2.2.1
  obtain ⟨an, g1, g2, g3⟩ := k_137a (f := f) (m := m) hb hi2 T.length 0 f 0 (by omega) (by omega) (.inl rfl) ⟨fun y => by omega, fun ⟨k, y, _⟩ => by omega⟩
  have g1' : c137 f 83 (l : Int) x (i : Int) (S, G, m) = _ := g1
  obtain ⟨kl, k1, k2⟩ := hrn.2.2
  have hi3 := k2 i hi2 (k1.fit h6 (by rw [(hR i hi2).1, h5]) hfit)
  rcases g2 with g2 | g2
  · obtain ⟨fx, hfx⟩ : ∃ t, f = t + 1 := ⟨f - 1, by omega⟩
    have e0 : c137_59 f f 83 (l : Int) x (i : Int) an ((i : Int) - 1) (S, G, m) = some (0, (S, G, m)) := by
      have : c137_59 f (fx + 1) 83 (l : Int) x (i : Int) 0 ((i : Int) - 1) (S, G, m) = some (0, (S, G, m)) := st_137o0 (r59 := c137_59 f fx)
      rw [← hfx] at this
      rw [g2]; exact this
    refine ⟨0, g1'.trans e0, .inl rfl, fun y => by omega, fun y => ?_⟩
    have := g3.mpr y.1
    omega
  · obtain ⟨v, v1, v2, v3⟩ := k_137j (f := f) (m := m) (an := an) (by omega) hb hi2 h88 (by omega) (i - fi) i f (by omega) (Nat.le_refl _) (by have := h3.2.2.2.2.1; have := h3.2.2.2.2.2.1; omega)
    refine ⟨v, g1'.trans v1, v2, v3.trans ⟨fun ⟨j, y1, y2, y3, y4⟩ => ⟨g3.mp g2, j, y2, y3, y4⟩, fun ⟨_, j, y2, y3, y4⟩ => ⟨j, ?_, y2, y3, y4⟩⟩⟩
    refine (k2 j (by omega) ?_).1
    have hti := k1.fit h6 (by rw [(hR i hi2).1, h5]) hfit
    refine Eq.trans ?_ hti
    have li := (hR i hi2).1
    have lj := (hR j (by omega)).1
    have hk := k1.1
    refine List.ext_getElem (by rw [List.length_take, List.length_take, li, lj]) (fun c c1 c2 => ?_)
    rw [List.length_take] at c1 c2
    rw [List.getElem_take, List.getElem_take]
    have hck : c < kl.length := by omega
    have sm := y4 c (by omega)
    have hne : (T.getD c (0, 0)).1 ≠ 2 := by
      rcases k1.2 c hck with ⟨q1, _⟩ | ⟨q1, _⟩ <;> omega
    rcases sm with q | q
    · exact absurd q hne
    · have q1 : (R.getD i dRw).1.getD c 0 = (R.getD i dRw).1[c]'(by omega) := getD_e (by omega)
      have q2 : (R.getD j dRw).1.getD c 0 = (R.getD j dRw).1[c]'(by omega) := getD_e (by omega)
      exact q2.symm.trans (q.symm.trans q1)
end
