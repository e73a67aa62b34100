/-! merge: findMeeting -/
def fLe (a b : pFc) : Prop := a = b ∨ fLt a b
theorem fLe_tr {a b c : pFc} (h1 : fLe a b) (h2 : fLe b c) : fLe a c := by
  rcases h1 with rfl | h1
  · exact h2
  · rcases h2 with rfl | h2
    · exact .inr h1
    · exact .inr (fLt_tr h1 h2)
theorem fLe_at {F : List pFc} (hs : F.Pairwise fLt) {i j : Nat} (hij : i ≤ j) (hj : j < F.length) : fLe (F.getD i dFc) (F.getD j dFc) := by
  by_cases c : i = j
  · rw [c]; exact .inl rfl
  · exact .inr (srt_get hs (by omega) hj)
theorem vCmp_tk : ∀ (k : Nat) (xs ys : List Int), vCmp xs ys < 0 → vCmp (xs.take k) (ys.take k) ≤ 0
  | 0, xs, ys, _ => by
    rw [List.take_zero, List.take_zero]
    exact Int.le_refl _
  | k + 1, [], ys, h => by
    cases ys with
    | nil => exact absurd (show (0 : Int) < 0 from h) (by decide)
    | cons y ys => exact absurd (show (0 : Int) < 0 from h) (by decide)
  | k + 1, x :: xs, [], h => absurd (show (0 : Int) < 0 from h) (by decide)
  | k + 1, x :: xs, y :: ys, h => by
    show (if x = y then vCmp (xs.take k) (ys.take k) else if x < y then -1 else 1) ≤ 0
    have h' : (if x = y then vCmp xs ys else if x < y then -1 else 1) < 0 := h
    by_cases c : x = y
    · rw [if_pos c] at h' ⊢
      exact vCmp_tk k xs ys h'
    · rw [if_neg c] at h' ⊢
      by_cases d : x < y
      · rw [if_pos d]; decide
      · rw [if_neg d] at h'
        exact absurd h' (by decide)
theorem fLe_ky {nm : Int} {v w : List Int} {k : Nat} (hl : v.length = w.length) (h : fLe (nm, v) (nm, w)) : vCmp (v.take k) (w.take k) ≤ 0 := by
  rcases h with h | h
  · have e : v = w := (Prod.mk.inj h).2
    rw [e, vCmp_self]
    exact Int.le_refl _
  · exact vCmp_tk k v w ((vLt_iff hl).mp (fLt_v.mp h))
/-- the least KEY that meets -/
def isMt (A B Z : List pFc) (nm : Int) (k : Nat) (κ : List Int) : Prop := mtF A B Z nm k κ ∧ κ.length = k ∧ ∀ κ', mtF A B Z nm k κ' → vCmp κ κ' ≤ 0
section
variable {f p k n : Nat} {nm : Int}
theorem l_327_293 {c x : Nat} {w : List Int} (hk : k ≤ 4) (hc : c < 257) (hx : x < 3400) : ∀ (d t fu : Nat) (G : xG_), t + d = k → d < fu → G 0 83 = (k : Int) → (∀ j, j < k → G (c + 2) (4 * x + j) = w.getD j 0) → (∀ j, j < t → G 257 j = w.getD j 0) → c + 2 ≠ 257 →
    ∃ G', g327_293 f fu c (x : Int) (t : Int) G = some (1, G') ∧ (∀ j, j < k → G' 257 j = w.getD j 0) ∧ ∀ a j, a ≠ 257 → G' a j = G a j := by
  intro d
  induction d with
  | zero =>
    intro t fu G h1 h2 h3 h4 h5 h6
    obtain ⟨fu, rfl⟩ : ∃ t, fu = t + 1 := ⟨fu - 1, by omega⟩
    refine ⟨G, ?_, fun j hj => h5 j (by omega), fun _ _ _ => rfl⟩
    show g327_293b (g327_293 f fu) f _ _ _ _ = _
    unfold g327_293b
    rw [h3, if_pos (by omega)]
  | succ d ih =>
    intro t fu G h1 h2 h3 h4 h5 h6
    obtain ⟨fu, rfl⟩ : ∃ t, fu = t + 1 := ⟨fu - 1, by omega⟩
    have et : xwr ((t : Int) + 1) = ((t + 1 : Nat) : Int) := by rw [xwr_g _ (by omega) (by omega)]; omega
    have e4 : xwr (xwr (4 * (x : Int)) + (t : Int)) = ((4 * x + t : Nat) : Int) := by rw [xwr_g (4 * (x : Int)) (by omega) (by omega), xwr_g _ (by omega) (by omega)]; omega
    obtain ⟨G', u1, u2, u3⟩ := ih (t + 1) fu (xup2 G 257 t (w.getD t 0)) (by omega) (by omega) (by rw [xup2_n (by omega)]; exact h3) (fun j hj => by rw [xup2_n (by omega)]; exact h4 j hj) (fun j hj => by
      by_cases c : j = t
      · rw [c, xup2_s]
      · rw [xup2_n (by omega)]; exact h5 j (by omega)) h6
    refine ⟨G', ?_, u2, fun a j q => by rw [u3 a j q, xup2_n (by omega)]⟩
    show g327_293b (g327_293 f fu) f _ _ _ _ = _
    unfold g327_293b
    rw [h3, if_neg (by omega), e4, if_pos (by omega), if_pos (by omega), Int.toNat_natCast, Int.toNat_natCast, h4 t (by omega), Option.bind_some, et]
    exact u1
theorem l_327_46 {G : xG_} {a b : Nat} {A B Z : List pFc} {r2 : Nat → Nat → Int → xG_ → Option (Int × xG_)} (hf : 7000 < f) (ha : isFb (a + 1)) (hb : isFb (b + 1)) (hb2 : b + 1 < 243) (hA : rFa G (a + 1) A) (hB : rFa G (b + 1) B) (hZ : rFa G 253 Z) (wA : wKf A nm k n) (wB : wKf B nm k n) (wZ : wKf Z nm k n) (hk1 : 1 ≤ k) (hkn : k ≤ n) (hn4 : n ≤ 4) (hp : p < 16) (h3 : G (2 + 1) p = nm) (h5 : G (2 + 3) p = (k : Int)) : ∀ (d i j fu : Nat), (B.length - i) + (Z.length - j) ≤ d → i ≤ B.length → j ≤ Z.length → d < fu → (∀ y, y < i → (B.getD y dFc).1 = nm → ¬ mtF A B Z nm k ((B.getD y dFc).2.take k)) → (∀ y, y < j → (Z.getD y dFc).1 = nm → (∃ v, (nm, v) ∈ B ∧ v.take k = (Z.getD y dFc).2.take k) ∨ ¬ mtF A B Z nm k ((Z.getD y dFc).2.take k)) →
    (g327_46 r2 f fu a b (p : Int) (i : Int) (j : Int) G = r2 a b ((p + 1 : Nat) : Int) G ∧ ∀ κ, ¬ mtF A B Z nm k κ) ∨ ∃ κ G', g327_46 r2 f fu a b (p : Int) (i : Int) (j : Int) G = some (1, G') ∧ isMt A B Z nm k κ ∧ rMt G' ((p : Int), κ) ∧ ∀ a j, ¬ (a = 0 ∧ (j = 82 ∨ j = 83)) → a ≠ 257 → G' a j = G a j := by
  have h253 : isFb 253 := by unfold isFb; omega
  have hlB := hB.2.1
  have hlZ := hZ.2.1
  intro d
  induction d with
  | zero =>
    intro i j fu h1 h2 h2' h4 hI hJ
    obtain ⟨fu, rfl⟩ : ∃ t, fu = t + 1 := ⟨fu - 1, by omega⟩
    have hi : i = B.length := by omega
    have hj : j = Z.length := by omega
    have ep : xwr ((p : Int) + 1) = ((p + 1 : Nat) : Int) := by rw [xwr_g _ (by omega) (by omega)]; omega
    refine .inl ⟨?_, fun κ hm => ?_⟩
    · show g327_46b r2 (g327_46 r2 f fu) f _ _ _ _ _ _ = _
      unfold g327_46b g327_363
      rw [hB.1, hZ.1, if_neg (by omega), if_pos (by omega), ep]
    · have inB : ∀ v, (nm, v) ∈ B → v.take k = κ → False := fun v hv e => by
        obtain ⟨y, y1, y2⟩ := List.getElem_of_mem hv
        have e2 : B.getD y dFc = (nm, v) := by rw [getD_e y1]; exact y2
        exact hI y (by omega) (by rw [e2]) (by rw [e2]; show mtF A B Z nm k (v.take k); rw [e]; exact hm)
      refine hm.2.1 (fun v hv => ⟨fun q => absurd hv (fun e => inB v q e), fun q => ?_⟩)
      obtain ⟨y, y1, y2⟩ := List.getElem_of_mem q
      have e2 : Z.getD y dFc = (nm, v) := by rw [getD_e y1]; exact y2
      rcases hJ y (by omega) (by rw [e2]) with ⟨u, u1, u2⟩ | u
      · rw [e2] at u2
        have u2' : u.take k = v.take k := u2
        exact absurd (u2'.trans hv) (fun e => inB u u1 e)
      · rw [e2] at u
        have u' : ¬ mtF A B Z nm k (v.take k) := u
        rw [hv] at u'
        exact absurd hm u'
  | succ d ih =>
    intro i j fu h1 h2 h2' h4 hI hJ
    by_cases hend : i = B.length ∧ j = Z.length
    · exact ih i j fu (by omega) h2 h2' (by omega) hI hJ
    obtain ⟨fu, rfl⟩ : ∃ t, fu = t + 1 := ⟨fu - 1, by omega⟩
    have e0 : g327_46 r2 f (fu + 1) a b (p : Int) (i : Int) (j : Int) G = g327_70 r2 (g327_46 r2 f fu) f a b (p : Int) (i : Int) (j : Int) G := by
      show g327_46b r2 (g327_46 r2 f fu) f _ _ _ _ _ _ = _
      unfold g327_46b
      rw [hB.1, hZ.1]
      by_cases c : i < B.length
      · rw [if_pos (by omega)]
      · rw [if_neg (by omega), if_neg (by omega)]
    -- which fact comes next
    obtain ⟨cc, c1, c2⟩ : ∃ cc : Int, g327_70 r2 (g327_46 r2 f fu) f a b (p : Int) (i : Int) (j : Int) G = g327_167 r2 (g327_46 r2 f fu) f a b (p : Int) (i : Int) (j : Int) cc G ∧ ((0 < cc ∧ j < Z.length ∧ (i < B.length → fLt (Z.getD j dFc) (B.getD i dFc))) ∨ (cc ≤ 0 ∧ i < B.length ∧ (j < Z.length → (cc = 0 ∧ B.getD i dFc = Z.getD j dFc) ∨ (cc < 0 ∧ fLt (B.getD i dFc) (Z.getD j dFc))) ∧ (j = Z.length → cc < 0))) := by
      unfold g327_70
      rw [hB.1, hZ.1]
      by_cases ci : i = B.length
      · refine ⟨1, by rw [if_neg (fun q => q (by omega))], .inl ⟨by decide, by omega, fun q => by omega⟩⟩
      · by_cases cj : j = Z.length
        · refine ⟨-1, by rw [if_pos (by omega), if_neg (fun q => q (by omega))], .inr ⟨by decide, by omega, fun q => by omega, fun _ => by decide⟩⟩
        · have hi : i < B.length := by omega
          have hj : j < Z.length := by omega
          obtain ⟨x1, x2, x3, x4⟩ := hB.2.2 i hi
          obtain ⟨y1, y2, y3, y4⟩ := hZ.2.2 j hj
          have vB := rFa.tk (k := (B.getD i dFc).2.length) hb hB hi (Nat.le_refl _)
          have vZ := rFa.tk (k := (Z.getD j dFc).2.length) h253 hZ hj (Nat.le_refl _)
          rw [List.take_length] at vB vZ
          have ei : xwr (4 * (i : Int)) = ((4 * i : Nat) : Int) := by rw [xwr_g _ (by omega) (by omega)]; omega
          have ej : xwr (4 * (j : Int)) = ((4 * j : Nat) : Int) := by rw [xwr_g _ (by omega) (by omega)]; omega
          have hcmp := l_195 (f := f) (u := (B.getD i dFc).1) (v := (Z.getD j dFc).1) (by omega) vB vZ
          refine ⟨fCmp (B.getD i dFc) (Z.getD j dFc), ?_, ?_⟩
          · rw [if_pos (by omega), if_pos (by omega), if_pos (by omega), if_pos (by omega), if_pos (by omega), if_pos (by omega), Int.toNat_natCast, Int.toNat_natCast, x1, x2, y1, y2, ei, ej, hcmp, Option.bind_some]
          · rcases fCmp_in (B.getD i dFc) (Z.getD j dFc) with q | q | q
            · exact .inr ⟨by omega, hi, fun _ => .inr ⟨by omega, by show fCmp _ _ < 0; omega⟩, fun z => absurd z cj⟩
            · exact .inr ⟨by omega, hi, fun _ => .inl ⟨q, fCmp_eq q⟩, fun z => absurd z cj⟩
            · refine .inl ⟨by omega, hj, fun _ => ?_⟩
              show fCmp _ _ < 0
              rw [fCmp_anti]
              omega
    rw [e0, c1]
    -- go on behind it
    have next : ∀ (i' j' : Nat), i ≤ i' → i' ≤ i + 1 → j ≤ j' → j' ≤ j + 1 → i' ≤ B.length → j' ≤ Z.length → (i < i' ∨ j < j') → (∀ y, y < i' → (B.getD y dFc).1 = nm → ¬ mtF A B Z nm k ((B.getD y dFc).2.take k)) → (∀ y, y < j' → (Z.getD y dFc).1 = nm → (∃ v, (nm, v) ∈ B ∧ v.take k = (Z.getD y dFc).2.take k) ∨ ¬ mtF A B Z nm k ((Z.getD y dFc).2.take k)) → ∀ r, r = g327_46 r2 f fu a b (p : Int) (i' : Int) (j' : Int) G → (r = r2 a b ((p + 1 : Nat) : Int) G ∧ ∀ κ, ¬ mtF A B Z nm k κ) ∨ ∃ κ G', r = some (1, G') ∧ isMt A B Z nm k κ ∧ rMt G' ((p : Int), κ) ∧ ∀ a j, ¬ (a = 0 ∧ (j = 82 ∨ j = 83)) → a ≠ 257 → G' a j = G a j := fun i' j' q1 q2 q3 q4 q5 q6 q7 q8 q9 r hr => by
      rw [hr]
      exact ih i' j' fu (by omega) q5 q6 (by omega) q8 q9
    -- found
    have found : ∀ (c x : Nat) (OF : List pFc), (c = b + 1 ∧ OF = B ∨ c = 253 ∧ OF = Z) → rFa G c OF → x < OF.length → (OF.getD x dFc).1 = nm → (∀ y, i ≤ y → y < B.length → fLe (OF.getD x dFc) (B.getD y dFc)) → (∀ y, j ≤ y → y < Z.length → fLe (OF.getD x dFc) (Z.getD y dFc)) → (OF.getD x dFc).2.length = n → mtF A B Z nm k ((OF.getD x dFc).2.take k) → ∀ r, r = ((some (xup2 G (0) 82 (p : Int))).bind fun G120 => (if 0 ≤ (p : Int) ∧ (p : Int) < 16 then ((some (xup2 G120 (0) 83 (G120 (2 + 3) (p : Int).toNat))).bind fun G125 => g327_293 f f c (x : Int) (0) G125) else none)) → ∃ κ G', r = some (1, G') ∧ isMt A B Z nm k κ ∧ rMt G' ((p : Int), κ) ∧ ∀ a j, ¬ (a = 0 ∧ (j = 82 ∨ j = 83)) → a ≠ 257 → G' a j = G a j := fun c x OF hc hO hx hnm hmB hmZ hlen hm r hr => by
      obtain ⟨q1, q2, q3, q4⟩ := hO.2.2 x hx
      have hlO := hO.2.1
      have hc2 : c < 257 ∧ c + 2 ≠ 257 ∧ c ≠ 0 := by
        rcases hc with q | q <;> omega
      obtain ⟨G', u1, u2, u3⟩ := l_327_293 (f := f) (k := k) (c := c) (x := x) (w := (OF.getD x dFc).2) (by omega) hc2.1 (by omega) k 0 f (xup2 (xup2 G 0 82 (p : Int)) 0 83 (k : Int)) (by omega) (by omega) (xup2_s _ _ _ _) (fun t ht => by rw [xup2_n (by omega), xup2_n (by omega)]; exact q4 t (by omega)) (fun t ht => absurd ht (Nat.not_lt_zero t)) hc2.2.1
      have hkl : ((OF.getD x dFc).2.take k).length = k := by rw [List.length_take]; omega
      refine ⟨(OF.getD x dFc).2.take k, G', ?_, ⟨hm, hkl, fun κ' hm' => ?_⟩, ⟨?_, ?_, by rw [hkl]; omega, fun t ht => ?_⟩, fun a j y1 y2 => by rw [u3 a j y2, xup2_n (by omega), xup2_n (by omega)]⟩
      · rw [hr, Option.bind_some, if_pos (by omega), xup2_n (by omega), Int.toNat_natCast, h5, Option.bind_some]
        exact u1
      · -- the least
        have le : ∀ w, w.length = n → fLe (OF.getD x dFc) (nm, w) → w.take k = κ' → vCmp ((OF.getD x dFc).2.take k) κ' ≤ 0 := fun w hw hle e => by
          rw [← e]
          have e2 : OF.getD x dFc = (nm, (OF.getD x dFc).2) := Prod.ext hnm rfl
          rw [e2] at hle
          exact fLe_ky (by rw [hlen, hw]) hle
        have fromB : ∀ v, (nm, v) ∈ B → v.take k = κ' → vCmp ((OF.getD x dFc).2.take k) κ' ≤ 0 := fun v hv e => by
          obtain ⟨y, y1, y2⟩ := List.getElem_of_mem hv
          have e2 : B.getD y dFc = (nm, v) := by rw [getD_e y1]; exact y2
          by_cases cy : y < i
          · exact absurd (by rw [e2]; show mtF A B Z nm k (v.take k); rw [e]; exact hm') (hI y cy (by rw [e2]))
          · have := hmB y (by omega) y1
            rw [e2] at this
            exact le v (wB.2.1 v hv) this e
        by_cases cB : ∃ v, (nm, v) ∈ B ∧ v.take k = κ'
        · obtain ⟨v, v1, v2⟩ := cB
          exact fromB v v1 v2
        · by_cases cZ : ∃ v, (nm, v) ∈ Z ∧ v.take k = κ'
          · obtain ⟨v, v1, v2⟩ := cZ
            obtain ⟨y, y1, y2⟩ := List.getElem_of_mem v1
            have e2 : Z.getD y dFc = (nm, v) := by rw [getD_e y1]; exact y2
            by_cases cy : y < j
            · rcases hJ y cy (by rw [e2]) with ⟨u, u1, u2⟩ | u
              · rw [e2] at u2
                have u2' : u.take k = v.take k := u2
                exact absurd ⟨u, u1, u2'.trans v2⟩ cB
              · rw [e2] at u
                have u' : ¬ mtF A B Z nm k (v.take k) := u
                rw [v2] at u'
                exact absurd hm' u'
            · have := hmZ y (by omega) y1
              rw [e2] at this
              exact le v (wZ.2.1 v v1) this v2
          · exact absurd (fun v hv => ⟨fun q => absurd ⟨v, q, hv⟩ cB, fun q => absurd ⟨v, q, hv⟩ cZ⟩) hm'.2.1
      · rw [u3 _ _ (by omega), xup2_n (by omega), xup2_s]
      · rw [u3 _ _ (by omega), xup2_s, hkl]
      · rw [hkl] at ht
        rw [u2 t ht, getD_tk ht]
    have ei : xwr ((i : Int) + 1) = ((i + 1 : Nat) : Int) := by rw [xwr_g _ (by omega) (by omega)]; omega
    have ei0 : xwr ((i : Int) + 0) = (i : Int) := by rw [xwr_g _ (by omega) (by omega)]; omega
    have ej : xwr ((j : Int) + 1) = ((j + 1 : Nat) : Int) := by rw [xwr_g _ (by omega) (by omega)]; omega
    have ej0 : xwr ((j : Int) + 0) = (j : Int) := by rw [xwr_g _ (by omega) (by omega)]; omega
    rcases c2 with ⟨d1, d2, d3⟩ | ⟨d1, d2, d3, d4⟩
    · -- a fact of the fork
      obtain ⟨q1, q2, q3, q4⟩ := hZ.2.2 j d2
      have e330 : g327_330 r2 (g327_46 r2 f fu) f a b (p : Int) (i : Int) (j : Int) cc G = g327_46 r2 f fu a b (p : Int) (i : Int) ((j + 1 : Nat) : Int) G := by
        unfold g327_330 g327_342 g327_357
        rw [if_pos d1, if_neg (by omega), ei0, ej]
      have hmB : ∀ y, i ≤ y → y < B.length → fLe (Z.getD j dFc) (B.getD y dFc) := fun y y1 y2 => fLe_tr (.inr (d3 (by omega))) (fLe_at wB.1 y1 y2)
      have hmZ : ∀ y, j ≤ y → y < Z.length → fLe (Z.getD j dFc) (Z.getD y dFc) := fun y y1 y2 => fLe_at wZ.1 y1 y2
      have e199 : g327_167 r2 (g327_46 r2 f fu) f a b (p : Int) (i : Int) (j : Int) cc G = g327_199 r2 (g327_46 r2 f fu) f a b (p : Int) (i : Int) (j : Int) cc 253 (j : Int) G := by
        unfold g327_167 g327_185
        rw [if_pos d1, if_pos d1]
      rw [e199]
      by_cases cn : (Z.getD j dFc).1 = nm
      · have hlen := wZ.2.1 _ (mem_at d2 cn)
        obtain ⟨x, x1, x2⟩ := l_skey (f := f) (w := (Z.getD j dFc).2) (by omega) hb h253 hB hZ wB hkn d2 (Prod.ext cn rfl) hlen hp h3 h5 B.length 0 f (by omega) (by omega) (fun y hy => absurd hy (Nat.not_lt_zero y))
        have x1' : g323 f (b + 1) (p : Int) 253 (j : Int) G = some (x, G) := x1
        have e1 : g327_199 r2 (g327_46 r2 f fu) f a b (p : Int) (i : Int) (j : Int) cc 253 (j : Int) G = (if ¬ x = (-1) then g327_250 r2 (g327_46 r2 f fu) f a b (p : Int) (i : Int) (j : Int) cc 253 (j : Int) G else g327_246 r2 (g327_46 r2 f fu) f a b (p : Int) (i : Int) (j : Int) cc 253 (j : Int) G) := by
          unfold g327_199
          rw [if_pos (by omega), if_pos (by omega), Int.toNat_natCast, Int.toNat_natCast, q1, h3, if_neg (fun q => q cn), if_neg (by omega), x1', Option.bind_some]
        rw [e1]
        by_cases cx : x = -1
        · obtain ⟨r, m1, m2, m3⟩ := l_meets (f := f) (w := (Z.getD j dFc).2) (by omega) ha hb h253 hA hB hZ hZ wA wB wZ hkn d2 (Prod.ext cn rfl) hlen hp h3 h5
          have e2 : (if ¬ x = (-1) then g327_250 r2 (g327_46 r2 f fu) f a b (p : Int) (i : Int) (j : Int) cc 253 (j : Int) G else g327_246 r2 (g327_46 r2 f fu) f a b (p : Int) (i : Int) (j : Int) cc 253 (j : Int) G) = (if r = 0 then g327_330 r2 (g327_46 r2 f fu) f a b (p : Int) (i : Int) (j : Int) cc G else ((some (xup2 G (0) 82 (p : Int))).bind fun G120 => (if 0 ≤ (p : Int) ∧ (p : Int) < 16 then ((some (xup2 G120 (0) 83 (G120 (2 + 3) (p : Int).toNat))).bind fun G125 => g327_293 f f 253 (j : Int) (0) G125) else none))) := by
            unfold g327_246 g327_251
            rw [if_neg (fun q => q cx), if_neg (by decide), m1, Option.bind_some]
          rw [e2]
          by_cases cr : r = 0
          · rw [if_pos cr]
            have hno : ¬ mtF A B Z nm k ((Z.getD j dFc).2.take k) := fun q => by rw [m3.mpr q] at cr; exact absurd cr (by decide)
            refine next i (j + 1) (Nat.le_refl _) (by omega) (by omega) (Nat.le_refl _) h2 (by omega) (.inr (by omega)) hI (fun y hy hn => ?_) _ e330
            by_cases cy : y = j
            · rw [cy]; exact .inr hno
            · exact hJ y (by omega) hn
          · rw [if_neg cr]
            exact .inr (found 253 j Z (.inr ⟨rfl, rfl⟩) hZ d2 cn hmB hmZ hlen (m3.mp (m2.resolve_left cr)) _ rfl)
        · have e2 : (if ¬ x = (-1) then g327_250 r2 (g327_46 r2 f fu) f a b (p : Int) (i : Int) (j : Int) cc 253 (j : Int) G else g327_246 r2 (g327_46 r2 f fu) f a b (p : Int) (i : Int) (j : Int) cc 253 (j : Int) G) = g327_330 r2 (g327_46 r2 f fu) f a b (p : Int) (i : Int) (j : Int) cc G := by
            unfold g327_250 g327_251
            rw [if_pos cx, if_pos rfl]
          rw [e2]
          refine next i (j + 1) (Nat.le_refl _) (by omega) (by omega) (Nat.le_refl _) h2 (by omega) (.inr (by omega)) hI (fun y hy hn => ?_) _ e330
          by_cases cy : y = j
          · rw [cy]
            rcases x2 with ⟨z, _⟩ | ⟨u, u1, u2, u3, u4⟩
            · exact absurd z cx
            · exact .inl ⟨_, mem_at u2 u3, u4⟩
          · exact hJ y (by omega) hn
      · have e1 : g327_199 r2 (g327_46 r2 f fu) f a b (p : Int) (i : Int) (j : Int) cc 253 (j : Int) G = g327_330 r2 (g327_46 r2 f fu) f a b (p : Int) (i : Int) (j : Int) cc G := by
          unfold g327_199 g327_250 g327_251
          rw [if_pos (by omega), if_pos (by omega), Int.toNat_natCast, Int.toNat_natCast, q1, h3, if_pos cn, if_pos rfl]
        rw [e1]
        refine next i (j + 1) (Nat.le_refl _) (by omega) (by omega) (Nat.le_refl _) h2 (by omega) (.inr (by omega)) hI (fun y hy hn => ?_) _ e330
        by_cases cy : y = j
        · rw [cy] at hn; exact absurd hn cn
        · exact hJ y (by omega) hn
    · -- a fact of the other line
      obtain ⟨q1, q2, q3, q4⟩ := hB.2.2 i d2
      obtain ⟨j', j1, j2, e330⟩ : ∃ j', (j' = j ∧ cc < 0 ∨ j' = j + 1 ∧ cc = 0 ∧ j < Z.length ∧ B.getD i dFc = Z.getD j dFc) ∧ j' ≤ Z.length ∧ g327_330 r2 (g327_46 r2 f fu) f a b (p : Int) (i : Int) (j : Int) cc G = g327_46 r2 f fu a b (p : Int) ((i + 1 : Nat) : Int) (j' : Int) G := by
        unfold g327_330 g327_342 g327_357
        by_cases cz : cc < 0
        · exact ⟨j, .inl ⟨rfl, cz⟩, h2', by rw [if_neg (by omega), if_pos cz, ei, ej0]⟩
        · have hj : j < Z.length := by
            by_cases q : j = Z.length
            · exact absurd (d4 q) cz
            · omega
          rcases d3 hj with ⟨z1, z2⟩ | ⟨z1, z2⟩
          · exact ⟨j + 1, .inr ⟨rfl, z1, hj, z2⟩, by omega, by rw [if_neg (by omega), if_neg cz, ei, ej]⟩
          · exact absurd z1 cz
      have hle : ∀ y, j ≤ y → y < Z.length → fLe (B.getD i dFc) (Z.getD y dFc) := fun y y1 y2 => by
        rcases d3 (by omega) with ⟨z1, z2⟩ | ⟨z1, z2⟩
        · rw [z2]; exact fLe_at wZ.1 y1 y2
        · exact fLe_tr (.inr z2) (fLe_at wZ.1 y1 y2)
      have e199 : g327_167 r2 (g327_46 r2 f fu) f a b (p : Int) (i : Int) (j : Int) cc G = g327_199 r2 (g327_46 r2 f fu) f a b (p : Int) (i : Int) (j : Int) cc (b + 1) (i : Int) G := by
        unfold g327_167 g327_185
        rw [if_neg (by omega), if_neg (by omega)]
      rw [e199]
      by_cases cn : (B.getD i dFc).1 = nm
      · have hlen := wB.2.1 _ (mem_at d2 cn)
        obtain ⟨r, m1, m2, m3⟩ := l_meets (f := f) (w := (B.getD i dFc).2) (by omega) ha hb hb hA hB hZ hB wA wB wZ hkn d2 (Prod.ext cn rfl) hlen hp h3 h5
        have e2 : g327_199 r2 (g327_46 r2 f fu) f a b (p : Int) (i : Int) (j : Int) cc (b + 1) (i : Int) G = (if r = 0 then g327_330 r2 (g327_46 r2 f fu) f a b (p : Int) (i : Int) (j : Int) cc G else ((some (xup2 G (0) 82 (p : Int))).bind fun G120 => (if 0 ≤ (p : Int) ∧ (p : Int) < 16 then ((some (xup2 G120 (0) 83 (G120 (2 + 3) (p : Int).toNat))).bind fun G125 => g327_293 f f (b + 1) (i : Int) (0) G125) else none))) := by
          unfold g327_199 g327_246 g327_251
          rw [if_pos (by omega), if_pos (by omega), Int.toNat_natCast, Int.toNat_natCast, q1, h3, if_neg (fun q => q cn), if_pos d1, if_neg (by decide), m1, Option.bind_some]
        rw [e2]
        by_cases cr : r = 0
        · rw [if_pos cr]
          have hno : ¬ mtF A B Z nm k ((B.getD i dFc).2.take k) := fun q => by rw [m3.mpr q] at cr; exact absurd cr (by decide)
          refine next (i + 1) j' (by omega) (Nat.le_refl _) (by omega) (by omega) (by omega) j2 (.inl (by omega)) (fun y hy hn => ?_) (fun y hy hn => ?_) _ e330
          · by_cases cy : y = i
            · rw [cy]; exact hno
            · exact hI y (by omega) hn
          · by_cases cy : y < j
            · exact hJ y cy hn
            · rcases j1 with z | ⟨z1, z2, z3, z4⟩
              · omega
              · have : y = j := by omega
                rw [this, ← z4]
                exact .inr hno
        · rw [if_neg cr]
          exact .inr (found (b + 1) i B (.inl ⟨rfl, rfl⟩) hB d2 cn (fun y y1 y2 => fLe_at wB.1 y1 y2) hle hlen (m3.mp (m2.resolve_left cr)) _ rfl)
      · have e1 : g327_199 r2 (g327_46 r2 f fu) f a b (p : Int) (i : Int) (j : Int) cc (b + 1) (i : Int) G = g327_330 r2 (g327_46 r2 f fu) f a b (p : Int) (i : Int) (j : Int) cc G := by
          unfold g327_199 g327_250 g327_251
          rw [if_pos (by omega), if_pos (by omega), Int.toNat_natCast, Int.toNat_natCast, q1, h3, if_pos cn, if_pos rfl]
        rw [e1]
        refine next (i + 1) j' (by omega) (Nat.le_refl _) (by omega) (by omega) (by omega) j2 (.inl (by omega)) (fun y hy hn => ?_) (fun y hy hn => ?_) _ e330
        · by_cases cy : y = i
          · rw [cy] at hn; exact absurd hn cn
          · exact hI y (by omega) hn
        · by_cases cy : y < j
          · exact hJ y cy hn
          · rcases j1 with z | ⟨z1, z2, z3, z4⟩
            · omega
            · have : y = j := by omega
              rw [this, ← z4] at hn
              exact absurd hn cn
end
