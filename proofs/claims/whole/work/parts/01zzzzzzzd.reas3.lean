/-! reason() of the reference -/
/-- a WAY of a rule that gives the row as of p over rows in use before rk -/
def rsW (s : pPg) (M : Nat → List pRw) (p : Nat) (as : List Int) (rk : Int) (u : pRu) (v : List Int) : Prop := isW u.2.2.2.2.2 u.2.2.2.2.1.length M (qOp (qK s) (qK s p : Int) rk) v ∧ qMk u.2.2.2.1 (-1) (vF v) u.2.2.2.1.length = some as
/-- a rule that gives the row -/
def rsG (s : pPg) (M : Nat → List pRw) (p : Nat) (as : List Int) (rk : Int) (u : pRu) : Prop := u.1 = (p : Int) ∧ ((qG u = 0 ∧ ∃ v, rsW s M p as rk u v) ∨ (qG u ≠ 0 ∧ rk = 1 ∧ ∃ ks, gDs u.2.2.2.2.2 u.2.2.2.2.1.length M qO1 (qG u) u.2.2.1.2.2 u.2.2.2.1 u.2.2.1.2.1.toNat ks as))
/-- what reason tells of a row -/
def rsA (s : pPg) (M : Nat → List pRw) (p : Nat) (as : List Int) (rk k v : Int) : Prop :=
  (∃ r, r < s.2.2.2.2.1.length ∧ rsG s M p as rk (s.2.2.2.2.1.getD r dRu) ∧ (∀ i, i < r → ¬ rsG s M p as rk (s.2.2.2.2.1.getD i dRu)) ∧
    ((k = 0 ∧ v = (r : Int)) ∨ (k ≠ 0 ∧ qG (s.2.2.2.2.1.getD r dRu) ≠ 0 ∧ v = -1) ∨ (k ≠ 0 ∧ qG (s.2.2.2.2.1.getD r dRu) = 0 ∧ ∃ b, rsW s M p as rk (s.2.2.2.2.1.getD r dRu) b ∧ (∀ x, rsW s M p as rk (s.2.2.2.2.1.getD r dRu) x → vLe b x) ∧ rsT (s.2.2.2.2.1.getD r dRu).2.2.2.2.2 M (qOp (qK s) (qK s p : Int) rk) b (k - 1).toNat v))) ∨
  ((∀ r, r < s.2.2.2.2.1.length → ¬ rsG s M p as rk (s.2.2.2.2.1.getD r dRu)) ∧ v = -1)
def xfRs (G G' : xG_) : Prop := ∀ a j, ¬ (a = 0 ∧ 37 ≤ j ∧ j ≤ 61) → ¬ (110 ≤ a ∧ a ≤ 121 ∧ a ≠ 118) → G' a j = G a j
section
variable {f q c p : Nat} {s : pPg} {M : Nat → List pRw} {as : List Int} {rk k : Int}
theorem l_374_99 (hf : 1000100 < f) (hok : qOk s) (hT : qTb s M) (hp : p < s.1.length) (has : as.length = qN s p) (hk0 : 0 ≤ k) (hk1 : k < 2147483648) :
    ∀ (d i fu : Nat) (G : xG_), i + d = s.2.2.2.2.1.length → d < fu → rEn G q c s M → G 0 54 = 0 → (∀ j, j < 4 → G 118 j = as.getD j 0) → (∀ i', i' < i → ¬ rsG s M p as rk (s.2.2.2.2.1.getD i' dRu)) →
      ∃ v G', g374_99 f fu (p : Int) k rk (i : Int) G = some (v, G') ∧ rsA s M p as rk k v ∧ xfRs G G' := by
  have hnp : s.1.length ≤ 16 := hok.1.1
  have hR' : ∀ p, p < s.1.length → (M p).length ≤ 100 ∧ ∀ w ∈ M p, ∀ x ∈ w.1, vOk x := fun p hp => ⟨(hT p hp).1, fun w hw => ((hT p hp).2.2 w hw).2⟩
  intro d
  induction d with
  | zero =>
    intro i fu G h1 h2 hE h54 h118 hno
    obtain ⟨fu, rfl⟩ : ∃ t, fu = t + 1 := ⟨fu - 1, by omega⟩
    refine ⟨-1, G, ?_, .inr ⟨fun r hr => hno r (by omega), rfl⟩, fun _ _ _ _ => rfl⟩
    show g374_99b (g374_99 f fu) f _ _ _ _ _ = _
    unfold g374_99b
    rw [hE.1.2.2.1.1, if_pos (by omega)]
  | succ d ih =>
    intro i fu G h1 h2 hE h54 h118 hno
    obtain ⟨fu, rfl⟩ : ∃ t, fu = t + 1 := ⟨fu - 1, by omega⟩
    have hi : i < s.2.2.2.2.1.length := by omega
    obtain ⟨u, eu, u1, u2, u3, u4, u5, u6, p', p1, p2, p3⟩ := rul hok hE hi
    obtain ⟨e1, e2, e3, e4⟩ := hE
    obtain ⟨t1, t2, ⟨t3, t4, t5, t6⟩, t7, t8, t9, t10, t11⟩ := u4
    obtain ⟨w1, w2, w3, w4, w5, w6, w7, w8, w9⟩ := u5
    have hrr : 0 ≤ (i : Int) ∧ (i : Int) < 25 := by omega
    have ei : xwr ((i : Int) + 1) = ((i + 1 : Nat) : Int) := by rw [xwr_g _ (by omega) (by omega)]; omega
    have h9 : G 2 9 = (s.2.2.2.2.1.length : Int) := e1.2.2.1.1
    have h15 : G (2 + 13) i = u.1 := t1
    have h18 : G 18 i = qG u := t3
    have h22 : G 22 i = (u.2.2.2.2.1.length : Int) := t10.1
    have wit := w5.2
    -- on to the next rule
    have next : ∀ G1, xfRs G G1 → G1 0 54 = 0 → ¬ rsG s M p as rk (s.2.2.2.2.1.getD i dRu) → g374_99 f (fu + 1) (p : Int) k rk (i : Int) G = g374_99 f fu (p : Int) k rk ((i + 1 : Nat) : Int) G1 → ∃ v G', g374_99 f (fu + 1) (p : Int) k rk (i : Int) G = some (v, G') ∧ rsA s M p as rk k v ∧ xfRs G G' := fun G1 hx h54' hn he => by
      obtain ⟨v, G', k1, k2, k3⟩ := ih (i + 1) fu G1 (by omega) (by omega) (rEn.ge (G := G) ⟨e1, e2, e3, e4⟩ (fun a j _ _ => hx _ _ (by omega) (by omega)) (fun a j _ _ => hx _ _ (by omega) (by omega))) h54' (fun j hj => by rw [hx _ _ (by omega) (by omega)]; exact h118 j hj) (fun i' hi' => by
        by_cases ci : i' = i
        · rw [ci]; exact hn
        · exact hno i' (by omega))
      exact ⟨v, G', he.trans k1, k2, fun a j y1 y2 => (k3 a j y1 y2).trans (hx a j y1 y2)⟩
    by_cases cp : u.1 = (p : Int)
    · let Z := xup2 (xup2 (xup2 (xup2 G 0 39 (i : Int)) 0 43 0) 0 37 0) 0 40 (-1)
      have z : ∀ a j, ¬ (a = 0 ∧ (j = 37 ∨ j = 39 ∨ j = 40 ∨ j = 43)) → Z a j = G a j := fun a j h => by
        show xup2 _ _ _ _ _ _ = _
        simp (disch := omega) only [xup2_n]
      have z18 : Z (2 + 16) i = qG u := by rw [z _ _ (by omega)]; exact h18
      have z2 : ∀ a j, 2 ≤ a → a ≤ 36 → Z a j = G a j := fun a j _ _ => z a j (by omega)
      have est : g374_99 f (fu + 1) (p : Int) k rk (i : Int) G = (if (Z (2 + 16) i) = 0 then (if 0 ≤ (p : Int) ∧ (p : Int) < 16 then ((some (xup2 Z 0 40 (Z (2 + 5) (p : Int).toNat))).bind fun G126 => ((some (xup2 G126 0 41 rk)).bind fun G130 => ((some (xup2 G130 0 38 4)).bind fun G134 => ((g275 f 0 G134).bind fun R135 => (if (R135 0 54) = 0 then g374_240 (g374_99 f fu) f (p : Int) k rk (i : Int) R135 else (if ¬ k = 0 then ((g375 f (xwr (k - 1)) R135).bind fun R142 => g374_239 f (R142.1) R142.2) else g374_239 f (i : Int) R135)))))) else none) else (if ¬ rk = (1) then g374_240 (g374_99 f fu) f (p : Int) k rk (i : Int) Z else ((g288 f 1 Z).bind fun R148 => (if (R148.1) = 0 then g374_240 (g374_99 f fu) f (p : Int) k rk (i : Int) R148.2 else (if ¬ k = 0 then g374_186 f (-1) R148.2 else g374_186 f (i : Int) R148.2))))) := by
        show g374_99b (g374_99 f fu) f _ _ _ _ _ = _
        unfold g374_99b
        rw [h9, if_neg (by omega), if_pos hrr, Int.toNat_natCast, h15, if_pos cp]
        simp only [Option.bind_some]
        rw [if_pos hrr]
      have hlen : u.2.2.2.1.length = qN s p := by
        have : p' = p := by omega
        rw [← this]; exact p3
      by_cases cg : u.2.2.1.1 = 0
      · have hqg : qG u = 0 := by unfold qG; rw [if_pos cg]
        have hgA : u.2.2.1.2.1 = -1 := by
          rcases w5.1 with z | z
          · exact z.2.1
          · have : (10 : Int) ≤ u.2.2.1.1 := z.1.1; omega
        have hHd : rHd G i c u.2.2.2.1 (-1) := ⟨t7, t8, by have h9 : G 19 i = u.2.2.1.2.1 := t4; rw [h9, hgA], t9⟩
        let G1 := xup2 (xup2 (xup2 Z 0 40 (qK s p : Int)) 0 41 rk) 0 38 4
        have g1 : ∀ a j, ¬ (a = 0 ∧ (37 ≤ j ∧ j ≤ 41 ∨ j = 43)) → G1 a j = G a j := fun a j h => by
          show xup2 _ _ _ _ _ _ = _
          rw [xup2_n (by omega), xup2_n (by omega), xup2_n (by omega), z a j (by omega)]
        have g12 : ∀ a j, 2 ≤ a → a ≤ 36 → G1 a j = G a j := fun a j _ _ => g1 a j (by omega)
        have g37 : G1 0 37 = 0 := by
          show xup2 _ _ _ _ _ _ = _
          rw [xup2_n (by omega), xup2_n (by omega), xup2_n (by omega)]
          show xup2 _ _ _ _ _ _ = _
          rw [xup2_n (by omega), xup2_s]
        have g39 : G1 0 39 = (i : Int) := by
          show xup2 _ _ _ _ _ _ = _
          rw [xup2_n (by omega), xup2_n (by omega), xup2_n (by omega)]
          show xup2 _ _ _ _ _ _ = _
          rw [xup2_n (by omega), xup2_n (by omega), xup2_n (by omega), xup2_s]
        have g43 : G1 0 43 = 0 := by
          show xup2 _ _ _ _ _ _ = _
          rw [xup2_n (by omega), xup2_n (by omega), xup2_n (by omega)]
          show xup2 _ _ _ _ _ _ = _
          rw [xup2_n (by omega), xup2_n (by omega), xup2_s]
        have g40 : G1 0 40 = (qK s p : Int) := by
          show xup2 _ _ _ _ _ _ = _
          rw [xup2_n (by omega), xup2_n (by omega), xup2_s]
        have g41 : G1 0 41 = rk := by
          show xup2 _ _ _ _ _ _ = _
          rw [xup2_n (by omega), xup2_s]
        have hK : (qK s p : Int) ≠ -1 → ∀ y, y < s.1.length → G1 7 y = (qK s y : Int) := fun _ y hy => by rw [g12 _ _ (by omega) (by omega)]; exact e3.2 y hy
        obtain ⟨G2, k1, k2, k3⟩ := l_bst (f := f) (K := qK s) (ra := (qK s p : Int)) (rb := rk) (G := G1) (N := qN s) (np := s.1.length) (as := as) (by omega) (by omega : i < 25) w6 hnp u3 w8 w9 u6 (t11.v g12) (hHd.v g12) (fun k hk => by
            rcases wit k hk with ⟨y1, _⟩ | ⟨_, y2⟩
            · have y3 : (k : Int) = u.2.2.1.2.1 := y1
              omega
            · exact y2) (by rw [g12 _ _ (by omega) (by omega)]; exact h22) (xup2_s _ _ _ _) g39 g40 (fun _ => g41) hK (e4.ge (fun a j _ _ => g1 a j (by omega))) hR' g37 g43 (by rw [g1 _ _ (by omega)]; exact h54) (by omega) (fun k hk => by rw [g1 _ _ (by omega)]; exact h118 k (by omega))
        have x2 : xfRs G G2 := fun a j y1 y2 => by rw [k2 a j (by omega) y2, g1 a j (by omega)]
        have est2 : g374_99 f (fu + 1) (p : Int) k rk (i : Int) G = (if (G2 0 54) = 0 then g374_240 (g374_99 f fu) f (p : Int) k rk (i : Int) G2 else (if ¬ k = 0 then ((g375 f (xwr (k - 1)) G2).bind fun R142 => g374_239 f (R142.1) R142.2) else g374_239 f (i : Int) G2)) := by
          have z7 : Z (2 + 5) (p : Int).toNat = (qK s p : Int) := by rw [Int.toNat_natCast, z _ _ (by omega)]; exact e3.2 p hp
          rw [est, z18, hqg, if_pos rfl, if_pos (by omega), z7, Option.bind_some, Option.bind_some, Option.bind_some]
          show Option.bind (g275 f 0 G1) _ = _
          rw [k1, Option.bind_some]
        rcases k3 with ⟨q1, q2⟩ | ⟨q1, b, b1, b2, b3, b4⟩
        · refine next G2 x2 q1 ?_ ?_
          · rw [← eu]
            rintro ⟨_, ⟨_, v, v1, v2⟩ | ⟨q, _⟩⟩
            · exact q2 v v1 v2
            · exact q hqg
          · rw [est2, if_pos q1]
            unfold g374_240
            rw [ei]
        · have hG : rsG s M p as rk (s.2.2.2.2.1.getD i dRu) := by
            rw [← eu]
            exact ⟨cp, .inl ⟨hqg, b, b1, b2⟩⟩
          by_cases ck : k = 0
          · refine ⟨(i : Int), G2, ?_, .inl ⟨i, hi, hG, hno, .inl ⟨ck, rfl⟩⟩, x2⟩
            rw [est2, if_neg (by omega), if_neg (fun q => q ck)]
            rfl
          · obtain ⟨k', hk'⟩ : ∃ k' : Nat, k - 1 = (k' : Int) := ⟨(k - 1).toNat, by omega⟩
            have f2 : ∀ a j, 2 ≤ a → a ≤ 36 → G2 a j = G a j := fun a j _ _ => x2 a j (by omega) (by omega)
            obtain ⟨v, G3, v1, v2, v3⟩ := l_375 (f := f) (G := G2) (r := i) (nv := u.2.2.2.2.1.length) (np := s.1.length) (c := c) (l := u.2.2.2.2.2) (K := qK s) (ra := (qK s p : Int)) (rb := rk) (N := qN s) (R := M) (b := b) (by omega) (by omega) w6 hnp w9 (t11.v f2) (by rw [k2 _ _ (by omega) (by omega)]; exact g39) (by rw [f2 _ _ (by omega) (by omega)]; exact h22) (by rw [k2 _ _ (by omega) (by omega)]; exact g40) (by rw [k2 _ _ (by omega) (by omega)]; exact g41) (fun _ y hy => by rw [f2 _ _ (by omega) (by omega)]; exact e3.2 y hy) (e4.ge (fun a j _ _ => x2 a j (by omega) (by omega))) b3 u.2.2.2.2.2.length 0 f k' (by omega) (by have := t11.2.1; omega) (by omega)
            refine ⟨v, G3, ?_, .inl ⟨i, hi, hG, hno, .inr (.inr ⟨ck, by rw [← eu]; exact hqg, b, by rw [← eu]; exact ⟨b1, b2⟩, fun x hx => by rw [← eu] at hx; exact b4 x hx.1 hx.2, ?_⟩)⟩, fun a j y1 y2 => by rw [v3 a j (by omega) (by omega), x2 a j y1 y2]⟩
            · rw [est2, if_neg (by omega), if_pos ck, hk', xwr_g _ (by omega) (by omega)]
              have v1' : g375 f (k' : Int) G2 = some (v, G3) := v1
              rw [v1', Option.bind_some]
              rfl
            · rw [← eu, hk', Int.toNat_natCast]
              rw [List.drop_zero] at v2
              exact v2
      · have hg10 : (10 ≤ u.2.2.1.1 ∧ u.2.2.1.1 ≤ 13) ∧ 0 ≤ u.2.2.1.2.1 ∧ u.2.2.1.2.1 < u.2.2.2.1.length ∧ (u.2.2.1.1 = 10 ∧ u.2.2.1.2.2 = -1 ∨ u.2.2.1.1 ≠ 10 ∧ 0 ≤ u.2.2.1.2.2 ∧ u.2.2.1.2.2 < u.2.2.2.2.1.length) := by
          rcases w5.1 with z | z
          · exact absurd z.1 cg
          · exact z
        have hqg : qG u = u.2.2.1.1 - 9 := by unfold qG; rw [if_neg cg]
        have nqg : ¬ qG u = 0 := by omega
        obtain ⟨gA, hgA⟩ : ∃ gA : Nat, u.2.2.1.2.1 = (gA : Int) := ⟨u.2.2.1.2.1.toNat, by omega⟩
        have hHd : rHd G i c u.2.2.2.1 (gA : Int) := ⟨t7, t8, by have h9 : G 19 i = u.2.2.1.2.1 := t4; rw [h9, hgA], t9⟩
        have h20 : G 20 i = u.2.2.1.2.2 := t5
        have xz : xfRs G Z := fun a j y1 y2 => z a j (by omega)
        by_cases cr : rk = 1
        · have zz39 : Z 0 39 = (i : Int) := by
            show xup2 _ _ _ _ _ _ = _
            rw [xup2_n (by omega), xup2_n (by omega), xup2_n (by omega), xup2_s]
          have zz43 : Z 0 43 = 0 := by
            show xup2 _ _ _ _ _ _ = _
            rw [xup2_n (by omega), xup2_n (by omega), xup2_s]
          obtain ⟨G2, b, k1, k2, k3, k4⟩ := l_gas4 (f := f) (K := fun _ => 0) (G := Z) (N := qN s) (np := s.1.length) (gA := gA) (kk := qG u) (gO := u.2.2.1.2.2) (as := as) hf (by omega : i < 25) w6 hnp u3 w8 w9 u6 ⟨t11.v z2, hHd.v z2, by rw [z _ _ (by omega)]; exact h18, by rw [z _ _ (by omega)]; exact h20⟩ (fun k hk hne => by
              rcases wit k hk with ⟨y1, _⟩ | ⟨_, y2⟩
              · have y3 : (k : Int) = u.2.2.1.2.1 := y1
                omega
              · exact y2) (by omega) (by omega) (fun hk => by omega) zz39 (xup2_s _ _ _ _) (e4.ge (fun a j _ _ => z a j (by omega))) hR' zz43 (by omega) (fun k hk => by rw [z _ _ (by omega)]; exact h118 k (by omega))
          have x2 : xfRs G G2 := fun a j y1 y2 => by rw [k2 a j (by omega) y2, z a j (by omega)]
          have est2 : g374_99 f (fu + 1) (p : Int) k rk (i : Int) G = (if b = 0 then g374_240 (g374_99 f fu) f (p : Int) k rk (i : Int) G2 else (if ¬ k = 0 then g374_186 f (-1) G2 else g374_186 f (i : Int) G2)) := by
            rw [est, z18, if_neg nqg, if_neg (fun q => q cr), k1, Option.bind_some]
          rcases k3 with ⟨q1, ks, q2⟩ | ⟨q1, q2⟩
          · have hG : rsG s M p as rk (s.2.2.2.2.1.getD i dRu) := by
              rw [← eu]
              refine ⟨cp, .inr ⟨nqg, cr, ks, ?_⟩⟩
              rw [hgA, Int.toNat_natCast, ← qOp_1 (fun _ => 0)]
              exact q2
            by_cases ck : k = 0
            · refine ⟨(i : Int), G2, ?_, .inl ⟨i, hi, hG, hno, .inl ⟨ck, rfl⟩⟩, x2⟩
              rw [est2, if_neg (by omega), if_neg (fun q => q ck)]
              rfl
            · refine ⟨-1, G2, ?_, .inl ⟨i, hi, hG, hno, .inr (.inl ⟨ck, by rw [← eu]; exact nqg, rfl⟩)⟩, x2⟩
              rw [est2, if_neg (by omega), if_pos ck]
              rfl
          · refine next G2 x2 (by rw [k4 q1, z _ _ (by omega)]; exact h54) ?_ ?_
            · rw [← eu]
              rintro ⟨_, ⟨q, _⟩ | ⟨_, _, ks, q⟩⟩
              · exact nqg q
              · rw [hgA, Int.toNat_natCast, ← qOp_1 (fun _ => 0)] at q
                exact q2 ⟨ks, q⟩
            · rw [est2, if_pos q1]
              unfold g374_240
              rw [ei]
        · refine next Z xz (by rw [z _ _ (by omega)]; exact h54) ?_ ?_
          · rw [← eu]
            rintro ⟨_, ⟨q, _⟩ | ⟨_, q, _⟩⟩
            · exact nqg q
            · exact cr q
          · rw [est, z18, if_neg nqg, if_pos cr]
            unfold g374_240
            rw [ei]
    · refine next G (fun _ _ _ _ => rfl) h54 (by rw [← eu]; exact fun q => cp q.1) ?_
      show g374_99b (g374_99 f fu) f _ _ _ _ _ = _
      unfold g374_99b g374_240
      rw [h9, if_neg (by omega), if_pos hrr, Int.toNat_natCast, h15, if_neg cp, ei]
end
