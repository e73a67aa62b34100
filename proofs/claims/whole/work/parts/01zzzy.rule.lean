/-! Rules of the reference: one, whether it gathers or not -/
def qO1 : Nat → pRw → Prop := fun _ _ => True
theorem qOp_1 (K : Nat → Nat) : qOp K (-1) 0 = qO1 := funext (fun _ => funext (fun _ => propext ⟨fun _ => trivial, fun _ => .inl rfl⟩))
/-- the rows that a rule gives over rows R -/
def rlD (u : pRu) (R : Nat → List pRw) (xs : List Int) : Prop := if qG u = 0 then ∃ v, isW u.2.2.2.2.2 u.2.2.2.2.1.length R qO1 v ∧ qMk u.2.2.2.1 (-1) (vF v) u.2.2.2.1.length = some xs else ∃ ks, gDs u.2.2.2.2.2 u.2.2.2.2.1.length R qO1 (qG u) u.2.2.1.2.2 u.2.2.2.1 u.2.2.1.2.1.toNat ks xs
/-- columns of a predicate -/
def qN (s : pPg) (p : Nat) : Nat := (pNn s.2.2.2.1 (p : Int)).toNat
theorem pNn_in {s : pPg} (hw : wPg s) (x : Int) : 0 ≤ pNn s.2.2.2.1 x ∧ pNn s.2.2.2.1 x ≤ 4 := by
  have key : ∀ (k i : Nat) (j : Nat), pFst s.2.2.2.1 x k i = some j → mK s.2.2.2.1 j ≠ -1 := by
    intro k
    induction k with
    | zero => intro i j h; cases h
    | succ k ih =>
      intro i j h
      unfold pFst at h
      split at h
      · rename_i c
        injection h with h
        rw [← h]
        exact c.2
      · exact ih _ _ h
  unfold pNn
  cases h : pFst s.2.2.2.1 x s.2.2.2.1.length 0 with
  | none => exact ⟨by show (0 : Int) ≤ 0; decide, by show (0 : Int) ≤ 4; decide⟩
  | some j =>
    show 0 ≤ mK s.2.2.2.1 j ∧ mK s.2.2.2.1 j ≤ 4
    have hne := key _ _ _ h
    by_cases c : j < s.2.2.2.1.length
    · have := hw.2.2.2.2.1 (s.2.2.2.1[j]) (List.getElem_mem c)
      unfold mK at hne ⊢
      rw [getD_e c] at hne ⊢
      rcases this.2.2 with z | z
      · omega
      · omega
    · unfold mK
      rw [List.getD_eq_getElem?_getD, List.getElem?_eq_none (by omega)]
      exact ⟨by decide, by decide⟩
theorem qN_c {s : pPg} (hw : wPg s) (p : Nat) : ((qN s p : Nat) : Int) = pNn s.2.2.2.1 (p : Int) ∧ qN s p ≤ 4 := by
  have := pNn_in hw (p : Int)
  unfold qN
  omega
/-- the program s lies at 2, with its parts, rings, and rows R -/
def rEn (G : xG_) (q c : Nat) (s : pPg) (R : Nat → List pRw) : Prop := rPr G 2 q c s ∧ rPn G 2 s ∧ rPk G 2 s ∧ rTb G s.1.length (qN s) R
theorem rEn.ge {G G' : xG_} {q c : Nat} {s : pPg} {R : Nat → List pRw} (h : rEn G q c s R) (hf : ∀ a j, 2 ≤ a → a ≤ 36 → G' a j = G a j) (hr : ∀ a j, 107 ≤ a → a ≤ 109 → G' a j = G a j) : rEn G' q c s R := by
  obtain ⟨a1, a2, a3, a4⟩ := h
  exact ⟨a1.ge (fun j => hf _ _ (by omega) (by omega)) (fun a j _ _ _ _ _ => hf _ _ (by omega) (by omega)), fun y hy => by rw [hf _ _ (by omega) (by omega)]; exact a2 y hy, ⟨fun p hp => by rw [hf _ _ (by omega) (by omega)]; exact a3.1 p hp, fun p hp => by rw [hf _ _ (by omega) (by omega)]; exact a3.2 p hp⟩, a4.ge hr⟩
/-- rows that a table may hold -/
def qTb (s : pPg) (R : Nat → List pRw) : Prop := ∀ p, p < s.1.length → (R p).length ≤ 100 ∧ (R p).Pairwise rwLt ∧ ∀ w ∈ R p, w.1.length = qN s p ∧ ∀ x ∈ w.1, vOk x
def xSt (G G' : xG_) : Prop := ∀ o j, ¬ (o = 0 ∧ (37 ≤ j ∧ j ≤ 39 ∨ 42 ≤ j ∧ j ≤ 61)) → ¬ (110 ≤ o ∧ o ≤ 121 ∧ o ≠ 118) → G' o j = G o j
section
variable {f q c r : Nat} {s : pPg} {R : Nat → List pRw} {F : List pFw}
/-- what is known of a rule of a program -/
theorem rul {G : xG_} (hok : qOk s) (hE : rEn G q c s R) (hr : r < s.2.2.2.2.1.length) : ∃ u, u = s.2.2.2.2.1.getD r dRu ∧ u ∈ s.2.2.2.2.1 ∧ r < 24 ∧ c ≤ 6200 ∧ rRu G 2 q r c u ∧ wRu s.1.length u ∧ (∀ k, k < u.2.2.2.2.1.length → (qBd u.2.2.2.2.2).testBit k = true) ∧ ∃ p : Nat, u.1 = (p : Int) ∧ p < s.1.length ∧ u.2.2.2.1.length = qN s p := by
  obtain ⟨⟨a1, a2, a3, a4, a5⟩, _, _, _⟩ := hE
  have hm : s.2.2.2.2.1.getD r dRu ∈ s.2.2.2.2.1 := by rw [getD_e hr]; exact List.getElem_mem hr
  have hw := hok.1.2.2.2.2.2.2 _ hm
  obtain ⟨o1, o2⟩ := hok.2.1 _ hm
  have := a3.2.1
  obtain ⟨p, hp⟩ : ∃ p : Nat, (s.2.2.2.2.1.getD r dRu).1 = (p : Int) := ⟨(s.2.2.2.2.1.getD r dRu).1.toNat, by have := hw.1; omega⟩
  refine ⟨_, rfl, hm, by omega, (by omega : c ≤ 6200), a3.2.2 r hr, hw, o1, p, hp, by have := hw.2.1; omega, ?_⟩
  have := (qN_c hok.1 p).1
  rw [hp] at o2
  omega
/-- a rule, used -/
theorem l_rul {G : xG_} {r12 : Int → Int → xG_ → Option (Int × xG_)} {r52 : Int → Int → Int → xG_ → Option (Int × xG_)} {x1 x2 : Int} (hf : 1000100 < f) (hok : qOk s) (hE : rEn G q c s R) (hT : qTb s R) (hr : r < s.2.2.2.2.1.length) (h40 : G 0 40 = -1) (h43 : G 0 43 = 0) (hF : rFr G s.1.length (qN s) R F) (hnd : F.Nodup) :
    ∃ G' p, (s.2.2.2.2.1.getD r dRu).1 = ((p : Nat) : Int) ∧ p < s.1.length ∧ g293_111 r12 r52 f x1 x2 (r : Int) G = r52 x1 x2 ((r + 1 : Nat) : Int) G' ∧ xSt G G' ∧ rOt s.1.length (qN s) R F p (rlD (s.2.2.2.2.1.getD r dRu) R) G' := by
  obtain ⟨u, eu, u1, u2, u3, u4, u5, u6, p, p1, p2, p3⟩ := rul hok hE hr
  rw [← eu]
  obtain ⟨e1, e2, e3, e4⟩ := hE
  obtain ⟨t1, t2, ⟨t3, t4, t5, t6⟩, t7, t8, t9, t10, t11⟩ := u4
  obtain ⟨w1, w2, w3, w4, w5, w6, w7, w8, w9⟩ := u5
  have hnp : s.1.length ≤ 16 := hok.1.1
  have er : xwr ((r : Int) + 1) = ((r + 1 : Nat) : Int) := by rw [xwr_g _ (by omega) (by omega)]; omega
  have hR' : ∀ p, p < s.1.length → (R p).length ≤ 100 ∧ ∀ w ∈ R p, ∀ x ∈ w.1, vOk x := fun p hp => ⟨(hT p hp).1, fun w hw => ((hT p hp).2.2 w hw).2⟩
  have hN : G 4 p = (qN s p : Int) := by
    have := e2 p p2
    rw [(qN_c hok.1 p).1]
    exact this
  have hrr : 0 ≤ (r : Int) ∧ (r : Int) < 25 := by omega
  have h15 : G 15 r = (p : Int) := by rw [← p1]; exact t1
  have h18 : G 18 r = qG u := t3
  have wit := w5.2
  by_cases cg : u.2.2.1.1 = 0
  · have hqg : qG u = 0 := by unfold qG; rw [if_pos cg]
    have hgA : u.2.2.1.2.1 = -1 := by
      rcases w5.1 with z | z
      · exact z.2.1
      · have := z.1; have : (10 : Int) ≤ u.2.2.1.1 := z.1.1; omega
    let G1 := xup2 (xup2 (xup2 G 0 39 (r : Int)) 0 38 1) 0 37 0
    have z : ∀ o j, ¬ (o = 0 ∧ (j = 37 ∨ j = 38 ∨ j = 39)) → G1 o j = G o j := fun o j h => by
      show xup2 _ _ _ _ _ _ = _
      rw [xup2_n (by omega), xup2_n (by omega), xup2_n (by omega)]
    have z2 : ∀ a j, 2 ≤ a → a ≤ 36 → G1 a j = G a j := fun a j _ _ => z a j (by omega)
    have hHd : rHd G r c u.2.2.2.1 (-1) := ⟨t7, t8, by have h9 : G 19 r = u.2.2.1.2.1 := t4; rw [h9, hgA], t9⟩
    obtain ⟨G2, k1, k2, k3, k4⟩ := l_der (f := f) (K := fun _ => 0) (G := G1) (F := F) (by omega) (by omega : r < 25) w6 hnp u3 w8 w9 u6 (t11.v z2) (hHd.v z2) (fun k hk => by
        rcases wit k hk with ⟨y1, _⟩ | ⟨_, y2⟩
        · have y3 : (k : Int) = u.2.2.1.2.1 := y1
          omega
        · exact y2) (by rw [z _ _ (by omega)]; exact h15) p2 p3 (by rw [z _ _ (by omega)]; exact hN) (by show xup2 _ _ _ _ _ _ = _; rw [xup2_n (by omega), xup2_s]) (by show xup2 _ _ _ _ _ _ = _; rw [xup2_n (by omega), xup2_n (by omega), xup2_s]) (by rw [z _ _ (by omega)]; exact h40) (e4.ge (fun a j _ _ => z a j (by omega))) hR' (xup2_s _ _ _ _) (by rw [z _ _ (by omega)]; exact h43) (hF.ge (z _ _ (by omega)) (fun a j _ _ => z _ _ (by omega))) hnd
    refine ⟨G2, p, p1, p2, ?_, fun o j y1 y2 => by rw [k2 o j (by omega) y2, z o j (by omega)], ?_⟩
    · have t18 : xup2 G 0 39 (r : Int) 18 r = 0 := by rw [xup2_n (by omega), h18]; exact hqg
      unfold g293_111 g293_153
      rw [Option.bind_some, if_pos hrr, Int.toNat_natCast]
      show (if xup2 G 0 39 (r : Int) 18 r = 0 then _ else _) = _
      rw [t18, if_pos rfl]
      show Option.bind (g275 f 0 G1) _ = _
      rw [k1, Option.bind_some, er]
    · have iff : ∀ xs, (∃ v, isW u.2.2.2.2.2 u.2.2.2.2.1.length R (qOp (fun _ => 0) (-1) 0) v ∧ qMk u.2.2.2.1 (-1) (vF v) u.2.2.2.1.length = some xs ∧ ∀ x ∈ xs, vOk x) ↔ rlD u R xs := fun xs => by
        unfold rlD
        rw [if_pos hqg, qOp_1]
        constructor
        · rintro ⟨v, v1, v2, _⟩
          exact ⟨v, v1, v2⟩
        · rintro ⟨v, v1, v2⟩
          have vo := isW_ok w6 w9 u6 (fun p hp w hw x hx => (hR' p hp).2 w hw x hx) v1
          refine ⟨v, v1, v2, qMk_ok (nv := u.2.2.2.2.1.length) (fun k hk _ => ?_) (fun k hk => ?_) _ xs (Nat.le_refl _) v2⟩
          · rcases wit k hk with ⟨y1, _⟩ | ⟨_, y2⟩
            · have y3 : (k : Int) = u.2.2.1.2.1 := y1
              omega
            · exact y2
          · unfold vF
            rw [getD_e (by rw [v1.1]; exact hk)]
            exact vo _ (List.getElem_mem _)
      exact k4.iff (fun _ xs => iff xs) (fun xs => (iff xs).mp)
  · have hg10 : (10 ≤ u.2.2.1.1 ∧ u.2.2.1.1 ≤ 13) ∧ 0 ≤ u.2.2.1.2.1 ∧ u.2.2.1.2.1 < u.2.2.2.1.length ∧ (u.2.2.1.1 = 10 ∧ u.2.2.1.2.2 = -1 ∨ u.2.2.1.1 ≠ 10 ∧ 0 ≤ u.2.2.1.2.2 ∧ u.2.2.1.2.2 < u.2.2.2.2.1.length) := by
      rcases w5.1 with z | z
      · exact absurd z.1 cg
      · exact z
    have hqg : qG u = u.2.2.1.1 - 9 := by unfold qG; rw [if_neg cg]
    obtain ⟨gA, hgA⟩ : ∃ gA : Nat, u.2.2.1.2.1 = (gA : Int) := ⟨u.2.2.1.2.1.toNat, by omega⟩
    let G1 := xup2 G 0 39 (r : Int)
    have z : ∀ o j, ¬ (o = 0 ∧ j = 39) → G1 o j = G o j := fun o j h => xup2_n h
    have z2 : ∀ a j, 2 ≤ a → a ≤ 36 → G1 a j = G a j := fun a j _ _ => z a j (by omega)
    have hHd : rHd G r c u.2.2.2.1 (gA : Int) := ⟨t7, t8, by have h9 : G 19 r = u.2.2.1.2.1 := t4; rw [h9, hgA], t9⟩
    have h20 : G 20 r = u.2.2.1.2.2 := t5
    obtain ⟨G2, b, k1, k2, k3⟩ := l_gth (f := f) (K := fun _ => 0) (G := G1) (F := F) (gA := gA) (kk := qG u) (gO := u.2.2.1.2.2) hf (by omega : r < 25) w6 hnp u3 w8 w9 u6 ⟨t11.v z2, hHd.v z2, by rw [z _ _ (by omega)]; exact h18, by rw [z _ _ (by omega)]; exact h20⟩ (fun k hk hne => by
        rcases wit k hk with ⟨y1, _⟩ | ⟨_, y2⟩
        · have y3 : (k : Int) = u.2.2.1.2.1 := y1
          omega
        · exact y2) (by omega) (by omega) (fun hk => by omega) (by rw [z _ _ (by omega)]; exact h15) p2 p3 (by rw [z _ _ (by omega)]; exact hN) (xup2_s _ _ _ _) (by rw [z _ _ (by omega)]; exact h40) (e4.ge (fun a j _ _ => z a j (by omega))) hR' (by rw [z _ _ (by omega)]; exact h43) (hF.ge (z _ _ (by omega)) (fun a j _ _ => z _ _ (by omega))) hnd
    refine ⟨G2, p, p1, p2, ?_, fun o j y1 y2 => by rw [k2 o j (by omega) y2, z o j (by omega)], ?_⟩
    · have t18 : G1 18 r = qG u := by rw [z _ _ (by omega)]; exact h18
      have n18 : ¬ qG u = 0 := by omega
      unfold g293_111 g293_153
      rw [Option.bind_some, if_pos hrr, Int.toNat_natCast]
      show (if G1 18 r = 0 then _ else (g288 f 0 G1).bind _) = _
      rw [t18, if_neg n18, k1, Option.bind_some, er]
    · have iff : ∀ zs, (∃ xs, gDs u.2.2.2.2.2 u.2.2.2.2.1.length R (qOp (fun _ => 0) (-1) 0) (qG u) u.2.2.1.2.2 u.2.2.2.1 gA xs zs) ↔ rlD u R zs := fun zs => by
        unfold rlD
        rw [if_neg (by omega), qOp_1, hgA, Int.toNat_natCast]
      exact k3.iff (fun _ zs => iff zs) (fun zs => (iff zs).mp)
end
