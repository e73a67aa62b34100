/-! Reasons: the row that an ATOM of the least WAY took -/
/-- the first of n that P holds of, or -1 -/
def fst1 (P : Nat → Prop) (n : Nat) (v : Int) : Prop := (∃ j, j < n ∧ P j ∧ (∀ i, i < j → ¬ P i) ∧ v = (j : Int)) ∨ (∀ j, j < n → ¬ P j) ∧ v = -1
def rsS (y : pLt) (R : Nat → List pRw) (op : Nat → pRw → Prop) (b : List Int) (v : Int) : Prop := fst1 (fun j => op y.2.1.toNat ((R y.2.1.toNat).getD j dRw) ∧ sTs (vF b) y.2.2.2.1 ((R y.2.1.toNat).getD j dRw).1) (R y.2.1.toNat).length v
def rsT (l : List pLt) (R : Nat → List pRw) (op : Nat → pRw → Prop) (b : List Int) (k : Nat) (v : Int) : Prop := match (l.filter (fun y => decide (y.1 = 1)))[k]? with
  | none => v = -1
  | some y => rsS y R op b v
section
variable {f nv np r c : Nat} {N : Nat → Nat} {R : Nat → List pRw} {K : Nat → Nat} {ra rb : Int} {l : List pLt} {b : List Int}
theorem l_376_68 {G : xG_} {x p : Nat} {T : pCd} {n : Nat} {L : List pRw} (hf : 600 < f) (hp : p < 16) (hT : rTm G x T) (hw : ∀ y ∈ T, wT1 nv y) (hnv : nv ≤ 8) (hR : rRw G p n L) (h37 : G 0 37 = ((2 ^ nv - 1 : Nat) : Int)) (h40 : G 0 40 = ra) (h41 : G 0 41 = rb) (hK : ra ≠ -1 → G 7 p = (K p : Int)) (hb : ∀ k, k < nv → G 110 k = vF b k) :
    ∀ (d i fu : Nat), i + d = L.length → d < fu → (∀ j, j < i → ¬ (qOp K ra rb p (L.getD j dRw) ∧ sTs (vF b) T (L.getD j dRw).1)) → ∃ v, g376_68 f fu (x : Int) (p : Int) (i : Int) G = some (v, G) ∧ fst1 (fun j => qOp K ra rb p (L.getD j dRw) ∧ sTs (vF b) T (L.getD j dRw).1) L.length v := by
  have hm : 2 ^ nv - 1 < 256 := by
    have : 2 ^ nv ≤ 2 ^ 8 := Nat.pow_le_pow_right (by decide) hnv
    omega
  have hfull : ∀ k, k < nv → (2 ^ nv - 1).testBit k = true := fun k hk => by rw [Nat.testBit_two_pow_sub_one]; exact decide_eq_true hk
  have hl := hR.2.1
  intro d
  induction d with
  | zero =>
    intro i fu h1 h2 hn
    obtain ⟨fu, rfl⟩ : ∃ t, fu = t + 1 := ⟨fu - 1, by omega⟩
    refine ⟨-1, ?_, .inr ⟨fun j hj => hn j (by omega), rfl⟩⟩
    show g376_68b (g376_68 f fu) f _ _ _ _ = _
    unfold g376_68b
    rw [if_pos (by omega), Int.toNat_natCast, hR.1, if_pos (by omega)]
  | succ d ih =>
    intro i fu h1 h2 hn
    obtain ⟨fu, rfl⟩ : ∃ t, fu = t + 1 := ⟨fu - 1, by omega⟩
    have hi : i < L.length := by omega
    have ek : xwr ((i : Int) + 1) = ((i + 1 : Nat) : Int) := by rw [xwr_g _ (by omega) (by omega)]; omega
    obtain ⟨b1, q1, q2⟩ := l_271 (f := f) (K := K) hp hR hi h40 h41 hK
    obtain ⟨b2, q3, q4⟩ := l_272 (f := f) (by omega) hp hT hw hnv hR hi hm h37
    have q5 : pFit (2 ^ nv - 1) (G 110) T (L.getD i dRw).1 ↔ sTs (vF b) T (L.getD i dRw).1 := by
      rw [pFit_full hw hfull]
      exact ⟨sTs_xt hw hb, sTs_xt hw (fun k hk => (hb k hk).symm)⟩
    have e1 : g376_68 f (fu + 1) (x : Int) (p : Int) (i : Int) G = (if b1 = 0 then g376_68 f fu (x : Int) (p : Int) ((i + 1 : Nat) : Int) G else if b2 = 0 then g376_68 f fu (x : Int) (p : Int) ((i + 1 : Nat) : Int) G else some ((i : Int), G)) := by
      show g376_68b (g376_68 f fu) f _ _ _ _ = _
      unfold g376_68b g376_99
      rw [if_pos (by omega), Int.toNat_natCast, hR.1, if_neg (by omega), q1, Option.bind_some, ek]
      by_cases c1 : b1 = 0
      · rw [if_pos c1, if_pos c1]
      · rw [if_neg c1, if_neg c1]
        show Option.bind (g272 f (x : Int) (p : Int) (i : Int) G) _ = _
        rw [q3, Option.bind_some]
    have next : ¬ (qOp K ra rb p (L.getD i dRw) ∧ sTs (vF b) T (L.getD i dRw).1) → g376_68 f (fu + 1) (x : Int) (p : Int) (i : Int) G = g376_68 f fu (x : Int) (p : Int) ((i + 1 : Nat) : Int) G → ∃ v, g376_68 f (fu + 1) (x : Int) (p : Int) (i : Int) G = some (v, G) ∧ fst1 (fun j => qOp K ra rb p (L.getD j dRw) ∧ sTs (vF b) T (L.getD j dRw).1) L.length v := fun hno he => by
      obtain ⟨v, k1, k2⟩ := ih (i + 1) fu (by omega) (by omega) (fun j hj => by
        by_cases cj : j = i
        · rw [cj]; exact hno
        · exact hn j (by omega))
      exact ⟨v, he.trans k1, k2⟩
    rcases q2 with ⟨y1, y2⟩ | ⟨y1, y2⟩
    · rcases q4 with ⟨y3, y4⟩ | ⟨y3, y4⟩
      · refine ⟨(i : Int), ?_, .inl ⟨i, hi, ⟨y2, q5.mp y4⟩, hn, rfl⟩⟩
        rw [e1, y1, if_neg (by decide), y3, if_neg (by decide)]
      · exact next (fun q => y4 (q5.mpr q.2)) (by rw [e1, y1, if_neg (by decide), y3, if_pos rfl])
    · exact next (fun q => y2 q.1) (by rw [e1, y1, if_pos rfl])
theorem l_376_2 {x : Int} (hnv : nv ≤ 8) (hr : r < 25) : ∀ (d k fu : Nat) (G : xG_), k + d = nv → d < fu → G 0 39 = (r : Int) → G 22 r = (nv : Int) →
    ∃ G', g376_2 f fu x (k : Int) G = (if 0 ≤ x ∧ x < 200 then g376_68 f f x (G' 28 x.toNat) 0 G' else none) ∧ G' 0 37 = ((2 ^ nv - 1 : Nat) : Int) ∧ (∀ z, k ≤ z → z < nv → G' 110 z = G 117 z) ∧ ∀ a j, ¬ (a = 0 ∧ j = 37) → ¬ (a = 110 ∧ k ≤ j) → G' a j = G a j := by
  intro d
  have hrr : 0 ≤ (r : Int) ∧ (r : Int) < 25 := by omega
  have hpw : 2 ^ nv ≤ 256 := Nat.pow_le_pow_right (n := 2) (by decide) hnv
  have hpw1 : 1 ≤ 2 ^ nv := Nat.one_le_two_pow
  induction d with
  | zero =>
    intro k fu G h1 h2 h39 h22
    obtain ⟨fu, rfl⟩ : ∃ t, fu = t + 1 := ⟨fu - 1, by omega⟩
    have e2 : xwr (xshl 1 (nv : Int) - 1) = ((2 ^ nv - 1 : Nat) : Int) := by
      rw [xshl_nat (by omega), xwr_g _ (by omega) (by omega)]; omega
    refine ⟨xup2 G 0 37 ((2 ^ nv - 1 : Nat) : Int), ?_, xup2_s _ _ _ _, fun z _ _ => by omega, fun a j q1 q2 => xup2_n (by omega)⟩
    show g376_2b (g376_2 f fu) f _ _ _ = _
    unfold g376_2b
    have h22' : G (2 + 20) r = (nv : Int) := h22
    rw [h39, if_pos hrr, Int.toNat_natCast, h22', if_pos (by omega), if_pos hrr, e2, Option.bind_some]
  | succ d ih =>
    intro k fu G h1 h2 h39 h22
    obtain ⟨fu, rfl⟩ : ∃ t, fu = t + 1 := ⟨fu - 1, by omega⟩
    have ek : xwr ((k : Int) + 1) = ((k + 1 : Nat) : Int) := by rw [xwr_g _ (by omega) (by omega)]; omega
    obtain ⟨G', u1, u2, u3, u4⟩ := ih (k + 1) fu (xup2 G 110 k (G 117 k)) (by omega) (by omega) (by rw [xup2_n (by omega)]; exact h39) (by rw [xup2_n (by omega)]; exact h22)
    refine ⟨G', ?_, u2, fun z z1 z2 => ?_, fun a j q1 q2 => by rw [u4 a j q1 (by omega), xup2_n (by omega)]⟩
    · show g376_2b (g376_2 f fu) f _ _ _ = _
      unfold g376_2b
      have h22' : G (2 + 20) r = (nv : Int) := h22
      rw [h39, if_pos hrr, Int.toNat_natCast, h22', if_neg (by omega), if_pos (by omega), if_pos (by omega), Int.toNat_natCast, Option.bind_some, ek]
      exact u1
    · by_cases cz : z = k
      · rw [cz, u4 _ _ (by omega) (by omega), xup2_s]
      · rw [u3 z (by omega) z2, xup2_n (by omega)]
/-- supporter() -/
theorem l_375 {G : xG_} (hf : 600 < f) (hr : r < 25) (hnv : nv ≤ 8) (hnp : np ≤ 16) (hw : ∀ y ∈ l, wLt np nv y ∧ (y.1 ≠ 3 → 0 ≤ y.2.1)) (hL : rLs G 2 r c l) (h39 : G 0 39 = (r : Int)) (h22 : G 22 r = (nv : Int)) (h40 : G 0 40 = ra) (h41 : G 0 41 = rb) (hK : ra ≠ -1 → ∀ p, p < np → G 7 p = (K p : Int)) (hT : rTb G np N R) (hb : ∀ k, k < nv → G 117 k = vF b k) :
    ∀ (d i fu k : Nat), i + d = l.length → d < fu → k < 2147483648 → ∃ v G', g375_4 f fu (k : Int) (i : Int) G = some (v, G') ∧ rsT (l.drop i) R (qOp K ra rb) b k v ∧ ∀ a j, ¬ (a = 0 ∧ j = 37) → a ≠ 110 → G' a j = G a j := by
  have hrr : 0 ≤ (r : Int) ∧ (r : Int) < 25 := by omega
  have hl8 := hL.2.1
  have h21 : G (2 + 19) r = (l.length : Int) := hL.1
  intro d
  induction d with
  | zero =>
    intro i fu k h1 h2 hk
    obtain ⟨fu, rfl⟩ : ∃ t, fu = t + 1 := ⟨fu - 1, by omega⟩
    refine ⟨-1, G, ?_, ?_, fun _ _ _ _ => rfl⟩
    · show g375_4b (g375_4 f fu) f _ _ _ = _
      unfold g375_4b
      rw [h39, if_pos hrr, Int.toNat_natCast, h21, if_pos (by omega)]
    · rw [List.drop_eq_nil_of_le (by omega)]
      rfl
  | succ d ih =>
    intro i fu k h1 h2 hk
    obtain ⟨fu, rfl⟩ : ∃ t, fu = t + 1 := ⟨fu - 1, by omega⟩
    have hi : i < l.length := by omega
    have ek : xwr ((i : Int) + 1) = ((i + 1 : Nat) : Int) := by rw [xwr_g _ (by omega) (by omega)]; omega
    have ex : xwr (xwr ((r : Int) * 8) + (i : Int)) = ((8 * r + i : Nat) : Int) := by
      rw [xwr_g ((r : Int) * 8) (by omega) (by omega), xwr_g _ (by omega) (by omega)]; omega
    have hLt := hL.2.2 i hi
    have ed : l.drop i = l[i] :: l.drop (i + 1) := List.drop_eq_getElem_cons hi
    rw [getD_e hi] at hLt
    have h27 : G (2 + 25) (8 * r + i) = l[i].1 := hLt.1
    have hwy := hw _ (List.getElem_mem hi)
    by_cases c1 : l[i].1 = 1
    · have ef : (l.drop i).filter (fun y => decide (y.1 = 1)) = l[i] :: (l.drop (i + 1)).filter (fun y => decide (y.1 = 1)) := by
        rw [ed, List.filter_cons_of_pos (by rw [decide_eq_true_iff]; exact c1)]
      by_cases c2 : k = 0
      · -- this ATOM
        have h3 : l[i].1 ≠ 3 := by omega
        obtain ⟨l1, l2, l3⟩ := hLt.2.2.1 h3
        have hp0 := hwy.2 h3
        have hwl : -1 ≤ l[i].2.1 ∧ l[i].2.1 < np ∧ l[i].2.2.2.1.length ≤ 4 ∧ ∀ x ∈ l[i].2.2.2.1, wT1 nv x := by
          rcases hwy.1 with q | q
          · exact ⟨q.2.1, q.2.2.1, q.2.2.2.2.1, q.2.2.2.2.2⟩
          · exact absurd q.1 h3
        obtain ⟨p, hp⟩ : ∃ p : Nat, l[i].2.1 = (p : Int) := ⟨l[i].2.1.toNat, by omega⟩
        have hpn : p < np := by omega
        obtain ⟨G1, u1, u2, u3, u4⟩ := l_376_2 (f := f) (nv := nv) (r := r) (x := ((8 * r + i : Nat) : Int)) hnv hr nv 0 f G (by omega) (by omega) h39 h22
        have z : ∀ a j, ¬ (a = 0 ∧ j = 37) → a ≠ 110 → G1 a j = G a j := fun a j q1 q2 => u4 a j q1 (by omega)
        have hTm : rTm G1 (8 * r + i) l[i].2.2.2.1 := ⟨by omega, by rw [z _ _ (by omega) (by omega)]; exact l2, hwl.2.2.1, fun k hk => by rw [z _ _ (by omega) (by omega), z _ _ (by omega) (by omega)]; exact l3 k hk⟩
        have h28 : G1 28 (8 * r + i) = (p : Int) := by rw [z _ _ (by omega) (by omega), ← hp]; exact l1
        have hTb := hT.ge (G' := G1) (fun a j _ _ => z _ _ (by omega) (by omega))
        obtain ⟨v, v1, v2⟩ := l_376_68 (f := f) (K := K) (ra := ra) (rb := rb) (b := b) (nv := nv) (G := G1) hf (by omega) hTm hwl.2.2.2 hnv (hTb p hpn).1 u2 (by rw [z _ _ (by omega) (by omega)]; exact h40) (by rw [z _ _ (by omega) (by omega)]; exact h41) (fun q => by rw [z _ _ (by omega) (by omega)]; exact hK q p hpn) (fun k hk => by rw [u3 k (Nat.zero_le _) hk]; exact hb k hk) (R p).length 0 f (by omega) (by have := (hTb p hpn).1.2.1; omega) (fun j hj => absurd hj (Nat.not_lt_zero j))
        refine ⟨v, G1, ?_, ?_, z⟩
        · show g375_4b (g375_4 f fu) f _ _ _ = _
          unfold g375_4b
          rw [h39, if_pos hrr, Int.toNat_natCast, h21, if_neg (by omega), ex, if_pos (by omega), Int.toNat_natCast, h27, if_pos c1, if_neg (by omega)]
          have eg : g376 f ((8 * r + i : Nat) : Int) G = some (v, G1) := by
            unfold g376
            have u1' : g376_2 f f ((8 * r + i : Nat) : Int) 0 G = _ := u1
            rw [u1', if_pos (by omega), Int.toNat_natCast, h28]
            exact v1
          rw [eg, Option.bind_some]
        · unfold rsT
          rw [ef, c2]
          show rsS l[i] R _ b v
          unfold rsS
          rw [hp, Int.toNat_natCast]
          exact v2
      · obtain ⟨k, rfl⟩ : ∃ t, k = t + 1 := ⟨k - 1, by omega⟩
        obtain ⟨v, G', v1, v2, v3⟩ := ih (i + 1) fu k (by omega) (by omega) (by omega)
        have ek2 : xwr (((k + 1 : Nat) : Int) + -1) = (k : Int) := by rw [xwr_g _ (by omega) (by omega)]; omega
        refine ⟨v, G', ?_, ?_, v3⟩
        · show g375_4b (g375_4 f fu) f _ _ _ = _
          unfold g375_4b g375_62
          rw [h39, if_pos hrr, Int.toNat_natCast, h21, if_neg (by omega), ex, if_pos (by omega), Int.toNat_natCast, h27, if_pos c1, if_pos (by omega), ek2, ek]
          exact v1
        · unfold rsT at v2 ⊢
          rw [ef, List.getElem?_cons_succ]
          exact v2
    · obtain ⟨v, G', v1, v2, v3⟩ := ih (i + 1) fu k (by omega) (by omega) hk
      have ef : (l.drop i).filter (fun y => decide (y.1 = 1)) = (l.drop (i + 1)).filter (fun y => decide (y.1 = 1)) := by
        rw [ed, List.filter_cons_of_neg (by rw [decide_eq_true_iff]; exact c1)]
      refine ⟨v, G', ?_, ?_, v3⟩
      · show g375_4b (g375_4 f fu) f _ _ _ = _
        unfold g375_4b g375_62
        rw [h39, if_pos hrr, Int.toNat_natCast, h21, if_neg (by omega), ex, if_pos (by omega), Int.toNat_natCast, h27, if_neg c1, ek]
        exact v1
      · unfold rsT at v2 ⊢
        rw [ef]
        exact v2
end
