section
/-! THE CLASS: merge: CHANGES that come of two moments -/
theorem lnPt_8 {G G' : xG_} {ln : Nat} (h : lnPt G ln) (hG : ∀ j, j ≠ 8 → G' ln j = G ln j) : lnPt G' ln := by
  obtain ⟨h1, h2, h3, h4, h5, h6, h7, h8⟩ := h
  exact ⟨by rw [hG _ (by omega)]; exact h1, by rw [hG _ (by omega)]; exact h2, by rw [hG _ (by omega)]; exact h3, by rw [hG _ (by omega)]; exact h4, by rw [hG _ (by omega)]; exact h5, by rw [hG _ (by omega)]; exact h6, by rw [hG _ (by omega)]; exact h7, by rw [hG _ (by omega)]; exact h8⟩
theorem fa_p {s : pPg} {M : Nat → List pRw} {F : List pFc} {p : Nat} (hok : qOk s) (hR : qTb s M) (hF : qFa s M F) (hp : p < s.1.length) : F.filter (fun y => decide (y.1 = qNm s p)) = (M p).map (fun r => (qNm s p, r.1)) := by
  refine srt_ext (lt := fLt) fLt_irr (fun a b c => fLt_tr) _ _ (hF.1.filter _) (List.pairwise_map.mpr ((hR p hp).2.1.imp (fun {a b} h => ?_))) (fun y => ?_)
  · have h' : fCmp (0, a.1) (0, b.1) < 0 := h
    show fCmp (qNm s p, a.1) (qNm s p, b.1) < 0
    unfold fCmp at h' ⊢
    rw [if_pos rfl] at h' ⊢
    exact h'
  · rw [List.mem_filter, List.mem_map, hF.2]
    constructor
    · rintro ⟨⟨p', p1, p2, w, w1, w2⟩, h⟩
      have e : y.1 = qNm s p := of_decide_eq_true h
      have : p' = p := nm_inj hok p1 hp (p2.symm.trans e)
      subst this
      exact ⟨w, w1, Prod.ext e.symm w2⟩
    · rintro ⟨w, w1, rfl⟩
      exact ⟨⟨p, hp, rfl, w, w1, rfl⟩, decide_eq_true rfl⟩
theorem dfC_e {s : pPg} {M M' : Nat → List pRw} {F F' : List pFc} {p : Nat} {sg : Int} (hok : qOk s) (hR : qTb s M) (hF : qFa s M F) (hF' : qFa s M' F') (hp : p < s.1.length) : dfC sg (qNm s p) F F' = ((M p).filter (fun r => ! hasV (M' p) r.1)).map (fun r => (sg, qNm s p, r.1)) := by
  unfold dfC
  have e1 : F.filter (fun y => decide (y.1 = qNm s p ∧ y ∉ F')) = (F.filter (fun y => decide (y.1 = qNm s p))).filter (fun y => decide (y ∉ F')) := by
    rw [List.filter_filter]
    refine List.filter_congr (fun y _ => ?_)
    by_cases c1 : y.1 = qNm s p <;> by_cases c2 : y ∈ F' <;> simp [c1, c2]
  rw [e1, fa_p hok hR hF hp, List.filter_map, List.map_map]
  have e2 : (M p).filter ((fun y => decide (y ∉ F')) ∘ fun r => (qNm s p, r.1)) = (M p).filter (fun r => ! hasV (M' p) r.1) := by
    refine List.filter_congr (fun r _ => ?_)
    show decide ((qNm s p, r.1) ∉ F') = ! hasV (M' p) r.1
    have := fn_iff hok hF' hp (xs := r.1)
    cases hb : hasV (M' p) r.1 with
    | true =>
      have z := this.mpr hb
      simp [z]
    | false =>
      have z : ¬ (qNm s p, r.1) ∈ F' := fun z => by rw [this.mp z] at hb; cases hb
      simp [z]
  rw [e2]
  rfl
section
variable {f ln x y a W cap cap2 A sl : Nat} {S : Nat → Nat × Nat × Nat} {G : xG_} {m : Nat × Nat} {s : pPg} {R R2 : List pRw} {E : List pPe} {tg ad sg nm : Int}
/-- addMissing's loop -/
theorem k_9l (hf : 700 < f) (ls : lnSt S ln) (hln : 242 < ln ∧ ln < 271) (ha : 555 < a) (hS : S a = (2, 4, 4)) (hx : x + 2 < a ∧ (x + 2 < 216 ∨ 555 < x)) (hy : y + 2 < a ∧ (y + 2 < 216 ∨ 555 < y)) (hW : W ≤ 4) (had : ad = (if sg < 0 then 0 else 1)) (hs : R.Pairwise rwLt) (hs2 : R2.Pairwise rwLt) (htg : ∀ v : List Int, v.length = W → (∃ p' : Nat, p' < s.1.length ∧ chT s (sg, nm, v) p' ∧ tg = (p' : Int)) ∨ ((∀ p', p' < s.1.length → ¬ chT s (sg, nm, v) p') ∧ tg = -1)) :
    ∀ (d i fu : Nat) (G : xG_) (E : List pPe), i + d = R.length → d < fu → lnPt G ln → cRw S G x W cap R → cRw S G y W cap2 R2 → cPn G ln s E → (∀ k, k < E.length → (E.getD k dPe).2.2.length ≤ 4) → E.length + ((R.drop i).filter (fun r => ! hasV R2 r.1)).length ≤ 400 →
      ∃ G', c9_8 f fu ln tg ad x y a (i : Int) (S, G, m) = some (S, G', m) ∧ cPn G' ln s (E ++ ((R.drop i).filter (fun r => ! hasV R2 r.1)).map (fun r => (sg, nm, r.1))) ∧ (∀ b j, b ≠ a → ¬ (b = ln ∧ j = 8) → ¬ (ln + 4 ≤ b ∧ b ≤ ln + 6) → G' b j = G b j) ∧ ∀ k, k < (E ++ ((R.drop i).filter (fun r => ! hasV R2 r.1)).map (fun r => (sg, nm, r.1))).length → ((E ++ ((R.drop i).filter (fun r => ! hasV R2 r.1)).map (fun r => (sg, nm, r.1))).getD k dPe).2.2.length ≤ 4 := by
  intro d
  induction d with
  | zero =>
    intro i fu G E e1 e2 lp h h2 hE hE4 h400
    obtain ⟨fu, rfl⟩ : ∃ t, fu = t + 1 := ⟨fu - 1, by omega⟩
    have eR : R.drop i = [] := List.drop_eq_nil_of_le (by omega)
    rw [eR]
    refine ⟨G, ?_, by rw [List.filter_nil, List.map_nil, List.append_nil]; exact hE, fun _ _ _ _ _ => rfl, by rw [List.filter_nil, List.map_nil, List.append_nil]; exact hE4⟩
    show c9_8b (c9_8 f fu) f _ _ _ _ _ _ _ _ = _
    unfold c9_8b
    rw [o_gi h.1, Option.bind_some, h.2.2.2.1.2.1, if_pos (by omega)]
  | succ d ih =>
    intro i fu G E e1 e2 lp h h2 hE hE4 h400
    obtain ⟨fu, rfl⟩ : ∃ t, fu = t + 1 := ⟨fu - 1, by omega⟩
    have hi : i < R.length := by omega
    have hcap := h.2.2.2.2.1
    have hcap2 := h.2.2.2.2.2.1
    obtain ⟨hl, _, _⟩ := h.2.2.2.2.2.2.2 i hi
    obtain ⟨G1, a1, a2, a3⟩ := k_78 (f := f) (m := m) h hi hS hW (by omega : a ≠ x + 1)
    have h1 : cRw S G1 x W cap R := h.ge (fun _ _ _ => rfl) (fun j => a2 _ _ (by omega)) (fun j => a2 _ _ (by omega)) (fun j => a2 _ _ (by omega))
    have h21 : cRw S G1 y W cap2 R2 := h2.ge (fun _ _ _ => rfl) (fun j => a2 _ _ (by omega)) (fun j => a2 _ _ (by omega)) (fun j => a2 _ _ (by omega))
    have lp1 : lnPt G1 ln := lnPt_of' lp (fun j => a2 _ _ (by omega))
    have hE1 : cPn G1 ln s E := hE.ge (fun b j _ _ => a2 _ _ (by omega))
    have hK : cKl S G1 a (R.getD i dRw).1 := ⟨⟨4, hS, by omega⟩, fun c hc => a3 c (by omega)⟩
    obtain ⟨v, b1, b2⟩ := k_74 (f := f) (m := m) (by omega) h21 hs2 hl hK
    have i1 : cq_is 5 4 x (S, G, m) = some () := if_pos h.1
    have i2 : cq_is 5 4 y (S, G1, m) = some () := if_pos h2.1
    have i3 : cq_is 1 14 ln (S, G1, m) = some () := if_pos ls.1
    have w1 : xwr ((i : Int) + 1) = ((i + 1 : Nat) : Int) := by rw [xwr_g _ (by omega) (by omega)]; omega
    rw [drop_r hi] at h400 ⊢
    have e0 := Eq.refl (c9_8 f (fu + 1) ln tg ad x y a (i : Int) (S, G, m))
    conv at e0 => { rhs; change c9_8b (c9_8 f fu) f ln tg ad x y a (i : Int) (S, G, m); unfold c9_8b c9_48 }
    rw [o_gi h.1, Option.bind_some, h.2.2.2.1.2.1, if_neg (by omega), i1, Option.bind_some, a1, Option.bind_some, i2, Option.bind_some, b1, Option.bind_some] at e0
    obtain ⟨lo, _, ⟨c1, c2, c3⟩ | ⟨c1, c2⟩⟩ := b2
    · have hv : hasV R2 (R.getD i dRw).1 = true := hasV_t.mpr ⟨_, mem_get.mpr ⟨lo, c2, rfl⟩, c3⟩
      have ef : (R.getD i dRw :: R.drop (i + 1)).filter (fun r => ! hasV R2 r.1) = (R.drop (i + 1)).filter (fun r => ! hasV R2 r.1) := by
        rw [List.filter_cons_of_neg (by rw [hv]; decide)]
      rw [ef] at h400 ⊢
      rw [if_pos (show 0 ≤ v by omega), w1] at e0
      obtain ⟨G', g1, g2, g3, g4⟩ := ih (i + 1) fu G1 E (by omega) (by omega) lp1 h1 h21 hE1 hE4 h400
      exact ⟨G', e0.trans g1, g2, fun b j y1 y2 y3 => by rw [g3 b j y1 y2 y3, a2 b j (by omega)], g4⟩
    · have hv : hasV R2 (R.getD i dRw).1 = false := by
        cases hb : hasV R2 (R.getD i dRw).1 with
        | false => rfl
        | true =>
          obtain ⟨r, r1, r2⟩ := hasV_t.mp hb
          exact absurd r2 (c2 r r1)
      have ef : (R.getD i dRw :: R.drop (i + 1)).filter (fun r => ! hasV R2 r.1) = R.getD i dRw :: (R.drop (i + 1)).filter (fun r => ! hasV R2 r.1) := by
        rw [List.filter_cons_of_pos (by rw [hv]; decide)]
      rw [ef] at h400 ⊢
      rw [List.length_cons] at h400
      obtain ⟨G2, k1, k2, k3, k4, k5, k6⟩ := k_8 (f := f) (m := m) (vp := a) (fm := 0) (w := W) (Lv := 4) (p := tg) (ad := ad) ls lp1 hE1.1 (by omega) hS (by omega) (by omega) hW (by rw [had]; split <;> omega) (by omega)
      have k1' : c8 f ln tg ad a 0 (W : Int) (S, G1, m) = some (S, G2, m) := k1
      have hw0 : G1 x 0 = (W : Int) := h1.2.2.2.1.1
      rw [if_neg (show ¬ 0 ≤ v by omega), o_gi h.1, Option.bind_some, hw0, i3, Option.bind_some, k1', Option.bind_some, w1] at e0
      have fr2 : ∀ b j, ¬ (b = ln ∧ j = 8) → ¬ (ln + 4 ≤ b ∧ b ≤ ln + 6) → G2 b j = G1 b j := fun b j y1 y2 => k2 b j y1 (by omega) (by omega) (by omega)
      have hP2 : cPn G2 ln s (E ++ [(sg, nm, (R.getD i dRw).1)]) := hE1.add (by omega) k2 k3 (by rw [k4]; exact htg _ hl) (by rw [k5, had]) (fun c hc => by
        have hc' : c < W := by
          have : c < (R.getD i dRw).1.length := hc
          omega
        rw [k6 c hc', Nat.zero_add, a3 c hc']) hE4
      have hE4' : ∀ k, k < (E ++ [(sg, nm, (R.getD i dRw).1)]).length → ((E ++ [(sg, nm, (R.getD i dRw).1)]).getD k dPe).2.2.length ≤ 4 := fun k hk => by
        rw [List.length_append, List.length_singleton] at hk
        by_cases ck : k < E.length
        · rw [getD_app _ ck]; exact hE4 k ck
        · have : k = E.length := by omega
          rw [this]
          simp only [List.getD_eq_getElem?_getD]
          rw [List.getElem?_append_right (Nat.le_refl _), Nat.sub_self]
          show (R.getD i dRw).1.length ≤ 4
          omega
      obtain ⟨G', g1, g2, g3, g4⟩ := ih (i + 1) fu G2 (E ++ [(sg, nm, (R.getD i dRw).1)]) (by omega) (by omega) (lnPt_8 lp1 (fun j hj => fr2 _ _ (by omega) (by omega))) (h1.ge (fun _ _ _ => rfl) (fun j => fr2 _ _ (by omega) (by omega)) (fun j => fr2 _ _ (by omega) (by omega)) (fun j => fr2 _ _ (by omega) (by omega))) (h21.ge (fun _ _ _ => rfl) (fun j => fr2 _ _ (by omega) (by omega)) (fun j => fr2 _ _ (by omega) (by omega)) (fun j => fr2 _ _ (by omega) (by omega))) hP2 hE4' (by rw [List.length_append, List.length_singleton]; omega)
      rw [List.map_cons]
      rw [List.append_assoc, List.singleton_append] at g2 g4
      exact ⟨G', e0.trans g1, g2, fun b j y1 y2 y3 => by rw [g3 b j y1 y2 y3, fr2 b j y2 y3, a2 b j (by omega)], g4⟩
/-- addMissing() -/
theorem k_9 (hf : 700 < f) (hA : 555 < A) (ls : lnSt S ln) (lp : lnPt G ln) (hln : 242 < ln ∧ ln < 271) (hx : x + 2 < A ∧ (x + 2 < 216 ∨ 555 < x)) (hy : y + 2 < A ∧ (y + 2 < 216 ∨ 555 < y)) (hW : W ≤ 4) (had : ad = (if sg < 0 then 0 else 1)) (hs : R.Pairwise rwLt) (hs2 : R2.Pairwise rwLt) (htg : ∀ v : List Int, v.length = W → (∃ p' : Nat, p' < s.1.length ∧ chT s (sg, nm, v) p' ∧ tg = (p' : Int)) ∨ ((∀ p', p' < s.1.length → ¬ chT s (sg, nm, v) p') ∧ tg = -1)) (h : cRw S G x W cap R) (h2 : cRw S G y W cap2 R2) (hE : cPn G ln s E) (hE4 : ∀ k, k < E.length → (E.getD k dPe).2.2.length ≤ 4) (h400 : E.length + (R.filter (fun r => ! hasV R2 r.1)).length ≤ 400) :
    ∃ S' G', c9 f ln tg ad x y (S, G, (A, sl)) = some (S', G', (A + 1, sl + 4)) ∧ (∀ b, b < A → S' b = S b) ∧ cPn G' ln s (E ++ (R.filter (fun r => ! hasV R2 r.1)).map (fun r => (sg, nm, r.1))) ∧ (∀ b j, b < A → ¬ (b = ln ∧ j = 8) → ¬ (ln + 4 ≤ b ∧ b ≤ ln + 6) → G' b j = G b j) ∧ ∀ k, k < (E ++ (R.filter (fun r => ! hasV R2 r.1)).map (fun r => (sg, nm, r.1))).length → ((E ++ (R.filter (fun r => ! hasV R2 r.1)).map (fun r => (sg, nm, r.1))).getD k dPe).2.2.length ≤ 4 := by
  obtain ⟨S1, hS1⟩ : ∃ S1, S1 = xup1 S A (2, 4, 4) := ⟨_, rfl⟩
  obtain ⟨G1, hG1⟩ : ∃ G1, G1 = xz1 G A (fun _ => 0) := ⟨_, rfl⟩
  have sL : ∀ b, b < A → S1 b = S b := fun b hb => by rw [hS1, xup1_n (by omega)]
  have gL : ∀ b j, b < A → G1 b j = G b j := fun b j hb => by rw [hG1, xz1_n _ (by omega)]
  have en : cq_na 4 4 (S, G, (A, sl)) = some (A, (S1, G1, (A + 1, sl + 4))) := by
    rw [cq_na_ok (by decide) (by decide) (by decide), hS1, hG1]
    rfl
  have hR := h.2.2.2.2.1
  have hR2 := h.2.2.2.2.2.1
  obtain ⟨G2, g1, g2, g3, g4⟩ := k_9l (f := f) (m := (A + 1, sl + 4)) (x := x) (y := y) (a := A) (ad := ad) (sg := sg) (nm := nm) (tg := tg) (s := s) hf (lnSt_of' ls (fun b _ y2 => sL b (by omega))) hln hA (by rw [hS1, xup1_s]) hx hy hW had hs hs2 htg R.length 0 f G1 E (by omega) (by omega) (lnPt_of' lp (fun j => gL _ _ (by omega))) (h.ge (fun b y1 y2 => sL b (by omega)) (fun j => gL _ _ (by omega)) (fun j => gL _ _ (by omega)) (fun j => gL _ _ (by omega))) (h2.ge (fun b y1 y2 => sL b (by omega)) (fun j => gL _ _ (by omega)) (fun j => gL _ _ (by omega)) (fun j => gL _ _ (by omega))) (hE.ge (fun b j y1 y2 => gL _ _ (by omega))) hE4 (by rw [List.drop_zero]; exact h400)
  rw [List.drop_zero] at g2 g4
  refine ⟨S1, G2, ?_, sL, g2, fun b j y1 y2 y3 => by rw [g3 b j (by omega) y2 y3, gL b j y1], g4⟩
  unfold c9
  rw [en, Option.bind_some]
  exact g1
end
end
section
/-! THE CLASS: merge: where two lines meet -/
def eqR (R R2 : List pRw) (k : Nat) (κ : List Int) : Prop := ∀ v : List Int, v.take k = κ → (inV R v ↔ inV R2 v)
def lkR (R : List pRw) (k : Nat) (κ : List Int) (i : Int) : Prop := (i = -1 ∧ ∀ r ∈ R, r.1.take k ≠ κ) ∨ ∃ t : Nat, i = (t : Int) ∧ t < R.length ∧ (R.getD t dRw).1.take k = κ
def uK (R : List pRw) (k : Nat) : Prop := ∀ r ∈ R, ∀ r' ∈ R, r.1.take k = r'.1.take k → r.1 = r'.1
def mtR (B A Z : List pRw) (k : Nat) (κ : List Int) : Prop := ¬ eqR B Z k κ ∧ ¬ eqR A Z k κ ∧ ¬ eqR B A k κ
section
variable {f x y z a W cap cap2 cap3 k A0 sl : Nat} {S : Nat → Nat × Nat × Nat} {G : xG_} {m : Nat × Nat} {R R2 B A Z : List pRw} {κ : List Int} {i j : Int}
theorem get_in {R : List pRw} {t : Nat} (h : t < R.length) : R.getD t dRw ∈ R := mem_get.mpr ⟨t, h, rfl⟩
theorem k_86 (hf : 20 < f) (h : cRw S G x W cap R) (h2 : cRw S G y W cap2 R2) (hi : lkR R k κ i) (hj : lkR R2 k κ j) (u1 : uK R k) (u2 : uK R2 k) : ∃ v, c86 f x i y j (S, G, m) = some (v, (S, G, m)) ∧ (v = 0 ∧ ¬ eqR R R2 k κ ∨ v = 1 ∧ eqR R R2 k κ) := by
  have e20 : ∀ v : Int, v = 0 ∨ v = 1 → c86_20 f v (S, G, m) = some (v, (S, G, m)) := fun v hv => if_pos hv
  have e40 : ∀ v : Int, v = 0 ∨ v = 1 → c86_40 f v (S, G, m) = some (v, (S, G, m)) := fun v hv => if_pos hv
  unfold c86 c86_10
  rcases hi with ⟨rfl, hi⟩ | ⟨t, rfl, t1, t2⟩
  · rw [if_pos rfl]
    rcases hj with ⟨rfl, hj⟩ | ⟨t', rfl, r1, r2⟩
    · rw [if_neg (fun z => z rfl), e20 1 (.inr rfl)]
      refine ⟨1, rfl, .inr ⟨rfl, fun v hv => ⟨fun ⟨r, q1, q2⟩ => ?_, fun ⟨r, q1, q2⟩ => ?_⟩⟩⟩
      · exact absurd (by rw [q2]; exact hv) (hi r q1)
      · exact absurd (by rw [q2]; exact hv) (hj r q1)
    · rw [if_pos (by omega), e20 0 (.inl rfl)]
      refine ⟨0, rfl, .inl ⟨rfl, fun e => ?_⟩⟩
      obtain ⟨r, q1, q2⟩ := (e _ r2).mpr ⟨_, get_in r1, rfl⟩
      exact hi r q1 (by rw [q2]; exact r2)
  · rw [if_neg (by omega)]
    rcases hj with ⟨rfl, hj⟩ | ⟨t', rfl, r1, r2⟩
    · rw [if_neg (fun z => z rfl), if_pos (by omega), e20 0 (.inl rfl)]
      refine ⟨0, rfl, .inl ⟨rfl, fun e => ?_⟩⟩
      obtain ⟨r, q1, q2⟩ := (e _ t2).mp ⟨_, get_in t1, rfl⟩
      exact hj r q1 (by rw [q2]; exact t2)
    · have l1 := (h.2.2.2.2.2.2.2 t t1).1
      have l2 := (h2.2.2.2.2.2.2.2 t' r1).1
      have e72 := k_72 (m := m) (k := W) hf h h2 t1 r1 (Nat.le_refl _) (Nat.le_refl _)
      rw [List.take_of_length_le (by omega), List.take_of_length_le (by omega)] at e72
      have is : cq_is 5 4 x (S, G, m) = some () := if_pos h.1
      rw [if_pos (by omega), o_gi h.1, Option.bind_some, h.2.2.2.1.1, is, Option.bind_some, e72, Option.bind_some]
      by_cases c : vCmp (R.getD t dRw).1 (R2.getD t' dRw).1 = 0
      · have e := vCmp_eq (by omega) c
        rw [if_neg (fun z => z c), e40 1 (.inr rfl)]
        refine ⟨1, rfl, .inr ⟨rfl, fun v hv => ⟨fun ⟨r, q1, q2⟩ => ?_, fun ⟨r, q1, q2⟩ => ?_⟩⟩⟩
        · have := u1 r q1 _ (get_in t1) (by rw [q2, hv, t2])
          exact ⟨_, get_in r1, by rw [← e, ← this, q2]⟩
        · have := u2 r q1 _ (get_in r1) (by rw [q2, hv, r2])
          exact ⟨_, get_in t1, by rw [e, ← this, q2]⟩
      · rw [if_pos c, e40 0 (.inl rfl)]
        refine ⟨0, rfl, .inl ⟨rfl, fun e => ?_⟩⟩
        obtain ⟨r, q1, q2⟩ := (e _ t2).mp ⟨_, get_in t1, rfl⟩
        have := u2 r q1 _ (get_in r1) (by rw [q2, t2, r2])
        rw [q2] at this
        exact c (by rw [this]; exact vCmp_self _)
/-- KEYS grow -/
theorem ks_lt {t t' : Nat} (hs : R.Pairwise rwLt) (hl : ∀ r ∈ R, r.1.length = W) (u : uK R k) (h1 : t < t') (h2 : t' < R.length) : vCmp ((R.getD t dRw).1.take k) ((R.getD t' dRw).1.take k) < 0 := by
  have l1 := hl _ (get_in (by omega : t < R.length))
  have l2 := hl _ (get_in h2)
  have hlt : vLt (R.getD t dRw).1 (R.getD t' dRw).1 := srt_get (d := dRw) hs h1 h2
  have c1 := vCmp_tk k _ _ ((vLt_iff (by omega)).mp hlt)
  have c2 : vCmp ((R.getD t dRw).1.take k) ((R.getD t' dRw).1.take k) ≠ 0 := fun e => by
    have e2 := vCmp_eq (by rw [List.length_take, List.length_take]; omega) e
    have e3 := u _ (get_in (by omega : t < R.length)) _ (get_in h2) e2
    rw [e3] at hlt
    exact vLt_irr _ hlt
  omega
/-- meeting's step: where the next KEY stands -/
theorem st_85 {r11 : Nat → Nat → Nat → Int → Nat → Int → Int → xT_ → Option (Int × xT_)} {i j : Nat} (h : cRw S G x W cap B) (h3 : cRw S G z W cap3 Z) (hf : 20 < f) (hk : k ≤ W) (hij : i < B.length ∨ j < Z.length) : ∃ c : Int, (-1 ≤ c ∧ c ≤ 1) ∧ (c ≤ 0 → i < B.length) ∧ (0 ≤ c → j < Z.length) ∧ (i < B.length → j < Z.length → c = vCmp ((B.getD i dRw).1.take k) ((Z.getD j dRw).1.take k)) ∧ c85_11b r11 f x y z (k : Int) a (i : Int) (j : Int) (S, G, m) = c85_65 r11 f x y z (k : Int) a (i : Int) (j : Int) c (S, G, m) := by
  unfold c85_11b c85_29
  rw [o_gi h.1, Option.bind_some, h.2.2.2.1.2.1, o_gi h3.1, Option.bind_some, h3.2.2.2.1.2.1]
  have is : cq_is 5 4 x (S, G, m) = some () := if_pos h.1
  by_cases c1 : i < B.length
  · rw [if_pos (by omega), if_pos (by omega), Option.bind_some]
    by_cases c2 : j < Z.length
    · have e72 := k_72 (m := m) (k := k) hf h h3 c1 c2 hk hk
      have cin := vCmp_in ((B.getD i dRw).1.take k) ((Z.getD j dRw).1.take k)
      rw [if_pos (by omega), is, Option.bind_some, e72, Option.bind_some]
      exact ⟨_, by omega, fun _ => c1, fun _ => c2, fun _ _ => rfl, rfl⟩
    · rw [if_neg (by omega)]
      exact ⟨-1, by omega, fun _ => c1, fun z => absurd z (by decide), fun _ z => absurd z c2, rfl⟩
  · have c2 : j < Z.length := by omega
    rw [if_neg (by omega), Option.bind_some, if_neg (by omega), if_neg (by omega)]
    exact ⟨1, by omega, fun z => absurd z (by decide), fun _ => c2, fun z => absurd z c1, rfl⟩
end
end
