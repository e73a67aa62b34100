/-! The reference tells one edit -/
/-- predicate, 1 came or 0 went, VALUES -/
abbrev pEd : Type := Nat × Int × List Int
abbrev dEd : pEd := (0, 0, [])
def rEd (G : xG_) (o : Nat) (E : List pEd) : Prop := G o 27 = (E.length : Int) ∧ E.length ≤ 3400 ∧ ∀ i, i < E.length → G (o + 21) i = ((E.getD i dEd).1 : Int) ∧ G (o + 22) i = (E.getD i dEd).2.1 ∧ ∀ j, j < 4 → G (o + 23) (4 * i + j) = (E.getD i dEd).2.2.getD j 0
theorem rEd.ge {G G' : xG_} {o : Nat} {E : List pEd} (h : rEd G o E) (h0 : G' o 27 = G o 27) (hf : ∀ a j, o + 21 ≤ a → a ≤ o + 23 → G' a j = G a j) : rEd G' o E := by
  obtain ⟨a1, a2, a3⟩ := h
  refine ⟨by rw [h0]; exact a1, a2, fun i hi => ?_⟩
  obtain ⟨b1, b2, b3⟩ := a3 i hi
  exact ⟨by rw [hf _ _ (by omega) (by omega)]; exact b1, by rw [hf _ _ (by omega) (by omega)]; exact b2, fun j hj => by rw [hf _ _ (by omega) (by omega)]; exact b3 j hj⟩
def fEd (o : Nat) (G G' : xG_) : Prop := ∀ a j, ¬ (a = o ∧ j = 27) → ¬ (o + 21 ≤ a ∧ a ≤ o + 23) → G' a j = G a j
theorem fEd.tr {o : Nat} {G G' G2 : xG_} (h : fEd o G G') (h' : fEd o G' G2) : fEd o G G2 := fun a j y1 y2 => by rw [h' a j y1 y2]; exact h a j y1 y2
section
variable {f b o h i p : Nat} {s : pPg} {F : List pFc} {E : List pEd}
theorem l_307 {G : xG_} {sg : Int} (hf : 40 < f) (hw : wPg s) (hh : h < 4) (ho : o = 123 + 29 * h) (hb : b = 243 ∨ b = 247) (hN : rNs G 2 s.1) (hPn : rPn G 2 s) (hp : p < s.1.length) (hF : rFa G b F) (hi : i < F.length) (hE : rEd G o E) (hl : E.length < 3400) :
    ∃ G', g307 f o (p : Int) sg b (i : Int) G = some G' ∧ fEd o G G' ∧ (ofP s (F.getD i dFc) p → rEd G' o (E ++ [(p, sg, (F.getD i dFc).2)])) ∧ (¬ ofP s (F.getD i dFc) p → rEd G' o E) := by
  have hl4 := hF.2.1
  have hnp := hw.1
  obtain ⟨q1, q2, q3, q4⟩ := hF.2.2 i hi
  obtain ⟨l1, l2, l3⟩ := hE
  have hii : 0 ≤ (i : Int) ∧ (i : Int) < 3400 := by omega
  have hpp : 0 ≤ (p : Int) ∧ (p : Int) < 16 := by omega
  have hEE : 0 ≤ (E.length : Int) ∧ (E.length : Int) < 3400 := by omega
  have h3 : G 3 p = qNm s p := hN.2.2 p hp
  have h4 : G 4 p = (qN s p : Int) := by
    rw [(qN_c hw p).1]
    exact hPn p hp
  by_cases c1 : (F.getD i dFc).1 = qNm s p
  · have n1 : ¬ ¬ (F.getD i dFc).1 = qNm s p := fun q => q c1
    by_cases c2 : (F.getD i dFc).2.length = qN s p
    · have n2 : ((F.getD i dFc).2.length : Int) = (qN s p : Int) := by omega
      let G1 := xup2 (xup2 G (o + 21) E.length (p : Int)) (o + 22) E.length sg
      have z1 : ∀ a j, ¬ (o + 21 ≤ a ∧ a ≤ o + 22 ∧ j = E.length) → G1 a j = G a j := fun a j y => by
        show xup2 _ _ _ _ _ _ = _
        rw [xup2_n (by omega), xup2_n (by omega)]
      have e0 : g307 f o (p : Int) sg b (i : Int) G = g307_65 f f o b (i : Int) 0 G1 := by
        have t1 : xup2 G (o + 21) E.length (p : Int) o 27 = (E.length : Int) := by rw [xup2_n (by omega)]; exact l1
        unfold g307
        simp only [Nat.reduceAdd]
        rw [if_pos hii, if_pos hpp, Int.toNat_natCast, Int.toNat_natCast, q1, h3, if_neg n1, if_pos hii, if_pos hpp, q2, h4, if_pos n2, l1, if_pos hEE, Option.bind_some, Int.toNat_natCast, t1, if_pos hEE, Option.bind_some, Int.toNat_natCast]
      have loop : ∀ (d k fu : Nat) (Z : xG_), k + d = 4 → d < fu → (∀ a j, ¬ (a = o + 23 ∧ 4 * E.length ≤ j ∧ j < 4 * E.length + 4) → Z a j = G1 a j) → (∀ j, j < k → Z (o + 23) (4 * E.length + j) = (F.getD i dFc).2.getD j 0) → ∃ Z', g307_65 f fu o b (i : Int) (k : Int) Z = some (xup2 Z' o 27 ((E.length + 1 : Nat) : Int)) ∧ (∀ a j, ¬ (a = o + 23 ∧ 4 * E.length ≤ j ∧ j < 4 * E.length + 4) → Z' a j = G1 a j) ∧ ∀ j, j < 4 → Z' (o + 23) (4 * E.length + j) = (F.getD i dFc).2.getD j 0 := by
        intro d
        induction d with
        | zero =>
          intro k fu Z h1 h2 h3 h4
          obtain ⟨fu, rfl⟩ : ∃ t, fu = t + 1 := ⟨fu - 1, by omega⟩
          have : k = 4 := by omega
          subst this
          refine ⟨Z, ?_, h3, h4⟩
          have z27 : Z o 27 = (E.length : Int) := by rw [h3 _ _ (by omega), z1 _ _ (by omega)]; exact l1
          have e1 : xwr ((E.length : Int) + 1) = ((E.length + 1 : Nat) : Int) := by rw [xwr_g _ (by omega) (by omega)]; omega
          show g307_65b (g307_65 f fu) f _ _ _ _ _ = _
          unfold g307_65b
          rw [if_pos (by decide), z27, e1]
          rfl
        | succ d ih =>
          intro k fu Z h1 h2 h3 h4
          obtain ⟨fu, rfl⟩ : ∃ t, fu = t + 1 := ⟨fu - 1, by omega⟩
          have e1 : xwr (xwr (4 * (i : Int)) + (k : Int)) = ((4 * i + k : Nat) : Int) := by
            rw [xwr_g (4 * (i : Int)) (by omega) (by omega), xwr_g _ (by omega) (by omega)]; omega
          have e2 : xwr (xwr (4 * (E.length : Int)) + (k : Int)) = ((4 * E.length + k : Nat) : Int) := by
            rw [xwr_g (4 * (E.length : Int)) (by omega) (by omega), xwr_g _ (by omega) (by omega)]; omega
          have e3 : xwr ((k : Int) + 1) = ((k + 1 : Nat) : Int) := by rw [xwr_g _ (by omega) (by omega)]; omega
          have z27 : Z o 27 = (E.length : Int) := by rw [h3 _ _ (by omega), z1 _ _ (by omega)]; exact l1
          have zv : Z (b + 2) (4 * i + k) = (F.getD i dFc).2.getD k 0 := by rw [h3 _ _ (by omega), z1 _ _ (by omega)]; exact q4 k (by omega)
          obtain ⟨Z', k1, k2, k3⟩ := ih (k + 1) fu (xup2 Z (o + 23) (4 * E.length + k) ((F.getD i dFc).2.getD k 0)) (by omega) (by omega) (fun a j y => by rw [xup2_n (by omega)]; exact h3 a j y) (fun j hj => by
            by_cases cj : j = k
            · rw [cj, xup2_s]
            · rw [xup2_n (by omega)]; exact h4 j (by omega))
          refine ⟨Z', ?_, k2, k3⟩
          rw [← k1]
          show g307_65b (g307_65 f fu) f _ _ _ _ _ = _
          unfold g307_65b
          rw [if_neg (by omega), e1, z27, e2, if_pos (by omega), if_pos (by omega), Int.toNat_natCast, Int.toNat_natCast, zv, Option.bind_some, e3]
      obtain ⟨Z, k1, k2, k3⟩ := loop 4 0 f G1 (by omega) (by omega) (fun _ _ _ => rfl) (fun j hj => absurd hj (by omega))
      refine ⟨_, by rw [e0]; exact k1, fun a j y1 y2 => by rw [xup2_n (by omega), k2 _ _ (by omega), z1 _ _ (by omega)], fun _ => ?_, fun q => absurd ⟨hp, c1.symm, c2.symm⟩ q⟩
      refine ⟨by rw [List.length_append]; exact xup2_s _ _ _ _, by rw [List.length_append]; exact hl, fun k hk => ?_⟩
      rw [List.length_append] at hk
      have hk' : k < E.length + 1 := hk
      by_cases ck : k = E.length
      · have e : (E ++ [(p, sg, (F.getD i dFc).2)]).getD k dEd = (p, sg, (F.getD i dFc).2) := by rw [getD_1, if_pos ck]
        rw [e, ck]
        refine ⟨?_, ?_, fun j hj => by rw [xup2_n (by omega)]; exact k3 j hj⟩
        · rw [xup2_n (by omega), k2 _ _ (by omega)]; show xup2 _ _ _ _ _ _ = _; rw [xup2_n (by omega), xup2_s]
        · rw [xup2_n (by omega), k2 _ _ (by omega)]; exact xup2_s _ _ _ _
      · have e : (E ++ [(p, sg, (F.getD i dFc).2)]).getD k dEd = E.getD k dEd := by rw [getD_1, if_neg ck]
        rw [e]
        obtain ⟨b1, b2, b3⟩ := l3 k (by omega)
        exact ⟨by rw [xup2_n (by omega), k2 _ _ (by omega), z1 _ _ (by omega)]; exact b1, by rw [xup2_n (by omega), k2 _ _ (by omega), z1 _ _ (by omega)]; exact b2, fun j hj => by rw [xup2_n (by omega), k2 _ _ (by omega), z1 _ _ (by omega)]; exact b3 j hj⟩
    · have n2 : ¬ ((F.getD i dFc).2.length : Int) = (qN s p : Int) := by omega
      refine ⟨G, ?_, fun _ _ _ _ => rfl, fun q => absurd q.2.2.symm c2, fun _ => ⟨l1, l2, l3⟩⟩
      unfold g307 g307_41
      simp only [Nat.reduceAdd]
      rw [if_pos hii, if_pos hpp, Int.toNat_natCast, Int.toNat_natCast, q1, h3, if_neg n1, if_pos hii, if_pos hpp, q2, h4, if_neg n2]
  · refine ⟨G, ?_, fun _ _ _ _ => rfl, fun q => absurd q.2.1.symm c1, fun _ => ⟨l1, l2, l3⟩⟩
    unfold g307 g307_41
    simp only [Nat.reduceAdd]
    rw [if_pos hii, if_pos hpp, Int.toNat_natCast, Int.toNat_natCast, q1, h3, if_pos c1]
end
/-- what edits a round tells -/
def edF (s : pPg) (e : pEd) : pFc := (qNm s e.1, e.2.2)
def edQ (A B : List pFc) (sg : Int) (y : pFc) : Prop := sg = 0 ∧ y ∈ B ∧ y ∉ A ∨ sg = 1 ∧ y ∈ A ∧ y ∉ B
def edLt (e e' : pEd) : Prop := e.1 < e'.1 ∨ e.1 = e'.1 ∧ vCmp e.2.2 e'.2.2 < 0
def edI (s : pPg) (A B : List pFc) (p : Nat) (D : Int → pFc → Prop) (E : List pEd) : Prop := E.Pairwise edLt ∧ ∀ e, e ∈ E ↔ e.1 < s.1.length ∧ pOu s.2.2.1 (e.1 : Int) = true ∧ e.2.2.length = qN s e.1 ∧ edQ A B e.2.1 (edF s e) ∧ (e.1 < p ∨ e.1 = p ∧ D e.2.1 (edF s e))
def qEd (s : pPg) (A B : List pFc) (E : List pEd) : Prop := E.Pairwise edLt ∧ ∀ e, e ∈ E ↔ e.1 < s.1.length ∧ pOu s.2.2.1 (e.1 : Int) = true ∧ e.2.2.length = qN s e.1 ∧ edQ A B e.2.1 (edF s e)
section
variable {s : pPg} {A B : List pFc} {E : List pEd} {p : Nat} {D D' : Int → pFc → Prop}
theorem edI.skip (h : edI s A B p D E) (hD : ∀ sg y, edQ A B sg y → (D' sg y ↔ D sg y)) : edI s A B p D' E := by
  refine ⟨h.1, fun e => ?_⟩
  rw [h.2 e]
  constructor
  · rintro ⟨a1, a2, a3, a4, a5⟩
    refine ⟨a1, a2, a3, a4, ?_⟩
    rw [hD _ _ a4]; exact a5
  · rintro ⟨a1, a2, a3, a4, a5⟩
    refine ⟨a1, a2, a3, a4, ?_⟩
    rw [hD _ _ a4] at a5; exact a5
theorem edI.not {sg0 : Int} {y0 : pFc} (h : edI s A B p D E) (hD : ∀ sg y, D' sg y ↔ D sg y ∨ sg = sg0 ∧ y = y0) (hn : ¬ ofP s y0 p) : edI s A B p D' E := by
  refine ⟨h.1, fun e => ?_⟩
  rw [h.2 e]
  constructor
  · rintro ⟨a1, a2, a3, a4, a5⟩
    exact ⟨a1, a2, a3, a4, a5.imp id (fun q => ⟨q.1, (hD _ _).mpr (.inl q.2)⟩)⟩
  · rintro ⟨a1, a2, a3, a4, a5⟩
    refine ⟨a1, a2, a3, a4, a5.imp id (fun q => ⟨q.1, ((hD _ _).mp q.2).resolve_right (fun r => hn ?_)⟩)⟩
    rw [← r.2, ← q.1]
    exact ⟨a1, rfl, a3.symm⟩
theorem edI.add {sg0 : Int} {y0 : pFc} (h : edI s A B p D E) (hD : ∀ sg y, D' sg y ↔ D sg y ∨ sg = sg0 ∧ y = y0) (hy : ofP s y0 p) (ho : pOu s.2.2.1 (p : Int) = true) (hq : edQ A B sg0 y0) (hlt : ∀ sg y, edQ A B sg y → D sg y → fLt y y0) : edI s A B p D' (E ++ [(p, sg0, y0.2)]) := by
  have ef : edF s (p, sg0, y0.2) = y0 := by
    unfold edF
    show (qNm s p, y0.2) = y0
    rw [hy.2.1]
  refine ⟨?_, fun e => ?_⟩
  · rw [List.pairwise_append]
    refine ⟨h.1, List.pairwise_singleton _ _, fun e he e' he' => ?_⟩
    rw [List.mem_singleton] at he'
    subst he'
    obtain ⟨a1, a2, a3, a4, a5⟩ := (h.2 e).mp he
    rcases a5 with a5 | ⟨a5, a6⟩
    · exact .inl a5
    · have k := hlt _ _ a4 a6
      unfold fLt fCmp at k
      have e1 : (edF s e).1 = y0.1 := by
        show qNm s e.1 = _
        rw [a5]; exact hy.2.1
      have e2 : (edF s e).2.length = y0.2.length := by
        show e.2.2.length = _
        rw [a3, a5]; exact hy.2.2
      rw [if_pos e1, if_pos e2] at k
      exact .inr ⟨a5, k⟩
  · rw [List.mem_append, h.2 e, List.mem_singleton]
    constructor
    · rintro (⟨a1, a2, a3, a4, a5⟩ | rfl)
      · exact ⟨a1, a2, a3, a4, a5.imp id (fun q => ⟨q.1, (hD _ _).mpr (.inl q.2)⟩)⟩
      · refine ⟨hy.1, ho, hy.2.2.symm, by rw [ef]; exact hq, .inr ⟨rfl, ?_⟩⟩
        rw [ef]
        exact (hD _ _).mpr (.inr ⟨rfl, rfl⟩)
    · rintro ⟨a1, a2, a3, a4, a5⟩
      rcases a5 with a5 | ⟨a5, a6⟩
      · exact .inl ⟨a1, a2, a3, a4, .inl a5⟩
      · rcases (hD _ _).mp a6 with a6 | ⟨a6, a7⟩
        · exact .inl ⟨a1, a2, a3, a4, .inr ⟨a5, a6⟩⟩
        · refine .inr ?_
          obtain ⟨x, y, z⟩ := e
          have z1 : x = p := a5
          have z2 : y = sg0 := a6
          have z3 : z = y0.2 := by rw [← a7]; rfl
          rw [z1, z2, z3]
theorem edI.len (hok : qOk s) (h : edI s A B p D E) : E.length ≤ B.length + A.length := by
  have hn : (E.map (fun e => (e.2.1, edF s e))).Nodup := by
    unfold List.Nodup
    rw [List.pairwise_map]
    refine h.1.imp_of_mem (fun {a b} ha hb hab q => ?_)
    have q2 : edF s a = edF s b := congrArg Prod.snd q
    have q3 : qNm s a.1 = qNm s b.1 := congrArg Prod.fst q2
    have q4 : (edF s a).2 = (edF s b).2 := congrArg Prod.snd q2
    have q4 : a.2.2 = b.2.2 := q4
    have q5 : a.1 = b.1 := nm_inj hok ((h.2 a).mp ha).1 ((h.2 b).mp hb).1 q3
    rcases hab with r | r
    · omega
    · have := r.2
      rw [q4, vCmp_self] at this
      omega
  have := nodup_len (E.map (fun e => (e.2.1, edF s e))) (B.map (fun y => ((0 : Int), y)) ++ A.map (fun y => ((1 : Int), y))) hn (fun x hx => by
    obtain ⟨e, he, rfl⟩ := List.mem_map.mp hx
    obtain ⟨a1, a2, a3, a4, a5⟩ := (h.2 e).mp he
    rw [List.mem_append]
    rcases a4 with ⟨r1, r2, r3⟩ | ⟨r1, r2, r3⟩
    · exact .inl (List.mem_map.mpr ⟨_, r2, by rw [r1]⟩)
    · exact .inr (List.mem_map.mpr ⟨_, r2, by rw [r1]⟩))
  rw [List.length_map, List.length_append, List.length_map, List.length_map] at this
  exact this
end
