/-! THE CLASS: differing, rowsAhead; the list of a round's edits -/
section
variable {f x y q qo nq nqo nx nxo ea eb rp ro p sl A0 : Nat} {S : Nat → Nat × Nat × Nat} {G : xG_} {m : Nat × Nat} {s so : pPg} {xr cr xo co : Nat → Nat} {M Mo A : Nat → List pRw} {F Fo : List pFc}
theorem dfN_nil {R : List pRw} : dfN R [] = R.length := by
  unfold dfN
  rw [List.countP_eq_length.mpr (fun r _ => by rfl)]
  rfl
theorem k_18 (hf : 700 < f) (hq : cPgm S G q nq s) (ho : cPgm S G qo nqo so) (hoks : qOk s) (hoko : qOk so) (hm : cMr S G nx eb q rp s xr cr M) (hmo : cMr S G nxo ea qo ro so xo co Mo) (hM : okM8 s M) (hMo : okM8 so Mo) (hA : isAh so s Mo A) (hp : p < s.1.length) : c18 f eb ea (p : Int) (S, G, m) = some ((dfN (M p) (A p) : Int), (S, G, m)) := by
  obtain ⟨v, v1, v2⟩ := k_21 (f := f) (m := m) (by omega) hq ho hoks hoko hp
  obtain ⟨b1, b2, b3⟩ := hm.2.2.2.2 p hp
  have i1 : cq_is 3 14 qo (S, G, m) = some () := if_pos ho.1.1
  have i2 : cq_is 5 4 (xr p) (S, G, m) = some () := if_pos b3.1
  unfold c18 c18_45
  rw [o_gr hmo.1 hmo.2.1, Option.bind_some, o_gr hm.1 hm.2.1, Option.bind_some, i1, Option.bind_some, v1, Option.bind_some]
  rcases v2 with ⟨r, rfl, r1, r2, r3⟩ | ⟨rfl, r1⟩
  · obtain ⟨d1, d2, d3⟩ := hmo.2.2.2.2 r r1
    have eA : A p = Mo r := by
      rcases hA p hp with ⟨r', a1, a2, a3, e⟩ | ⟨a1, e⟩
      · have : r' = r := nm_inj hoko a1 r1 (a2.trans r2.symm)
        rw [e, this]
      · exact absurd r3 (a1 r r1 r2)
    rw [r3] at d3
    have e83 := k_83 (f := f) (m := m) (by omega) b3 d3 (hM p hp).1 (hMo r r1).1
    rw [if_pos (show ¬ (((r : Nat) : Int) = -1) by omega), o_gr hm.1 hm.2.2.1, Option.bind_some, o_ar hm.2.2.2.1 (by decide) hp b1, Option.bind_some, o_gr hmo.1 hmo.2.2.1, Option.bind_some, o_ar hmo.2.2.2.1 (by decide) r1 d1, Option.bind_some, i2, Option.bind_some, e83, Option.bind_some, eA]
  · have eA : A p = [] := by
      rcases hA p hp with ⟨r', a1, a2, a3, e⟩ | ⟨a1, e⟩
      · exact absurd a3 (r1 r' a1 a2)
      · exact e
    rw [if_neg (fun z => z rfl), o_gr hm.1 hm.2.2.1, Option.bind_some, o_ar hm.2.2.2.1 (by decide) hp b1, Option.bind_some, o_gi b3.1, Option.bind_some, b3.2.2.2.1.2.1, eA, dfN_nil]
theorem k_17 (hf : 700 < f) (hA0 : 0 < A0) (hqA : q + 10 < A0) (hmA : eb < A0) (hq : cPgm S G q nq s) (ho : cPgm S G qo nqo so) (hoks : qOc s) (hoko : qOk so) (hm : cMr S G nx eb q rp s xr cr M) (hmo : cMr S G A0 ea qo ro so xo co Mo) (hA : isAh so s Mo A) (hp : p < s.1.length) : ∃ y S' G' m' c, c17 f eb ea (p : Int) (S, G, (A0, sl)) = some (y, (S', G', m')) ∧ A0 ≤ m'.1 ∧ m'.1 ≤ A0 + 3 ∧ sl ≤ m'.2 ∧ m'.2 ≤ sl + 4 ∧ (∀ a, a < A0 → S' a = S a) ∧ (∀ a j, a < A0 → G' a j = G a j) ∧ cRw S' G' y (qN s p) c (A p) := by
  obtain ⟨v, v1, v2⟩ := k_21 (f := f) (m := (A0, sl)) (by omega) hq ho hoks.1 hoko hp
  have i1 : cq_is 3 14 qo (S, G, (A0, sl)) = some () := if_pos ho.1.1
  have hw4 := (qN_pos hoks hp).2
  have h16 : s.1.length ≤ 16 := hq.2.2.1.2.1
  unfold c17
  rw [o_gr hmo.1 hmo.2.1, Option.bind_some, o_gr hm.1 hm.2.1, Option.bind_some, i1, Option.bind_some, v1, Option.bind_some]
  rcases v2 with ⟨r, rfl, r1, r2, r3⟩ | ⟨rfl, r1⟩
  · obtain ⟨d1, d2, d3⟩ := hmo.2.2.2.2 r r1
    have eA : A p = Mo r := by
      rcases hA p hp with ⟨r', a1, a2, a3, e⟩ | ⟨a1, e⟩
      · have : r' = r := nm_inj hoko a1 r1 (a2.trans r2.symm)
        rw [e, this]
      · exact absurd r3 (a1 r r1 r2)
    rw [r3] at d3
    rw [if_pos (show ¬ (((r : Nat) : Int) = -1) by omega), o_gr hmo.1 hmo.2.2.1, Option.bind_some, o_ar hmo.2.2.2.1 (by decide) r1 d1, Option.bind_some]
    exact ⟨xo r, S, G, (A0, sl), co r, rfl, Nat.le_refl _, Nat.le_add_right _ _, Nat.le_refl _, Nat.le_add_right _ _, fun _ _ => rfl, fun _ _ _ => rfl, by rw [eA]; exact d3⟩
  · have eA : A p = [] := by
      rcases hA p hp with ⟨r', a1, a2, a3, e⟩ | ⟨a1, e⟩
      · exact absurd a3 (r1 r' a1 a2)
      · exact e
    obtain ⟨S1, hS1⟩ : ∃ S1, S1 = xup1 S A0 (1, 5, 4) := ⟨_, rfl⟩
    obtain ⟨G1, hG1⟩ : ∃ G1, G1 = xz1 G A0 (fun _ => 0) := ⟨_, rfl⟩
    have sL1 : ∀ a, a < A0 → S1 a = S a := fun a ha => by rw [hS1, xup1_n (by omega)]
    have gL1 : ∀ a j, a < A0 → G1 a j = G a j := fun a j ha => by rw [hG1, xz1_n _ (by omega)]
    have sA1 : S1 A0 = (1, 5, 4) := by rw [hS1, xup1_s]
    have enw : cq_nw 5 4 (S, G, (A0, sl)) = some (A0, (S1, G1, (A0 + 1, sl + 4))) := by rw [hS1, hG1]; rfl
    have e1 := k_68 (f := f) (A := A0) (W := qN s p) (n := 0) (sl := sl + 4) (S := S1) (G := G1) hA0 (by omega) (by omega) sA1
    obtain ⟨S2, hS2⟩ : ∃ S2, S2 = xup1 (xup1 S1 (A0 + 1) (2, 4, qN s p * 0)) (A0 + 2) (2, 3, 0) := ⟨_, rfl⟩
    obtain ⟨G2, hG2⟩ : ∃ G2, G2 = xup2 (xz1 (xup2 (xz1 (xup2 G1 A0 0 (qN s p : Int)) (A0 + 1) (fun _ => 0)) A0 2 ((A0 + 1 : Nat) : Int)) (A0 + 2) (fun _ => 0)) A0 3 ((A0 + 2 : Nat) : Int) := ⟨_, rfl⟩
    rw [← hS2, ← hG2] at e1
    have sA : S2 A0 = (1, 5, 4) := by rw [hS2, xup1_n (by omega), xup1_n (by omega), sA1]
    have sA1' : S2 (A0 + 1) = (2, 4, qN s p * 0) := by rw [hS2, xup1_n (by omega), xup1_s]
    have sA2 : S2 (A0 + 2) = (2, 3, 0) := by rw [hS2, xup1_s]
    have sL : ∀ a, a < A0 → S2 a = S a := fun a ha => by rw [hS2, xup1_n (by omega), xup1_n (by omega), sL1 a ha]
    have gL : ∀ a j, a < A0 → G2 a j = G a j := fun a j ha => by rw [hG2, xup2_n (by omega), xz1_n _ (by omega), xup2_n (by omega), xz1_n _ (by omega), xup2_n (by omega), gL1 a j ha]
    have g0 : G2 A0 0 = (qN s p : Int) := by rw [hG2, xup2_n (by omega), xz1_n _ (by omega), xup2_n (by omega), xz1_n _ (by omega), xup2_s]
    have g1 : G2 A0 1 = 0 := by rw [hG2, xup2_n (by omega), xz1_n _ (by omega), xup2_n (by omega), xz1_n _ (by omega), xup2_n (by omega), hG1, xz1_s]
    have g2 : G2 A0 2 = ((A0 + 1 : Nat) : Int) := by rw [hG2, xup2_n (by omega), xz1_n _ (by omega), xup2_s]
    have g3 : G2 A0 3 = ((A0 + 2 : Nat) : Int) := by rw [hG2, xup2_s]
    have gw : G1 (q + 2) p = (qN s p : Int) := by
      rw [gL1 _ _ (by omega), (qN_c hoks.1.1 p).1]
      exact hq.2.2.2.1 p (by omega)
    have e2 : c68 f A0 (qN s p : Int) 0 (S1, G1, (A0 + 1, sl + 4)) = some (S2, G2, (A0 + 3, sl + 4 + qN s p * 0 + 0)) := e1
    rw [if_neg (fun z => z rfl), enw, Option.bind_some, o_gr (x := eb) (y := q) (by rw [sL1 _ hmA]; exact hm.1) (by rw [gL1 _ _ hmA]; exact hm.2.1), Option.bind_some, o_gr (x := q) (y := q + 2) (by rw [sL1 _ (by omega)]; exact hq.1.1) (by rw [gL1 _ _ (by omega)]; exact hq.2.1.2.1), Option.bind_some, o_a (L := 16) (by rw [sL1 _ (by omega)]; exact hq.1.2.2.1) (by omega), Option.bind_some, gw, e2, Option.bind_some]
    refine ⟨A0, S2, G2, (A0 + 3, sl + 4 + qN s p * 0 + 0), 0, rfl, by show A0 ≤ A0 + 3; omega, Nat.le_refl _, by show sl ≤ sl + 4 + qN s p * 0 + 0; omega, by show sl + 4 + qN s p * 0 + 0 ≤ sl + 4; omega, sL, gL, sA, ⟨_, sA1', by omega, by omega⟩, sA2, ⟨g0, by rw [eA]; exact g1, g2, g3⟩, by rw [eA]; exact Nat.le_refl _, by omega, by omega, fun i hi => by rw [eA] at hi; exact absurd hi (Nat.not_lt_zero _)⟩
/-- edits of one predicate, of those from p on -/
def eB (s : pPg) (M A : Nat → List pRw) (p : Nat) : List pEd := if pOu s.2.2.1 (p : Int) = true then (mgD ((M p).length + (A p).length) (M p) (A p)).map (fun e => (p, e.1, e.2)) else []
def eT (B : Nat → List pEd) : Nat → Nat → List pEd
  | _, 0 => []
  | p, d + 1 => B p ++ eT B (p + 1) d
theorem eT_m {B : Nat → List pEd} (hB : ∀ p e, e ∈ B p → e.1 = p) {e : pEd} : ∀ (d p : Nat), e ∈ eT B p d ↔ (p ≤ e.1 ∧ e.1 < p + d) ∧ e ∈ B e.1
  | 0, p => ⟨fun z => absurd z List.not_mem_nil, fun z => by have := z.1; omega⟩
  | d + 1, p => by
    show e ∈ B p ++ eT B (p + 1) d ↔ _
    rw [List.mem_append, eT_m hB d (p + 1)]
    constructor
    · rintro (z | ⟨z1, z2⟩)
      · have := hB p e z
        exact ⟨by omega, by rw [this]; exact z⟩
      · exact ⟨by omega, z2⟩
    · rintro ⟨z1, z2⟩
      by_cases c : e.1 = p
      · exact .inl (by rw [← c]; exact z2)
      · exact .inr ⟨by omega, z2⟩
def edL' (e e' : pEd) : Prop := e.1 < e'.1 ∨ e.1 = e'.1 ∧ vLt e.2.2 e'.2.2
theorem eT_s {B : Nat → List pEd} (hB : ∀ p e, e ∈ B p → e.1 = p) (hs : ∀ p, (B p).Pairwise edL') : ∀ (d p : Nat), (eT B p d).Pairwise edL'
  | 0, p => List.Pairwise.nil
  | d + 1, p => by
    show (B p ++ eT B (p + 1) d).Pairwise edL'
    refine List.pairwise_append.mpr ⟨hs p, eT_s hB hs d (p + 1), fun a ha b hb => .inl ?_⟩
    have h1 := hB p a ha
    have h2 := ((eT_m hB d (p + 1)).mp hb).1
    omega
theorem eB_1 {p : Nat} {e : pEd} (h : e ∈ eB s M A p) : e.1 = p := by
  unfold eB at h
  split at h
  · obtain ⟨x, _, rfl⟩ := List.mem_map.mp h
    rfl
  · cases h
/-- the edits of a round are these -/
theorem ed_is {E : List pEd} (hok : qOk s) (hoko : qOk so) (hR : qTb s M) (hM : qTb so Mo) (hF : qFa s M F) (hFo : qFa so Mo Fo) (hA : isAh so s Mo A) (hE : qEd s F Fo E) : E = eT (eB s (fun p => if p < s.1.length then M p else []) (fun p => if p < s.1.length then A p else [])) 0 s.1.length := by
  obtain ⟨M', hM'⟩ : ∃ M', M' = fun p => if p < s.1.length then M p else [] := ⟨_, rfl⟩
  obtain ⟨A', hA'⟩ : ∃ A', A' = fun p => if p < s.1.length then A p else [] := ⟨_, rfl⟩
  rw [← hM', ← hA']
  have hAs := hA.srt hM
  have eM : ∀ p, p < s.1.length → M' p = M p := fun p hp => by rw [hM']; exact if_pos hp
  have eA : ∀ p, p < s.1.length → A' p = A p := fun p hp => by rw [hA']; exact if_pos hp
  have nM : ∀ p, ¬ p < s.1.length → M' p = [] := fun p hp => by rw [hM']; exact if_neg hp
  have nA : ∀ p, ¬ p < s.1.length → A' p = [] := fun p hp => by rw [hA']; exact if_neg hp
  have key : ∀ p, (∀ e, e ∈ mgD ((M' p).length + (A' p).length) (M' p) (A' p) ↔ mgM (M' p) (A' p) e) ∧ (mgD ((M' p).length + (A' p).length) (M' p) (A' p)).Pairwise (fun e e' => vLt e.2 e'.2) := fun p => by
    by_cases hp : p < s.1.length
    · rw [eM p hp, eA p hp]
      exact mgD_i (qN s p) _ _ _ (Nat.le_refl _) (hR p hp).2.1 (hAs p hp).1 (fun r hr => ((hR p hp).2.2 r hr).1) (hAs p hp).2.2
    · rw [nM p hp, nA p hp]
      exact mgD_i 0 _ _ _ (Nat.le_refl _) List.Pairwise.nil List.Pairwise.nil (fun r hr => by cases hr) (fun r hr => by cases hr)
  have hB : ∀ p e, e ∈ eB s M' A' p → e.1 = p := fun p e h => eB_1 h
  have hBs : ∀ p, (eB s M' A' p).Pairwise edL' := fun p => by
    unfold eB
    split
    · exact List.pairwise_map.mpr ((key p).2.imp (fun {a b} h => .inr ⟨rfl, h⟩))
    · exact List.Pairwise.nil
  refine srt_ext (lt := edL') ?_ ?_ _ _ ?_ (eT_s hB hBs _ _) (fun e => ?_)
  · rintro a (h | ⟨_, h⟩)
    · omega
    · exact vLt_irr _ h
  · rintro a b c (h | ⟨h, h'⟩) (g | ⟨g, g'⟩)
    · exact .inl (by omega)
    · exact .inl (by omega)
    · exact .inl (by omega)
    · exact .inr ⟨h.trans g, vLt_tr h' g'⟩
  · refine hE.1.imp_of_mem (fun {a b} ha hb z => ?_)
    rcases z with z | ⟨z1, z2⟩
    · exact .inl z
    · have l1 := ((hE.2 a).mp ha).2.2.1
      have l2 := ((hE.2 b).mp hb).2.2.1
      exact .inr ⟨z1, (vLt_iff (by rw [l1, l2, z1])).mpr z2⟩
  · rw [hE.2 e, eT_m hB]
    unfold eB edQ
    constructor
    · rintro ⟨h1, h2, h3, h4⟩
      rw [if_pos h2]
      refine ⟨⟨Nat.zero_le _, by omega⟩, List.mem_map.mpr ⟨(e.2.1, e.2.2), ((key e.1).1 _).mpr ?_, rfl⟩⟩
      unfold mgM
      rw [eM _ h1, eA _ h1, ← inV_h, ← inV_h, ← fn_iff hok hF h1, ← fo_iff hoko hM hFo hA h1 h3]
      rcases h4 with ⟨z1, z2, z3⟩ | ⟨z1, z2, z3⟩
      · exact .inr ⟨z1, z2, z3⟩
      · exact .inl ⟨z1, z2, z3⟩
    · rintro ⟨⟨_, h1⟩, h2⟩
      have hp : e.1 < s.1.length := by omega
      by_cases c : pOu s.2.2.1 (e.1 : Int) = true
      · rw [if_pos c] at h2
        obtain ⟨x, x1, x2⟩ := List.mem_map.mp h2
        have x3 : x = e.2 := by rw [← x2]
        rw [x3] at x1
        have x4 := ((key e.1).1 _).mp x1
        unfold mgM at x4
        rw [eM _ hp, eA _ hp] at x4
        have hl : e.2.2.length = qN s e.1 := by
          rcases x4 with ⟨_, ⟨r, r1, r2⟩, _⟩ | ⟨_, ⟨r, r1, r2⟩, _⟩
          · rw [← r2]; exact ((hR _ hp).2.2 r r1).1
          · rw [← r2]; exact (hAs _ hp).2.2 r r1
        rw [← inV_h, ← inV_h, ← fn_iff hok hF hp, ← fo_iff hoko hM hFo hA hp hl] at x4
        refine ⟨hp, c, hl, ?_⟩
        rcases x4 with ⟨z1, z2, z3⟩ | ⟨z1, z2, z3⟩
        · exact .inr ⟨z1, z2, z3⟩
        · exact .inl ⟨z1, z2, z3⟩
      · rw [if_neg c] at h2; cases h2
end
