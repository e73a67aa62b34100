/-! query() of the reference: the text is read -/
/-- what reading of a QUERY may change: mentions from m on, codes from c on, rule 24 -/
def xQr (m c : Nat) (G G' : xG_) : Prop := ∀ a j, ¬ (a = 0 ∧ (j ≤ 11 ∨ 21 ≤ j ∧ j ≤ 25)) → ¬ (a = 2 ∧ (j = 14 ∨ j = 37)) → ¬ (11 ≤ a ∧ a ≤ 14 ∧ m ≤ j) → ¬ (15 ≤ a ∧ a ≤ 22 ∧ j = 24) → ¬ (25 ≤ a ∧ a ≤ 32 ∧ 192 ≤ j) → ¬ (33 ≤ a ∧ a ≤ 34 ∧ 768 ≤ j) → ¬ (35 ≤ a ∧ a ≤ 36 ∧ c ≤ j) → G' a j = G a j
theorem xQr.tr {m c : Nat} {G G1 G2 : xG_} (h : xQr m c G G1) (h' : xQr m c G1 G2) : xQr m c G G2 := fun a j a1 a2 a3 a4 a5 a6 a7 => (h' a j a1 a2 a3 a4 a5 a6 a7).trans (h a j a1 a2 a3 a4 a5 a6 a7)
def mSh (q : Nat) (M : List pMn) : List pMn := M.map (fun m => (m.1, q + m.2.1, m.2.2.1, m.2.2.2))
theorem mSh_g {q : Nat} {M : List pMn} {k : Nat} (hk : k < M.length) : (mSh q M).getD k (0, 0, 0, 0) = ((M.getD k (0, 0, 0, 0)).1, q + (M.getD k (0, 0, 0, 0)).2.1, (M.getD k (0, 0, 0, 0)).2.2.1, (M.getD k (0, 0, 0, 0)).2.2.2) := by
  unfold mSh
  rw [List.getD_eq_getElem?_getD, List.getElem?_map, List.getElem?_eq_getElem hk, List.getD_eq_getElem?_getD, List.getElem?_eq_getElem hk]
  rfl
theorem mSh_l {q : Nat} {M : List pMn} : (mSh q M).length = M.length := List.length_map ..
theorem rMM.sh {G : xG_} {o q : Nat} {M : List pMn} (h : rMM G o q M) : rMs G o 0 (mSh q M) := by
  obtain ⟨h1, h2, h3⟩ := h
  have e : min (mSh q M).length 420 = M.length := by rw [mSh_l]; omega
  refine ⟨by rw [e]; exact h2, fun k hk => ?_⟩
  rw [e] at hk
  rw [mSh_g hk]
  obtain ⟨a1, a2, a3, a4⟩ := h3 k hk
  refine ⟨a1, ?_, a3, a4⟩
  rw [a2]
  show _ = ((0 : Nat) : Int) + ((q + (M.getD k (0, 0, 0, 0)).2.1 : Nat) : Int)
  omega
section
variable {f q c : Nat} {G : xG_} {t : List Int} {s : pPg}
/-- the state behind the reading of a QUERY -/
def rQr (q : Nat) (s : pPg) (x : Nat ⊕ pRs) (G : xG_) : Prop := pok x (fun w => G 0 7 = (w : Int)) (fun r => G 0 7 = -1 ∧ ∃ c', c' ≤ 6200 ∧ rVs G 2 0 24 r.2.1 ∧ rLs G 2 24 c' r.2.2.1 ∧ rMs G 2 0 (mSh q s.2.2.2.1 ++ r.2.2.2.1))
theorem rQr.ge {G' : xG_} {x : Nat ⊕ pRs} (h : rQr q s x G) (h0 : G' 0 7 = G 0 7) (h1 : ∀ a j, 2 ≤ a → a ≤ 36 → G' a j = G a j) : rQr q s x G' := by
  unfold rQr at h ⊢
  cases x with
  | inl w => show G' 0 7 = _; rw [h0]; exact h
  | inr r =>
    obtain ⟨a1, c', a2, a3, a4, a5⟩ := h
    refine ⟨by rw [h0]; exact a1, c', a2, ⟨by rw [h1 _ _ (by omega) (by omega)]; exact a3.1, a3.2.1, fun v hv => by rw [h1 _ _ (by omega) (by omega), h1 _ _ (by omega) (by omega)]; exact a3.2.2 v hv⟩, ⟨by rw [h1 _ _ (by omega) (by omega)]; exact a4.1, a4.2.1, fun k hk => (a4.2.2 k hk).fr (Nat.le_refl _) (fun a _ _ => h1 _ _ (by omega) (by omega)) (fun k _ => ⟨h1 _ _ (by omega) (by omega), h1 _ _ (by omega) (by omega)⟩) (fun j _ => ⟨h1 _ _ (by omega) (by omega), h1 _ _ (by omega) (by omega)⟩)⟩, a5.fr (h1 _ _ (by omega) (by omega)) (fun a j _ _ => h1 _ _ (by omega) (by omega))⟩
theorem l_qrd (hf : 6400 < f) (ht : t.length ≤ 3000) (hC : rC G) (hte : rTe G 240 0 t) (hP : rPr G 2 q c s) (h22 : G 0 22 = 2) :
    ∃ G', (∀ X : xG_ → Option (Int × xG_), ((g212 f 240 0 (t.length : Int) G).bind fun R138 => ((g236 f 24 R138).bind fun R143 => ((g246 f R143).bind fun R148 => ((g222 f 46 R148).bind fun R153 => ((g211 f R153).bind fun R158 => (if ¬ (R158.1) = 0 then X R158.2 else (if (R158.2 0 2) = 0 then X R158.2 else ((g210 f (R158.2 0 4) R158.2).bind fun R165 => X R165)))))))) = X G') ∧ xQr s.2.2.2.1.length c G G' ∧ rQr q s (qQu t s.1) G' := by
  obtain ⟨p1, p2, p3, p4, p5, p6⟩ := hP
  obtain ⟨L1, e1, hA⟩ := l_begin (f := f) (q := 0) (by omega) hte.1
  rw [hte.by] at hA
  let G3 := xup2 (xup2 (xup2 G 0 0 ((240 : Nat) : Int)) 0 1 (((0 : Nat) : Int) + t.length)) 0 11 0
  have g3 : ∀ a j, ¬ (a = 0 ∧ (j = 0 ∨ j = 1 ∨ j = 11)) → G3 a j = G a j := fun a j _ => by
    show xup2 _ _ _ _ _ _ = _
    simp (disch := omega) only [xup2_n]
  have hTx : rTx G3 0 (tBt t) t.length := by
    rw [← hte.by]
    exact rTx_of hte.1 (by show xup2 _ _ _ _ _ _ = _; simp (disch := omega) only [xup2_n, xup2_s]) (by show xup2 _ _ _ _ _ _ = _; simp (disch := omega) only [xup2_n, xup2_s]) (fun j => g3 _ _ (by omega))
  have hC3 : rC G3 := hC.ge (fun j _ _ => g3 _ _ (by omega))
  have hE : rEv G3 0 (tBt t) t.length false 2 := ⟨hTx, xup2_s _ _ _ _, hC3, by rw [g3 _ _ (by omega)]; exact h22, by omega⟩
  have e2 : g236 f 24 (xlx G3 L1) = some (xlx (rBeg G3 2 24) L1) := l_beg (r := 24) hE (by decide)
  let G4 := rBeg G3 2 24
  have g4 : ∀ a j, ¬ (a = 0 ∧ (j = 23 ∨ j = 24 ∨ j = 25)) → ¬ (17 ≤ a ∧ a ≤ 22 ∧ j = 24) → G4 a j = G3 a j := fun a j q1 q2 => rBeg_o q1 (by omega)
  have h37 : G3 2 37 = (c : Int) := by rw [g3 _ _ (by omega)]; exact p6
  obtain ⟨hIS, h19, h24⟩ := rBeg_st (r := 24) hE (by decide) h37
  have hE4 : rEv G4 0 (tBt t) t.length false 2 := hE.fg (rBeg_fg (r := 24) (c0 := 0) (m0 := 0) (n0 := 0))
  have hM4 : rMs G4 2 0 (mSh q s.2.2.2.1) := p2.sh.fr (by rw [g4 _ _ (by omega) (by omega), g3 _ _ (by omega)]) (fun a j _ _ => by rw [g4 _ _ (by omega) (by omega), g3 _ _ (by omega)])
  have hN4 : rNs G4 2 s.1 := ⟨by rw [g4 _ _ (by omega) (by omega), g3 _ _ (by omega)]; exact p1.1, p1.2.1, fun k hk => by rw [g4 _ _ (by omega) (by omega), g3 _ _ (by omega)]; exact p1.2.2 k hk⟩
  have hS : rRS G4 0 (tBt t) t.length false 2 24 c s.1 [] [] (mSh q s.2.2.2.1) := by
    refine ⟨hE4, ?_, by decide, hN4, ⟨?_, by decide, fun v hv => absurd hv (Nat.not_lt_zero v)⟩, by rw [g4 _ _ (by omega) (by omega)]; exact h37, ⟨h19, by decide, fun k hk => absurd hk (Nat.not_lt_zero k)⟩, hM4, h24, by decide, ?_⟩
    · show rBeg _ _ _ _ _ = _
      unfold rBeg; simp (disch := omega) only [xup2_n, xup2_s]
    · show rBeg _ _ _ _ _ = _
      unfold rBeg; simp (disch := omega) only [xup2_n, xup2_s]; rfl
    · show rBeg _ _ _ _ _ = _
      unfold rBeg; simp (disch := omega) only [xup2_n, xup2_s]
  have h5 := l_lits (f := f) (F := 4 * (t.length + 1) + 4) (tell := false) (cb := c) (by omega) (by omega) ⟨fun q => absurd q (by decide), fun q => absurd rfl q⟩ (by omega) hS hA (by omega)
  have hm : min (mSh q s.2.2.2.1).length 420 = s.2.2.2.1.length := by rw [mSh_l]; have := p2.1; omega
  have fr : ∀ {G' : xG_} {L' : Nat → Int}, xfl 2 24 (8 * 24 + 0) 0 c (min (mSh q s.2.2.2.1).length 420) s.1.length G4 G' → xQr s.2.2.2.1.length c G (xlx G' L') := fun {G' L'} h a j a1 a2 a3 a4 a5 a6 a7 => by
    rw [hm] at h
    rw [xlx_o _ _ (by omega), h a j (by omega), g4 a j (by omega) (by omega), g3 a j (by omega)]
  have pe : pbind (pLit (tstr (tBt t) t.length false) false (4 * (t.length + 1) + 4) (s.1, [], [], mSh q s.2.2.2.1, 0)) (pLits (tstr (tBt t) t.length false) false (4 * (t.length + 1) + 4) 9) = smp (mpM (mSh q s.2.2.2.1)) (pbind (pLit (tstr (tBt t) t.length false) false (4 * (t.length + 1) + 4) (s.1, [], [], [], 0)) (pLits (tstr (tBt t) t.length false) false (4 * (t.length + 1) + 4) 9)) := by
    have e0 : ((s.1, [], [], mSh q s.2.2.2.1, 0) : pRs) = mpM (mSh q s.2.2.2.1) (s.1, [], [], [], 0) := by
      show _ = ((s.1, [], [], mSh q s.2.2.2.1 ++ [], 0) : pRs)
      rw [List.append_nil]
    rw [e0, pLit_M]
    cases pLit (tstr (tBt t) t.length false) false (4 * (t.length + 1) + 4) (s.1, [], [], [], 0) with
    | inl w => rfl
    | inr a => exact pLits_M 9 a
  rw [pe] at h5
  have e1' : g212 f 240 0 (t.length : Int) G = some (xlx G3 L1) := by
    have ez : (((0 : Nat) : Int) + t.length) = (t.length : Int) := by omega
    rw [ez] at e1
    have e2 : g212 f 240 0 (t.length : Int) G = _ := e1
    rw [e2]
    show _ = some (xlx (xup2 (xup2 (xup2 G 0 0 ((240 : Nat) : Int)) 0 1 (((0 : Nat) : Int) + t.length)) 0 11 0) L1)
    rw [ez]
  have eqq : qQu t s.1 = pbind (pbind (pLit (tstr (tBt t) t.length false) false (4 * (t.length + 1) + 4) (s.1, [], [], [], 0)) (pLits (tstr (tBt t) t.length false) false (4 * (t.length + 1) + 4) 9)) fun s => pbind (pNeed (tstr (tBt t) t.length false) 46 s.2.2.2.2) fun i => if kK (tstr (tBt t) t.length false) i = 0 then .inr (s.1, s.2.1, s.2.2.1, s.2.2.2.1, i) else .inl (kS (tstr (tBt t) t.length false) i) := by
    unfold qQu pQuery
    cases pLit (tstr (tBt t) t.length false) false (4 * (t.length + 1) + 4) (s.1, [], [], [], 0) with
    | inl w => rfl
    | inr a => rfl
  have i1 : ¬ ((1 : Int) = 0) := by decide
  cases hp : pbind (pLit (tstr (tBt t) t.length false) false (4 * (t.length + 1) + 4) (s.1, [], [], [], 0)) (pLits (tstr (tBt t) t.length false) false (4 * (t.length + 1) + 4) 9) with
  | inl w =>
    rw [hp] at h5 eqq
    obtain ⟨G5, L5, u1, u2, u3, u4⟩ := h5
    have hbad : L5 7 ≠ -1 := by omega
    refine ⟨xlx G5 L5, fun X => ?_, fr u3, ?_⟩
    · rw [e1', Option.bind_some, e2, Option.bind_some]
      show Option.bind (g246 f (xlx G4 L1)) _ = _
      rw [u1, Option.bind_some, l_need_bad hbad, Option.bind_some, l_bad, if_neg hbad, Option.bind_some, if_pos i1]
    · rw [eqq]
      show L5 7 = (w : Int)
      omega
  | inr r =>
    rw [hp] at h5 eqq
    obtain ⟨G5, L5, c', u1, u2, u3, u4, u5, u6⟩ := h5
    replace u2 : rAt 0 (tBt t) t.length false r.2.2.2.2 L5 := u2
    replace u6 : c' ≤ c + r.2.2.2.2 := u6
    have hE5 := u4.1
    have es : ∀ X : xG_ → Option (Int × xG_), ((g212 f 240 0 (t.length : Int) G).bind fun R138 => ((g236 f 24 R138).bind fun R143 => ((g246 f R143).bind fun R148 => ((g222 f 46 R148).bind fun R153 => ((g211 f R153).bind fun R158 => (if ¬ (R158.1) = 0 then X R158.2 else (if (R158.2 0 2) = 0 then X R158.2 else ((g210 f (R158.2 0 4) R158.2).bind fun R165 => X R165)))))))) = ((g222 f 46 (xlx G5 L5)).bind fun R153 => ((g211 f R153).bind fun R158 => (if ¬ (R158.1) = 0 then X R158.2 else (if (R158.2 0 2) = 0 then X R158.2 else ((g210 f (R158.2 0 4) R158.2).bind fun R165 => X R165))))) := fun X => by
      rw [e1', Option.bind_some, e2, Option.bind_some]
      show Option.bind (g246 f (xlx G4 L1)) _ = _
      rw [u1, Option.bind_some]
    have h46 : isSg 46 := by unfold isSg; omega
    by_cases c1 : kK (tstr (tBt t) t.length false) r.2.2.2.2 = 46
    · obtain ⟨L6, s1, s2⟩ := l_need (f := f) (by omega) hE5 u2 h46 c1
      have s1' : g222 f 46 (xlx G5 L5) = some (xlx G5 L6) := s1
      have tk6 := s2.tk hTx.2.1
      have k0 : L6 2 = 0 ↔ kK (tstr (tBt t) t.length false) (r.2.2.2.2 + 1) = 0 := tk6.2.2.2.2.2.2.1
      have e6 : ∀ X : xG_ → Option (Int × xG_), ((g222 f 46 (xlx G5 L5)).bind fun R153 => ((g211 f R153).bind fun R158 => (if ¬ (R158.1) = 0 then X R158.2 else (if (R158.2 0 2) = 0 then X R158.2 else ((g210 f (R158.2 0 4) R158.2).bind fun R165 => X R165))))) = (if L6 2 = 0 then X (xlx G5 L6) else X (xlx G5 (xu L6 7 (L6 4)))) := fun X => by
        rw [s1', Option.bind_some, l_bad, if_pos s2.1, Option.bind_some]
        simp only [xlx_2, xlx_4]
        rw [if_neg (fun q => q trivial), l_fail, if_pos s2.1]
        rfl
      have eqr : qQu t s.1 = if kK (tstr (tBt t) t.length false) (r.2.2.2.2 + 1) = 0 then .inr (r.1, r.2.1, r.2.2.1, r.2.2.2.1, r.2.2.2.2 + 1) else .inl (kS (tstr (tBt t) t.length false) (r.2.2.2.2 + 1)) := by
        rw [eqq]
        show pbind (pNeed _ 46 r.2.2.2.2) _ = _
        unfold pNeed
        rw [if_pos c1]
        rfl
      by_cases c2 : kK (tstr (tBt t) t.length false) (r.2.2.2.2 + 1) = 0
      · refine ⟨xlx G5 L6, fun X => by rw [es, e6, if_pos (k0.mpr c2)], fr u3, ?_⟩
        rw [eqr, if_pos c2]
        have hle : r.2.2.2.2 ≤ t.length := by
          have := u2.2.2.1
          have := (tS_le hTx.2.1 r.2.2.2.2).1
          omega
        obtain ⟨v1, v2, v3, v4, v5, v6, v7, v8, v9, v10, v11⟩ := u4
        refine ⟨s2.1, c', by omega, ⟨?_, v5.2.1, fun v hv => ?_⟩, ⟨?_, v7.2.1, fun k hk => ?_⟩, v8.fr ?_ ?_⟩
        · rw [xlx_o _ _ (by omega)]; exact v5.1
        · rw [xlx_o _ _ (by omega), xlx_o _ _ (by omega)]; exact v5.2.2 v hv
        · rw [xlx_o _ _ (by omega)]; exact v7.1
        · exact (v7.2.2 k hk).fr (Nat.le_refl _) (fun a _ _ => xlx_o _ _ (by omega)) (fun k _ => ⟨xlx_o _ _ (by omega), xlx_o _ _ (by omega)⟩) (fun j _ => ⟨xlx_o _ _ (by omega), xlx_o _ _ (by omega)⟩)
        · exact xlx_o _ _ (by omega)
        · exact fun a j _ _ => xlx_o _ _ (by omega)
      · refine ⟨xlx G5 (xu L6 7 (L6 4)), fun X => by rw [es, e6, if_neg (fun q => c2 (k0.mp q))], fr u3, ?_⟩
        rw [eqr, if_neg c2]
        show xu L6 7 (L6 4) 7 = _
        have := s2.at4 hE5
        show L6 4 = _
        omega
    · have s1 := l_need_no (f := f) hE5 u2 h46 c1
      have s1' : g222 f 46 (xlx G5 L5) = some (xlx G5 (xu L5 7 (((0 : Nat) : Int) + kS (tstr (tBt t) t.length false) r.2.2.2.2))) := s1
      have hbad : xu L5 7 (((0 : Nat) : Int) + kS (tstr (tBt t) t.length false) r.2.2.2.2) 7 ≠ -1 := by
        show ((0 : Nat) : Int) + kS (tstr (tBt t) t.length false) r.2.2.2.2 ≠ -1
        omega
      refine ⟨xlx G5 (xu L5 7 (((0 : Nat) : Int) + kS (tstr (tBt t) t.length false) r.2.2.2.2)), fun X => ?_, fr u3, ?_⟩
      · rw [es, s1', Option.bind_some, l_bad, if_neg hbad, Option.bind_some, if_pos i1]
      · rw [eqq]
        show pok (pbind (pNeed _ 46 r.2.2.2.2) _) _ _
        unfold pNeed
        rw [if_neg c1]
        show ((0 : Nat) : Int) + kS (tstr (tBt t) t.length false) r.2.2.2.2 = _
        omega
end
