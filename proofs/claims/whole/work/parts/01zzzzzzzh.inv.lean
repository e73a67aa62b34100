/-! The house: what always holds of its lines -/
theorem ukM.fa {s : pPg} {M M' : Nat → List pRw} {F : List pFc} (hok : qOk s) (h : qFa s M F) (h' : qFa s M' F) (hu : ukM s M) : ukM s M' := by
  intro p hp hi hk w hw w' hw' he
  have side : ∀ {x : pRw}, x ∈ M' p → ∃ y, y ∈ M p ∧ y.1 = x.1 := fun {x} hx => by
    obtain ⟨p', a1, a2, y, a3, a4⟩ := (h.2 _).mp ((h'.2 (qNm s p, x.1)).mpr ⟨p, hp, rfl, x, hx, rfl⟩)
    have := nm_inj hok hp a1 a2
    subst this
    exact ⟨y, a3, a4⟩
  obtain ⟨y, y1, y2⟩ := side hw
  obtain ⟨y', y3, y4⟩ := side hw'
  rw [← y2, ← y4] at he ⊢
  exact hu p hp hi hk y y1 y' y3 he
/-- keys are unique before CHANGES -/
theorem ukM.r0 {so s : pPg} {fr : Prop} {Mo R0 : Nat → List pRw} {F : List pFc} (hoo : qOk so) (hF : qFa so Mo F) (hu : ukM so Mo) (hs : ¬ fr → s = so) (h : qR0 so s fr F R0) : ukM s R0 := by
  intro p hp hi hk w hw w' hw' he
  have key : ∀ r, r < so.1.length → qNm so r = qNm s p → pIn so.2.1 (r : Int) = true → pKy so.2.1 (r : Int) = pKy s.2.1 (p : Int) → (qNm s p, w.1) ∈ F → (qNm s p, w'.1) ∈ F → w.1 = w'.1 := fun r r1 r2 r3 r4 f1 f2 => by
    have side : ∀ {x : List Int}, (qNm s p, x) ∈ F → ∃ y, y ∈ Mo r ∧ y.1 = x := fun {x} hx => by
      obtain ⟨p', a1, a2, y, a3, a4⟩ := (hF.2 _).mp hx
      have := nm_inj hoo r1 a1 (r2.trans a2)
      subst this
      exact ⟨y, a3, a4⟩
    obtain ⟨y, y1, y2⟩ := side f1
    obtain ⟨y', y3, y4⟩ := side f2
    have ek : qKy so r = qKy s p := by unfold qKy; rw [r4]
    rw [← y2, ← y4] at he ⊢
    refine hu r r1 r3 (by rw [ek]; exact hk) y y1 y' y3 (by rw [ek]; exact he)
  rcases h with ⟨_, h⟩ | ⟨h0, h⟩
  · obtain ⟨a1, a2, a3⟩ := h p hp
    obtain ⟨⟨_, r, r1, r2, r3, r4, r5⟩, _, f1, _⟩ := (a3 w).mp hw
    obtain ⟨_, _, f2, _⟩ := (a3 w').mp hw'
    exact key r r1 r2 r3 r5 f1 f2
  · obtain ⟨a1, a2, a3⟩ := h p hp
    have e := hs h0
    subst e
    exact key p hp rfl hi rfl ((a3 w).mp hw).2.2.1 ((a3 w').mp hw').2.2.1
theorem ukM.ch {s : pPg} {e : pPe} {R R' : Nat → List pRw} (hu : ukM s R) (h : chR s e R R') : ukM s R' := by
  intro p hp hi hk w hw w' hw' he
  obtain ⟨_, _, a3⟩ := h p hp
  have c1 := (a3 w).mp hw
  have c2 := (a3 w').mp hw'
  have old : ∀ {x y : pRw}, x ∈ R p → y ∈ R p → x.1.take (qKy s p) = y.1.take (qKy s p) → x.1 = y.1 := fun {x y} hx hy h => hu p hp hi hk x hx y hy h
  rcases c1 with ⟨_, q1⟩ | ⟨t1, ⟨_, q1, _⟩ | ⟨_, _, q1⟩ | ⟨b1, n1, ⟨q1, q2⟩ | q1⟩⟩
  · rcases c2 with ⟨_, q2⟩ | ⟨t2, _⟩
    · exact old q1 q2 he
    · exact absurd t2 (by assumption)
  · rcases c2 with ⟨t2, _⟩ | ⟨_, ⟨_, q2, _⟩ | ⟨b2, _⟩ | ⟨b2, _⟩⟩
    · exact absurd t1 t2
    · exact old q1 q2 he
    · omega
    · omega
  · rcases c2 with ⟨t2, _⟩ | ⟨_, ⟨b2, _⟩ | ⟨_, _, q2⟩ | ⟨_, n2, _⟩⟩
    · exact absurd t1 t2
    · omega
    · exact old q1 q2 he
    · obtain ⟨z, z1, z2⟩ : ∃ w, w ∈ R p ∧ w.1 = e.2.2 := by assumption
      exact absurd z2 (n2 z z1)
  · rcases c2 with ⟨t2, _⟩ | ⟨_, ⟨b2, _⟩ | ⟨_, ⟨z, z1, z2⟩, _⟩ | ⟨_, _, ⟨q3, q4⟩ | q3⟩⟩
    · exact absurd t1 t2
    · omega
    · exact absurd z2 (n1 z z1)
    · exact old q1 q3 he
    · rw [q3] at he
      exact absurd ⟨hk, he⟩ q2
  · rcases c2 with ⟨t2, _⟩ | ⟨_, ⟨b2, _⟩ | ⟨_, ⟨z, z1, z2⟩, _⟩ | ⟨_, _, ⟨q3, q4⟩ | q3⟩⟩
    · exact absurd t1 t2
    · omega
    · exact absurd z2 (n1 z z1)
    · rw [q1] at he
      exact absurd ⟨hk, he.symm⟩ q4
    · rw [q1, q3]
theorem ukM.chs {s : pPg} : ∀ {ps : List pPe} {R R' : Nat → List pRw}, ukM s R → chA s ps R R' → ukM s R'
  | [], R, R', hu, h => by
    have h' : R' = R := h
    rw [h']; exact hu
  | e :: ps, R, R', hu, h => by
    obtain ⟨R1, h1, h2⟩ := h
    exact ukM.chs (hu.ch h1) h2
theorem lInv.app {T : List (List Int)} {ln : sLn} (t : List Int) (h : lInv T ln) : lInv (T ++ [t]) ln := ⟨fun r r1 r2 => by
  obtain ⟨s, M, a1, a2⟩ := h.1 r r1 r2
  exact ⟨s, M, a1.app t, a2⟩, h.2⟩
theorem hInv.app {T : List (List Int)} {lns : Nat → sLn} (t : List Int) (h : hInv T lns) : hInv (T ++ [t]) lns := ⟨fun y hy => (h.1 y hy).app t, h.2⟩
section
variable {T : List (List Int)} {lns : Nat → sLn} {hr : Nat}
/-- another thing waits in a line -/
theorem hInv.pd {ps : List pPe} {e : Int} {W : Nat → Int} (h : hInv T lns) (he : e = -1 ∨ ((lMo (lns hr)).1 : Int) < e) : hInv T (lUp lns hr (lnD (lns hr) ps e W)) := by
  have e1 : ∀ y, (lUp lns hr (lnD (lns hr) ps e W) y).1 = (lns y).1 := fun y => by
    by_cases d : y = hr
    · rw [d, lUp_s]; rfl
    · rw [lUp_n d]
  have e2 : ∀ y, (lUp lns hr (lnD (lns hr) ps e W) y).2.1 = (lns y).2.1 := fun y => by
    by_cases d : y = hr
    · rw [d, lUp_s]; rfl
    · rw [lUp_n d]
  have e3 : ∀ y, (lUp lns hr (lnD (lns hr) ps e W) y).2.2.2.2 = (lns y).2.2.2.2 := fun y => by
    by_cases d : y = hr
    · rw [d, lUp_s]; rfl
    · rw [lUp_n d]
  refine ⟨fun y hy => ?_, fun y hy => ?_⟩
  · by_cases d : y = hr
    · rw [d] at hy ⊢
      rw [lUp_s]
      exact ⟨(h.1 hr hy).1, (h.1 hr hy).2.1, he⟩
    · rw [lUp_n d]; exact h.1 y hy
  · rcases h.2 y hy with q | ⟨x, r, q1, q2, q3, q4, q5, q6⟩
    · exact .inl (by rw [e3]; exact q)
    · exact .inr ⟨x, r, q1, q2, by rw [e3]; exact q3, by rw [e2]; exact q4, by rw [e2]; exact q5, by rw [e1, e1]; exact q6⟩
theorem hInv.pg {t : List Int} {v pl : Int} {T' : List (List Int)} {lns' : Nat → sLn} (h : hInv T lns) (hh : hr < 4) (hst : stPg T lns hr t v pl T' lns') : hInv T' lns' := by
  rcases hst with ⟨_, e1, e2⟩ | ⟨s, _, _, _, _, e1, e2⟩
  · rw [e1, e2]; exact h
  · rw [e1, e2]
    obtain ⟨s0, M0, b1, _⟩ := (h.1 hr hh).1 _ (Nat.le_add_right _ _) (Nat.le_refl _)
    have := b1.1
    exact (h.app t).pd (.inr (by show ((lMo (lns hr)).1 : Int) < _; unfold lMo; omega))
theorem hInv.ch {t : List Int} {v pl : Int} {lns' : Nat → sLn} (h : hInv T lns) (hh : hr < 4) (hst : stCh T lns hr t v pl lns') : hInv T lns' := by
  obtain ⟨s, _, _, _, _, e⟩ := hst
  rw [e]
  exact h.pd (h.1 hr hh).2.2
theorem hInv.ce {t : List Int} {v : Int} {T' : List (List Int)} {lns' : Nat → sLn} (h : hInv T lns) (hh : hr < 4) (hst : stCe T lns hr t v T' lns') : hInv T' lns' := by
  unfold stCe at hst
  cases hq : qCt t with
  | inl w =>
    rw [hq] at hst
    obtain ⟨_, e1, e2⟩ := hst
    rw [e1, e2]; exact h
  | inr r =>
    rw [hq] at hst
    obtain ⟨_, ⟨_, e1, e2⟩ | ⟨_, e1, e2⟩⟩ := hst
    · rw [e1, e2]; exact h.pd (h.1 hr hh).2.2
    · rw [e1, e2]; exact (h.app t).pd (h.1 hr hh).2.2
theorem hInv.fo (h : hInv T lns) : hInv T (lUp lns hr (lnF (lns hr))) := h.pd (.inl rfl)
/-- the latest round isn't told any more -/
theorem hInv.lt {k : Nat} (h : hInv T lns) : hInv T (lUp lns k (lnT (lns k))) := by
  have e0 : ∀ y, (lUp lns k (lnT (lns k)) y).1 = (lns y).1 ∧ (lUp lns k (lnT (lns k)) y).2.1 = (lns y).2.1 ∧ (lUp lns k (lnT (lns k)) y).2.2.2 = (lns y).2.2.2 := fun y => by
    by_cases d : y = k
    · rw [d, lUp_s]; exact ⟨rfl, rfl, rfl⟩
    · rw [lUp_n d]; exact ⟨rfl, rfl, rfl⟩
  refine ⟨fun y hy => ?_, fun y hy => ?_⟩
  · obtain ⟨e1, e2, e3⟩ := e0 y
    obtain ⟨a1, a2, a3⟩ := h.1 y hy
    refine ⟨by rw [e1, e2]; exact a1, by rw [e1, e2]; exact a2, ?_⟩
    unfold lMo at a3 ⊢
    rw [e1, e2, e3]; exact a3
  · rcases h.2 y hy with q | ⟨x, r, q1, q2, q3, q4, q5, q6⟩
    · exact .inl (by rw [(e0 y).2.2]; exact q)
    · exact .inr ⟨x, r, q1, q2, by rw [(e0 y).2.2]; exact q3, by rw [(e0 x).2.1]; exact q4, by rw [(e0 y).2.1]; exact q5, by rw [(e0 y).1, (e0 x).1]; exact q6⟩
theorem hInv.rd {v : Int} {ln' : sLn} {good : Bool} {s' : pPg} {M' : Nat → List pRw} (h : hInv T lns) (hh : hr < 4) (hst : stRd T (lns hr) v ln' good) (hmo : isMo T (lMo ln') s' M') : hInv T (lUp lns hr ln') := by
  obtain ⟨so, Mo, s, R0, R, b1, b2, b3, b4, b5⟩ := hst
  rcases b5 with ⟨_, _, _, e⟩ | ⟨_, M, F, b, k, wk, cw, c1, c2, _, e, c3, c4, _, _⟩
  · rw [e]; exact h.fo
  · have hL := h.1 hr hh
    obtain ⟨d1, d2, d3⟩ := hL
    have hle : (lns hr).2.1.1 ≤ b := by have := c4.1; omega
    have e1 : ln'.1 = lnH (lns hr) F := by rw [e]
    have e2 : ln'.2.1.1 + ln'.2.1.2.1 = (lns hr).2.1.1 + (lns hr).2.1.2.1 + 1 := by rw [e]; exact c3
    have e2b : ln'.2.1.1 = b := by rw [e]
    have e3 : ln'.2.2.2.2 = (lns hr).2.2.2.2 := by rw [e]
    have e4 : ln'.2.2.2.1.2.1 = -1 := by rw [e]
    have hn : ∀ r, r ≤ (lns hr).2.1.1 + (lns hr).2.1.2.1 → ln'.1 r = (lns hr).1 r := fun r hr' => by
      rw [e1]
      unfold lnH hAd
      rw [if_neg (by omega)]
    have hl : ln'.1 ((lns hr).2.1.1 + (lns hr).2.1.2.1 + 1) = lnM (lns hr) F := by
      rw [e1]
      unfold lnH hAd
      rw [if_pos rfl]
    have hlM : lMo ln' = lnM (lns hr) F := by
      unfold lMo
      rw [e2]; exact hl
    -- the latest moment's rows
    obtain ⟨s1, M1, y1, y2⟩ := d1 ((lns hr).2.1.1 + (lns hr).2.1.2.1) (Nat.le_add_right _ _) (Nat.le_refl _)
    obtain ⟨es, _⟩ := isMo_u b1 (show isMo T (lMo (lns hr)) s1 M1 from y1)
    subst es
    have huo : ukM so Mo := y2.fa b1.2.2.1 y1.2.2.2.2.2.1 b1.2.2.2.2.2.1
    have hss : s' = s := by
      have := hmo.2.1
      rw [hlM] at this
      have h2 : qPr (T.getD (lnE (lns hr)) []) = .inr s' := this
      rw [b2] at h2
      injection h2 with h2
      exact h2.symm
    subst hss
    have hu0 : ukM s' R0 := ukM.r0 b1.2.2.1 b1.2.2.2.2.2.1 huo (fun q => by
      have q' : (lns hr).2.2.2.1.2.1 = -1 := Classical.not_not.mp q
      have : lnE (lns hr) = (lMo (lns hr)).1 := by unfold lnE; rw [if_pos q']
      rw [this] at b2
      have h3 := b1.2.1
      rw [b2] at h3
      injection h3 with h3) b3
    have hu1 : ukM s' R := hu0.chs b4
    have hu2 : ukM s' M := fun p hp hi hk w hw w' hw' he => by
      rw [c1.2.1 p hp hi] at hw hw'
      exact hu1 p hp hi hk w hw w' hw' he
    have hF' : qFa s' M' F := by
      have := hmo.2.2.2.2.2.1
      rw [hlM] at this
      exact this
    have hu3 : ukM s' M' := hu2.fa hmo.2.2.1 c2 hF'
    refine ⟨fun y hy => ?_, fun y hy => ?_⟩
    · by_cases d : y = hr
      · rw [d, lUp_s]
        refine ⟨fun r r1 r2 => ?_, fun r r1 r2 => ?_, .inl e4⟩
        · rw [e2] at r2
          by_cases cr : r = (lns hr).2.1.1 + (lns hr).2.1.2.1 + 1
          · refine ⟨s', M', ?_, hu3⟩
            rw [cr, hl, ← hlM]
            exact hmo
          · rw [hn r (by omega)]
            exact d1 r (by omega) (by omega)
        · rw [e2] at r2
          by_cases cr : r = (lns hr).2.1.1 + (lns hr).2.1.2.1 + 1
          · rw [cr, hl, Nat.add_sub_cancel, hn _ (Nat.le_refl _)]
            show (decide ((lns hr).2.2.2.1.2.1 ≠ -1) = true → (lMo (lns hr)).1 < lnE (lns hr)) ∧ (decide ((lns hr).2.2.2.1.2.1 ≠ -1) ≠ true → lnE (lns hr) = (lMo (lns hr)).1)
            unfold lnE
            constructor
            · intro q
              have q' := of_decide_eq_true q
              rw [if_neg q']
              rcases d3 with z | z
              · exact absurd z q'
              · omega
            · intro q
              have q' : (lns hr).2.2.2.1.2.1 = -1 := Classical.not_not.mp (fun z => q (decide_eq_true z))
              rw [if_pos q']
          · rw [hn r (by omega), hn (r - 1) (by omega)]
            exact d2 r r1 (by omega)
      · rw [lUp_n d]; exact h.1 y hy
    · have eh : ∀ x r, r ≤ (lns x).2.1.1 + (lns x).2.1.2.1 → (lUp lns hr ln' x).1 r = (lns x).1 r ∧ r ≤ (lUp lns hr ln' x).2.1.1 + (lUp lns hr ln' x).2.1.2.1 := fun x r hr' => by
        by_cases d : x = hr
        · rw [d] at hr' ⊢
          rw [lUp_s]
          exact ⟨hn r hr', by omega⟩
        · rw [lUp_n d]; exact ⟨rfl, hr'⟩
      have ef : (lUp lns hr ln' y).2.2.2.2 = (lns y).2.2.2.2 := by
        by_cases d : y = hr
        · rw [d, lUp_s]; exact e3
        · rw [lUp_n d]
      rcases h.2 y hy with q | ⟨x, r, q1, q2, q3, q4, q5, q6⟩
      · exact .inl (by rw [ef]; exact q)
      · exact .inr ⟨x, r, q1, q2, by rw [ef]; exact q3, (eh x r q4).2, (eh y r q5).2, by rw [(eh y r q5).1, (eh x r q4).1]; exact q6⟩
end
