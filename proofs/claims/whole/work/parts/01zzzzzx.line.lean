/-! Lines -/
/-- a line: its moments; oldest round, rounds since, editions; how often rings and CELLS were worked, whether its latest round is told; what is told for the next round: CHANGES, edition, CELLS; its fork -/
abbrev sLn : Type := (Nat → sMo) × (Nat × Nat × Nat) × ((Nat → Int) × (Nat → Int) × Bool) × (List pPe × Int × (Nat → Int)) × Int × Int
/-- the texts of CELLS -/
def kOk (T : List (List Int)) (K : Nat → Nat) : Prop := (∀ c, K c < T.length) ∧ ∀ c, c < 72 → K c ≠ 0 → ∃ r, qCt (T.getD (K c) []) = .inr r ∧ r.1 = (c : Int) ∧ r.2.2 ≠ -1
/-- a moment's program and rows -/
def isMo (T : List (List Int)) (mo : sMo) (s : pPg) (M : Nat → List pRw) : Prop := mo.1 < T.length ∧ qPr (T.getD mo.1 []) = .inr s ∧ qOk s ∧ wNh s ∧ qSt1 s M ∧ qFa s M mo.2.1 ∧ kOk T mo.2.2.1
theorem kOk.app {T : List (List Int)} {K : Nat → Nat} (t : List Int) (h : kOk T K) : kOk (T ++ [t]) K := ⟨fun c => by rw [List.length_append]; have := h.1 c; omega, fun c hc h0 => by rw [getD_app _ (h.1 c)]; exact h.2 c hc h0⟩
theorem isMo.app {T : List (List Int)} {mo : sMo} {s : pPg} {M : Nat → List pRw} (t : List Int) (h : isMo T mo s M) : isMo (T ++ [t]) mo s M := by
  obtain ⟨a1, a2, a3, a4, a5, a6, a7⟩ := h
  exact ⟨by rw [List.length_append]; omega, by rw [getD_app _ a1]; exact a2, a3, a4, a5, a6, a7.app t⟩
theorem xOf_app {T : List (List Int)} {K : Nat → Nat} (t : List Int) (h : ∀ c, K c < T.length) : xOf (T ++ [t]) K = xOf T K := by
  funext c
  unfold xOf
  rw [getD_app _ (h c)]
theorem kOk.rKt {G : xG_} {o : Nat} {T : List (List Int)} {K : Nat → Nat} (h : kOk T K) (hk : ∀ c, c < 72 → G (o + 15) c = (K c : Int)) : rKt G o T K := fun c hc => ⟨hk c hc, h.1 c, h.2 c hc⟩
theorem fm_len {α β : Type} (g : α → List β) (n : Nat) : ∀ (l : List α), (∀ a ∈ l, (g a).length ≤ n) → (l.flatMap g).length ≤ n * l.length
  | [], _ => by simp
  | a :: l, h => by
    have h1 := h a (List.mem_cons_self ..)
    have h2 := fm_len g n l (fun b hb => h b (List.mem_cons_of_mem _ hb))
    rw [List.flatMap_cons, List.length_append, List.length_cons, Nat.mul_succ]
    omega
theorem fc_nd {F : List pFc} (h : F.Pairwise fLt) : F.Nodup := by
  refine List.nodup_iff_pairwise_ne.mpr (List.Pairwise.imp (S := fun x y => x ≠ y) (fun {a b} h => ?_) h)
  intro q
  rw [q] at h
  exact fLt_irr _ h
theorem qFa.len {s : pPg} {M : Nat → List pRw} {F : List pFc} (hnp : s.1.length ≤ 16) (hM : qTb s M) (h : qFa s M F) : F.length ≤ 1600 := by
  have h1 := nodup_len F ((List.range s.1.length).flatMap (fun p => (M p).map (fun w => (qNm s p, w.1)))) (fc_nd h.1) (fun y hy => by
    obtain ⟨p, a1, a2, w, a3, a4⟩ := (h.2 y).mp hy
    refine List.mem_flatMap.mpr ⟨p, List.mem_range.mpr a1, List.mem_map.mpr ⟨w, a3, Prod.ext a2.symm a4⟩⟩)
  have h2 := fm_len (fun p => (M p).map (fun w => (qNm s p, w.1))) 100 (List.range s.1.length) (fun p hp => by
    rw [List.length_map]
    exact (hM p (List.mem_range.mp hp)).1)
  rw [List.length_range] at h2
  omega
/-- rows are determined by facts -/
theorem mo_det {s : pPg} {M M' : Nat → List pRw} {F : List pFc} (hok : qOk s) (h : qSt1 s M) (hF : qFa s M F) (h' : qSt1 s M') (hF' : qFa s M' F) : ∀ p, p < s.1.length → M p = M' p := by
  have hi : ∀ p, p < s.1.length → pIn s.2.1 (p : Int) = true → M p = M' p := fun p hp hi => by
    refine srt_ext rwLt_irr (fun _ _ _ => rwLt_tr) _ _ (h.1.1 p hp).2.1 (h'.1.1 p hp).2.1 (fun y => ?_)
    have side : ∀ {A B : Nat → List pRw}, qSt1 s A → qFa s A F → qSt1 s B → qFa s B F → y ∈ A p → y ∈ B p := fun {A B} hA hFA hB hFB hy => by
      obtain ⟨p', a1, a2, w, a3, a4⟩ := (hFB.2 _).mp ((hFA.2 (qNm s p, y.1)).mpr ⟨p, hp, rfl, y, hy, rfl⟩)
      have e := nm_inj hok hp a1 a2
      subst e
      have e2 : w = y := Prod.ext a4 (by rw [hA.2 p hp hi y hy, hB.2 p hp hi w a3])
      rw [← e2]; exact a3
    exact ⟨side h hF h' hF', side h' hF' h hF⟩
  exact qMod_det hok.1 h.1 ⟨h'.1.1, fun p hp q => (hi p hp q).symm, h'.1.2.2⟩
/-- which predicates changed in the latest round -/
def rCx (G : xG_) (o : Nat) (ln : sLn) (s : pPg) : Prop := (ln.2.2.1.2.2 = true → rCh G o s (lgR ((ln.2.1.1 + ln.2.1.2.1 : Nat) : Int) (ln.1 (ln.2.1.1 + ln.2.1.2.1)).2.1 (ln.1 (ln.2.1.1 + ln.2.1.2.1 - 1)).2.1)) ∧ (ln.2.2.1.2.2 = false → ∀ p, p < 16 → G (o + 19) p = 0)
theorem rCx.ge {G G' : xG_} {o : Nat} {ln : sLn} {s : pPg} (h : rCx G o ln s) (hf : ∀ j, G' (o + 19) j = G (o + 19) j) : rCx G' o ln s := ⟨fun q p hp => by rw [hf]; exact h.1 q p hp, fun q p hp => by rw [hf]; exact h.2 q p hp⟩
/-- the line ln stands at o; s, M: the program and the rows of its latest moment -/
def rLn (G : xG_) (o : Nat) (T : List (List Int)) (ln : sLn) (s : pPg) (M : Nat → List pRw) : Prop :=
  rPa G o ln.1 ln.2.1.1 ln.2.1.2.1 ∧ (G o 1 = ((ln.1 (ln.2.1.1 + ln.2.1.2.1)).1 : Int) ∧ G o 2 = ((ln.2.1.1 + ln.2.1.2.1 : Nat) : Int) ∧ G o 3 = (ln.2.1.1 : Int) ∧ G o 4 = (ln.2.1.2.2 : Int)) ∧
  rFa G (o + 1) (ln.1 (ln.2.1.1 + ln.2.1.2.1)).2.1 ∧ (∀ c, c < 72 → G (o + 15) c = ((ln.1 (ln.2.1.1 + ln.2.1.2.1)).2.2.1 c : Int)) ∧ rCs G o (fSh (xOf T (ln.1 (ln.2.1.1 + ln.2.1.2.1)).2.2.1) s M) ∧
  (∀ p, p < 16 → G (o + 18) p = ln.2.2.1.1 p) ∧ (∀ c, c < 72 → G (o + 16) c = ln.2.2.1.2.1 c) ∧
  (∃ E, rEd G o E ∧ (ln.2.2.1.2.2 = true → qEd s (ln.1 (ln.2.1.1 + ln.2.1.2.1)).2.1 (ln.1 (ln.2.1.1 + ln.2.1.2.1 - 1)).2.1 E) ∧ (ln.2.2.1.2.2 = false → E = [])) ∧ rCx G o ln s ∧
  (rPe G o ln.2.2.2.1.1 ∧ G o 34 = ln.2.2.2.1.2.1 ∧ ∀ c, c < 72 → G (o + 26) c = ln.2.2.2.1.2.2 c) ∧ G o 35 = ln.2.2.2.2.1 ∧ G o 36 = ln.2.2.2.2.2
/-- a line that hangs together; n: no number of it is greater -/
def sOk (T : List (List Int)) (ln : sLn) (n : Nat) : Prop :=
  (∀ r, ln.2.1.1 ≤ r → r ≤ ln.2.1.1 + ln.2.1.2.1 → ∃ s M, isMo T (ln.1 r) s M) ∧ hSt ln.1 ln.2.1.1 ln.2.1.2.1 ∧ (ln.2.1.1 + ln.2.1.2.1 ≤ n ∧ ln.2.1.2.2 ≤ n) ∧ tmOk (hCat (hLg ln.1) ln.2.1.1 ln.2.1.2.1) (hCat (hCg ln.1) ln.2.1.1 ln.2.1.2.1) (hCat (hEg ln.1) ln.2.1.1 ln.2.1.2.1) (ln.2.1.1 : Int) ∧
  (hCat (hEg ln.1) ln.2.1.1 ln.2.1.2.1).length ≤ ln.2.1.2.2 ∧ (∀ p, p < 16 → 0 ≤ ln.2.2.1.1 p ∧ ln.2.2.1.1 p ≤ n) ∧ (∀ c, c < 72 → 0 ≤ ln.2.2.1.2.1 c ∧ ln.2.2.1.2.1 c ≤ n) ∧
  (∀ e ∈ ln.2.2.2.1.1, ∀ x ∈ e.2.2, vOk x) ∧ (ln.2.2.2.1.2.1 = -1 ∨ 0 ≤ ln.2.2.2.1.2.1 ∧ ln.2.2.2.1.2.1.toNat < T.length ∧ ∃ s, qPr (T.getD ln.2.2.2.1.2.1.toNat []) = .inr s ∧ qOk s ∧ wNh s) ∧
  (∀ c, ln.2.2.2.1.2.2 c = -1 ∨ 0 ≤ ln.2.2.2.1.2.2 c ∧ (ln.2.2.2.1.2.2 c).toNat < T.length ∧ (c < 72 → (ln.2.2.2.1.2.2 c).toNat ≠ 0 → ∃ r, qCt (T.getD (ln.2.2.2.1.2.2 c).toNat []) = .inr r ∧ r.1 = (c : Int) ∧ r.2.2 ≠ -1))
theorem rCg.ge' {G G' : xG_} {o : Nat} {L : List pCg} (h : rCg G o L) (hf : ∀ a j, o ≤ a → a ≤ o + 28 → G' a j = G a j) : rCg G' o L := h.ge (hf _ _ (by omega) (by omega)) (fun a j _ _ => hf _ _ (by omega) (by omega))
theorem rEd.ge' {G G' : xG_} {o : Nat} {E : List pEd} (h : rEd G o E) (hf : ∀ a j, o ≤ a → a ≤ o + 28 → G' a j = G a j) : rEd G' o E := ⟨by rw [hf _ _ (by omega) (by omega)]; exact h.1, h.2.1, fun i hi => by
  obtain ⟨b1, b2, b3⟩ := h.2.2 i hi
  exact ⟨by rw [hf _ _ (by omega) (by omega)]; exact b1, by rw [hf _ _ (by omega) (by omega)]; exact b2, fun j hj => by rw [hf _ _ (by omega) (by omega)]; exact b3 j hj⟩⟩
theorem rPe.ge' {G G' : xG_} {o : Nat} {E : List pPe} (h : rPe G o E) (hf : ∀ a j, o ≤ a → a ≤ o + 28 → G' a j = G a j) : rPe G' o E := ⟨by rw [hf _ _ (by omega) (by omega)]; exact h.1, h.2.1, fun i hi => by
  obtain ⟨b1, b2, b3, b4, b5⟩ := h.2.2 i hi
  exact ⟨by rw [hf _ _ (by omega) (by omega)]; exact b1, by rw [hf _ _ (by omega) (by omega)]; exact b2, by rw [hf _ _ (by omega) (by omega)]; exact b3, b4, fun j hj => by rw [hf _ _ (by omega) (by omega)]; exact b5 j hj⟩⟩
theorem rPa.ge' {G G' : xG_} {o b k : Nat} {H : Nat → sMo} (h : rPa G o H b k) (hf : ∀ a j, o ≤ a → a ≤ o + 28 → G' a j = G a j) : rPa G' o H b k := by
  obtain ⟨a1, a2, a3, a4, a5, a6⟩ := h
  exact ⟨a1.ge (hf _ _ (by omega) (by omega)) (fun a j _ _ => hf _ _ (by omega) (by omega)), a2.ge' hf, a3.ge (hf _ _ (by omega) (by omega)) (fun a j _ _ => hf _ _ (by omega) (by omega)), a4, a5, a6⟩
theorem rLn.ge {G G' : xG_} {o : Nat} {T : List (List Int)} {ln : sLn} {s : pPg} {M : Nat → List pRw} (h : rLn G o T ln s M) (hf : ∀ a j, o ≤ a → a ≤ o + 28 → G' a j = G a j) : rLn G' o T ln s M := by
  obtain ⟨a1, ⟨a2, a3, a4, a5⟩, a6, a7, a8, a9, a10, ⟨E, a11, a12⟩, a18, ⟨a13, a14, a15⟩, a16, a17⟩ := h
  refine ⟨a1.ge' hf, ⟨by rw [hf _ _ (by omega) (by omega)]; exact a2, by rw [hf _ _ (by omega) (by omega)]; exact a3, by rw [hf _ _ (by omega) (by omega)]; exact a4, by rw [hf _ _ (by omega) (by omega)]; exact a5⟩, a6.ge (hf _ _ (by omega) (by omega)) (fun a j _ _ => hf _ _ (by omega) (by omega)), fun c hc => by rw [hf _ _ (by omega) (by omega)]; exact a7 c hc, fun c hc => by rw [hf _ _ (by omega) (by omega), hf _ _ (by omega) (by omega)]; exact a8 c hc, fun p hp => by rw [hf _ _ (by omega) (by omega)]; exact a9 p hp, fun c hc => by rw [hf _ _ (by omega) (by omega)]; exact a10 c hc, ⟨E, a11.ge' hf, a12⟩, a18.ge (fun j => hf _ _ (by omega) (by omega)), ⟨a13.ge' hf, by rw [hf _ _ (by omega) (by omega)]; exact a14, fun c hc => by rw [hf _ _ (by omega) (by omega)]; exact a15 c hc⟩, by rw [hf _ _ (by omega) (by omega)]; exact a16, by rw [hf _ _ (by omega) (by omega)]; exact a17⟩
theorem rLn.app {G : xG_} {o : Nat} {T : List (List Int)} {ln : sLn} {s : pPg} {M : Nat → List pRw} (t : List Int) (hk : ∀ c, (ln.1 (ln.2.1.1 + ln.2.1.2.1)).2.2.1 c < T.length) (h : rLn G o T ln s M) : rLn G o (T ++ [t]) ln s M := by
  unfold rLn
  rw [xOf_app t hk]
  exact h
theorem sOk.app {T : List (List Int)} {ln : sLn} {n : Nat} (t : List Int) (h : sOk T ln n) : sOk (T ++ [t]) ln n := by
  obtain ⟨a1, a2, a3, a4, a5, a6, a7, a8, a9, a10⟩ := h
  refine ⟨fun r r1 r2 => ?_, a2, a3, a4, a5, a6, a7, a8, ?_, fun c => ?_⟩
  · obtain ⟨s, M, h⟩ := a1 r r1 r2
    exact ⟨s, M, h.app t⟩
  · rcases a9 with q | ⟨q1, q2, q3⟩
    · exact .inl q
    · exact .inr ⟨q1, by rw [List.length_append]; omega, by rw [getD_app _ q2]; exact q3⟩
  · rcases a10 c with q | ⟨q1, q2, q3⟩
    · exact .inl q
    · exact .inr ⟨q1, by rw [List.length_append]; omega, by rw [getD_app _ q2]; exact q3⟩
theorem sOk.mo {T : List (List Int)} {ln : sLn} {n n' : Nat} (hn : n ≤ n') (h : sOk T ln n) : sOk T ln n' := by
  obtain ⟨a1, a2, a3, a4, a5, a6, a7, a8⟩ := h
  exact ⟨a1, a2, ⟨by omega, by omega⟩, a4, a5, fun p hp => ⟨(a6 p hp).1, by have := (a6 p hp).2; omega⟩, fun c hc => ⟨(a7 c hc).1, by have := (a7 c hc).2; omega⟩, a8⟩
