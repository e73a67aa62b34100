/-! Levels of the reference: new rows come to the rows; a ring is worked -/
def isLv (s : pPg) (rg : Nat) (st : Int) (R R' : Nat → List pRw) : Prop := ∀ p, p < s.1.length → (R' p).Pairwise rwLt ∧ ∀ y, y ∈ R' p ↔ y ∈ R p ∨ (y.2 = st ∧ stD s rg st R s.2.2.2.2.1.length p y.1)
def wkC (s : pPg) (rg : Nat) (R0 : Nat → List pRw) : Nat → (Nat → List pRw) → Prop
  | 0, R => ∀ p, p < s.1.length → R p = R0 p
  | n + 1, R => ∃ R1, wkC s rg R0 n R1 ∧ (∃ p xs, p < s.1.length ∧ stD s rg ((n + 1 : Nat) : Int) R1 s.2.2.2.2.1.length p xs) ∧ isLv s rg ((n + 1 : Nat) : Int) R1 R
/-- a ring worked to its end -/
def wkE (s : pPg) (rg : Nat) (R0 R : Nat → List pRw) : Prop := ∃ n, wkC s rg R0 n R ∧ ∀ p xs, p < s.1.length → ¬ stD s rg ((n + 1 : Nat) : Int) R s.2.2.2.2.1.length p xs
/-- a ring that passes the LIMIT -/
def wkO (s : pPg) (rg : Nat) (R0 : Nat → List pRw) : Prop := ∃ n R, wkC s rg R0 n R ∧ stO s rg ((n + 1 : Nat) : Int) R
def qTo (R : Nat → List pRw) : Nat → Nat
  | 0 => 0
  | p + 1 => qTo R p + (R p).length
theorem qTo_le {R : Nat → List pRw} : ∀ (np : Nat), (∀ p, p < np → (R p).length ≤ 100) → qTo R np ≤ 100 * np
  | 0, _ => Nat.le_refl _
  | np + 1, h => by
    have h1 := qTo_le np (fun p hp => h p (by omega))
    have h2 := h np (by omega)
    show qTo R np + (R np).length ≤ _
    omega
theorem qTo_lt {R R' : Nat → List pRw} : ∀ (np : Nat), (∀ p, p < np → (R p).length ≤ (R' p).length) → qTo R np ≤ qTo R' np ∧ ((∃ p, p < np ∧ (R p).length < (R' p).length) → qTo R np < qTo R' np)
  | 0, _ => ⟨Nat.le_refl _, fun ⟨p, hp, _⟩ => by omega⟩
  | np + 1, h => by
    obtain ⟨h1, h2⟩ := qTo_lt np (fun p hp => h p (by omega))
    have h3 := h np (by omega)
    constructor
    · show qTo R np + (R np).length ≤ qTo R' np + (R' np).length
      omega
    · rintro ⟨p, hp, hl⟩
      show qTo R np + (R np).length < qTo R' np + (R' np).length
      by_cases c : p = np
      · rw [c] at hl; omega
      · have := h2 ⟨p, by omega, hl⟩
        omega
theorem fCt_tk {F : List pFw} {i p : Nat} (hi : i < F.length) : fCt (F.take (i + 1)) p = fCt (F.take i) p + if (F.getD i dFw).1 = p then 1 else 0 := by
  unfold fCt
  rw [List.take_succ_eq_append_getElem hi, List.countP_append]
  congr 1
  rw [getD_e hi]
  by_cases c : (F[i]).1 = p
  · rw [if_pos c, List.countP_cons_of_pos (by simp [c])]; rfl
  · rw [if_neg c, List.countP_cons_of_neg (by simp [c])]; rfl
theorem fCt_pos {F : List pFw} {p : Nat} : 0 < fCt F p ↔ ∃ y ∈ F, y.1 = p := by
  unfold fCt
  rw [List.countP_pos_iff]
  simp
def xRg (G G' : xG_) : Prop := ∀ o j, ¬ (o = 0 ∧ (37 ≤ j ∧ j ≤ 39 ∨ 42 ≤ j ∧ j ≤ 61)) → ¬ (107 ≤ o ∧ o ≤ 121 ∧ o ≠ 118) → G' o j = G o j
section
variable {f q c : Nat} {s : pPg} {R : Nat → List pRw} {rg : Nat} {st : Int} {r12 : Int → Int → xG_ → Option (Int × xG_)} {F : List pFw}
theorem l_179 {G0 : xG_} (hf : 2000 < f) (hok : qOk s) (hT : qTb s R) (hF : rFr G0 s.1.length (qN s) R F) (hnd : F.Nodup) (hnw : ∀ y ∈ F, rNw R y.1 y.2) (h4 : ∀ p, p < s.1.length → G0 4 p = (qN s p : Int)) {e12 : Int} : ∀ (d i fu : Nat) (G : xG_) (R1 : Nat → List pRw), i + d = F.length → d < fu → (∀ o j, ¬ (107 ≤ o ∧ o ≤ 109) → G o j = G0 o j) → rTb G s.1.length (qN s) R1 → (∀ p, p < s.1.length → (R1 p).Pairwise rwLt ∧ (R1 p).length = (R p).length + fCt (F.take i) p ∧ ∀ y, y ∈ R1 p ↔ y ∈ R p ∨ (y.2 = st ∧ (p, y.1) ∈ F.take i)) → e12 = xwr (st + 1) →
    ∃ G' R', g293_179 r12 f fu (rg : Int) st (i : Int) G = r12 (rg : Int) e12 G' ∧ (∀ o j, ¬ (107 ≤ o ∧ o ≤ 109) → G' o j = G0 o j) ∧ rTb G' s.1.length (qN s) R' ∧ ∀ p, p < s.1.length → (R' p).Pairwise rwLt ∧ (R' p).length = (R p).length + fCt F p ∧ ∀ y, y ∈ R' p ↔ y ∈ R p ∨ (y.2 = st ∧ (p, y.1) ∈ F) := by
  have hFl := hF.len
  have hnp : s.1.length ≤ 16 := hok.1.1
  obtain ⟨f1, f2, f3⟩ := hF
  intro d
  induction d with
  | zero =>
    intro i fu G R1 h1 h2 h3 hT1 hR1 h12
    obtain ⟨fu, rfl⟩ : ∃ t, fu = t + 1 := ⟨fu - 1, by omega⟩
    have ei : F.take i = F := List.take_of_length_le (by omega)
    rw [ei] at hR1
    refine ⟨G, R1, ?_, h3, hT1, hR1⟩
    show g293_179b r12 (g293_179 r12 f fu) f _ _ _ _ = _
    unfold g293_179b
    rw [h3 _ _ (by omega), f1, if_pos (by omega), h12]
  | succ d ih =>
    intro i fu G R1 h1 h2 h3 hT1 hR1 h12
    obtain ⟨fu, rfl⟩ : ∃ t, fu = t + 1 := ⟨fu - 1, by omega⟩
    have hi : i < F.length := by omega
    obtain ⟨z1, z2, z3, z4⟩ := f2 i hi
    obtain ⟨t1, t2⟩ := hT1 _ z1
    obtain ⟨r1, r2, r3⟩ := hR1 _ z1
    have hlim := (f3 _ z1).2
    have hle : fCt (F.take i) (F.getD i dFw).1 ≤ fCt F (F.getD i dFw).1 := List.Sublist.countP_le (List.take_sublist _ _)
    have hsub : ∀ p, fCt (F.take i) p ≤ fCt F p := fun p => List.Sublist.countP_le (List.take_sublist _ _)
    have hq4 := (qN_c hok.1 (F.getD i dFw).1).2
    have e4 : xwr (4 * (i : Int)) = ((4 * i : Nat) : Int) := by rw [xwr_g _ (by omega) (by omega)]; omega
    have e5 : xwr ((i : Int) + 1) = ((i + 1 : Nat) : Int) := by rw [xwr_g _ (by omega) (by omega)]; omega
    have hve : rVe G 114 (4 * i) (F.getD i dFw).2 := ⟨by rw [xl114, z3]; omega, by omega, by omega, fun j hj => by rw [h3 _ _ (by omega)]; exact z4 j hj⟩
    obtain ⟨G1, R2, k1, k2, k3, k4, k5⟩ := l_264 (f := f) (u := st) (by omega) (by omega : (F.getD i dFw).1 < 16) t2 ⟨by decide, by decide, by decide⟩ t1 r1 (by omega) (by rw [h3 _ _ (by omega)]; exact h4 _ z1) hve z3
    have hyF : F.getD i dFw ∈ F := by rw [getD_e hi]; exact List.getElem_mem hi
    have htk : F.take (i + 1) = F.take i ++ [F.getD i dFw] := by rw [List.take_succ_eq_append_getElem hi, getD_e hi]
    have hnotin : F.getD i dFw ∉ F.take i := fun hm => by
      obtain ⟨j, hj, ej⟩ := List.getElem_of_mem hm
      rw [List.length_take] at hj
      rw [List.getElem_take, getD_e hi] at ej
      have := (List.nodup_iff_pairwise_ne.mp hnd)
      have := (List.pairwise_iff_getElem.mp this) j i (by omega) hi (by omega)
      exact this ej
    rcases k5 with ⟨⟨y, y1, y2⟩, _⟩ | ⟨k5, k6, k7⟩
    · exfalso
      rcases (r3 y).mp y1 with q | ⟨_, q⟩
      · exact hnw _ hyF y q y2
      · rw [y2] at q
        exact hnotin q
    · let R3 : Nat → List pRw := fun p => if p = (F.getD i dFw).1 then R2 else R1 p
      have hR3 : ∀ p, p < s.1.length → (R3 p).Pairwise rwLt ∧ (R3 p).length = (R p).length + fCt (F.take (i + 1)) p ∧ ∀ y, y ∈ R3 p ↔ y ∈ R p ∨ (y.2 = st ∧ (p, y.1) ∈ F.take (i + 1)) := fun p hp => by
        by_cases cp : p = (F.getD i dFw).1
        · have e : R3 p = R2 := if_pos cp
          rw [e, fCt_tk hi, if_pos cp.symm]
          refine ⟨k3, by rw [k6, r2, cp]; omega, fun y => ?_⟩
          rw [k7, r3, htk, List.mem_append, List.mem_singleton, cp]
          constructor
          · rintro ((q | ⟨q1, q2⟩) | q)
            · exact .inl q
            · exact .inr ⟨q1, .inl q2⟩
            · rw [q]; exact .inr ⟨rfl, .inr rfl⟩
          · rintro (q | ⟨q1, q2 | q2⟩)
            · exact .inl (.inl q)
            · exact .inl (.inr ⟨q1, q2⟩)
            · refine .inr (Prod.ext ?_ q1)
              have := congrArg Prod.snd q2
              exact this
        · have e : R3 p = R1 p := if_neg cp
          obtain ⟨w1, w2, w3⟩ := hR1 p hp
          rw [e, fCt_tk hi, if_neg (fun q => cp q.symm)]
          refine ⟨w1, by rw [w2]; omega, fun y => ?_⟩
          rw [w3, htk, List.mem_append, List.mem_singleton]
          constructor
          · rintro (q | ⟨q1, q2⟩)
            · exact .inl q
            · exact .inr ⟨q1, .inl q2⟩
          · rintro (q | ⟨q1, q2 | q2⟩)
            · exact .inl q
            · exact .inr ⟨q1, q2⟩
            · exact absurd (congrArg Prod.fst q2) cp
      have hT3 : rTb G1 s.1.length (qN s) R3 := fun p hp => by
        by_cases cp : p = (F.getD i dFw).1
        · have e : R3 p = R2 := if_pos cp
          rw [e, cp]
          exact ⟨k2, t2⟩
        · have e : R3 p = R1 p := if_neg cp
          rw [e]
          obtain ⟨⟨w1, w2, w3⟩, w4⟩ := hT1 p hp
          have hfar : ∀ o j, (o = 107 ∧ p * 520 * 4 ≤ j ∧ j < (p * 520 + 520) * 4) ∨ (o = 108 ∧ j = p) ∨ (o = 109 ∧ p * 520 ≤ j ∧ j < p * 520 + 520) → G1 o j = G o j := fun o j h => by
            refine k4 o j (fun z => ?_) (fun z => ?_) (fun z => ?_)
            · rcases h with h | h | h
              · have h1 := h.2.1; have h2 := h.2.2; have h3 := z.2.1; have h4 := z.2.2
                omega
              · omega
              · omega
            · omega
            · rcases h with h | h | h
              · omega
              · omega
              · have h1 := h.2.1; have h2 := h.2.2; have h3 := z.2.1; have h4 := z.2.2
                omega
          refine ⟨⟨by rw [hfar _ _ (.inr (.inl ⟨rfl, rfl⟩))]; exact w1, w2, fun k hk => ?_⟩, w4⟩
          obtain ⟨v1, v2, v3⟩ := w3 k hk
          exact ⟨v1, fun j hj => by rw [hfar _ _ (.inl ⟨rfl, by omega, by omega⟩)]; exact v2 j hj, by rw [hfar _ _ (.inr (.inr ⟨rfl, by omega, by omega⟩))]; exact v3⟩
      obtain ⟨G', R', u1, u2, u3, u4⟩ := ih (i + 1) fu G1 R3 (by omega) (by omega) (fun o j y => by rw [k4 o j (by omega) (by omega) (by omega)]; exact h3 o j y) hT3 hR3 h12
      refine ⟨G', R', ?_, u2, u3, u4⟩
      rw [← u1]
      show g293_179b r12 (g293_179 r12 f fu) f _ _ _ _ = _
      unfold g293_179b
      rw [h3 _ _ (by omega), f1, if_neg (by omega), if_pos (by omega), Int.toNat_natCast, h3 _ _ (by omega), z2, e4, k1, Option.bind_some, e5]
end
