/-! THE CLASS binds what the reference binds -/
theorem wLt.lv {np nv : Nat} {y : pLt} (h : wLt np nv y) : wLv nv y := by
  rcases h with ⟨c1, _, _, _, _, c2⟩ | ⟨c1, _, c2, c3⟩
  · exact .inl ⟨c1, c2⟩
  · exact .inr ⟨c1, c2.1, c3.1⟩
theorem qIt_fix {np nv : Nat} {l : List pLt} (h : ∀ y ∈ l, wLt np nv y) (hv : nv ≤ 8) : ∀ (k s : Nat), s < 2 ^ 8 → 256 ≤ s + k → qSt l (qIt l k s) = qIt l k s
  | 0, s, hs, hk => by omega
  | k + 1, s, hs, hk => by
    show qSt l (if qSt l s = s then s else qIt l k (qSt l s)) = if qSt l s = s then s else qIt l k (qSt l s)
    by_cases c : qSt l s = s
    · rw [if_pos c]; exact c
    · rw [if_neg c]
      obtain ⟨a1, a2⟩ := qSt_lt h hv s hs
      exact qIt_fix h hv k (qSt l s) a1 (by omega)
theorem qIt_up {l : List pLt} (hup : ∀ s, qSub s (qSt l s)) : ∀ (k s : Nat), qSub s (qIt l k s)
  | 0, s => qSub_r s
  | k + 1, s => by
    show qSub s (if qSt l s = s then s else qIt l k (qSt l s))
    split
    · exact qSub_r s
    · exact qSub_tr (hup s) (qIt_up hup k (qSt l s))
theorem qS1_up (x : pLt) (s : Nat) : qSub s (qS1 x s) := by
  have h1 : qSub s (qL1 x s) := by unfold qL1; split; exact sub_or_l _ _; exact qSub_r s
  unfold qS1
  split
  · refine qSub_tr h1 ?_
    unfold qR1
    split
    · exact sub_or_l _ _
    · exact qSub_r _
  · exact qSub_r s
theorem qSt_up : ∀ (l : List pLt) (s : Nat), qSub s (qSt l s)
  | [], s => qSub_r s
  | x :: r, s => qSub_tr (qS1_up x s) (qSt_up r (qS1 x s))
theorem qSt_each : ∀ {l : List pLt} {s : Nat}, qSt l s = s → ∀ y ∈ l, qS1 y s = s
  | [], _, _ => fun y hy => by cases hy
  | x :: r, s, h => by
    have h' : qSt r (qS1 x s) = s := h
    have e : qS1 x s = s := by
      have q := qSt_up r (qS1 x s)
      rw [h'] at q
      exact qSub_as q (qS1_up x s)
    intro y hy
    rcases List.mem_cons.mp hy with q | q
    · rw [q]; exact e
    · rw [e] at h'
      exact qSt_each h' y q
theorem qA_in : ∀ {l : List pLt} {y : pLt}, y ∈ l → y.1 = 1 → qSub (qT y.2.2.2.1) (qA l)
  | [], _, hy, _ => by cases hy
  | x :: r, y, hy, h1 => by
    show qSub _ ((if x.1 = 1 then qT x.2.2.2.1 else 0) ||| qA r)
    rcases List.mem_cons.mp hy with q | q
    · rw [← q, if_pos h1]; exact sub_or_l _ _
    · exact qSub_tr (qA_in q h1) (sub_or_r _ _)
section
variable {np nv : Nat} {Ls : List pLt}
/-- what the class binds stays within what is closed -/
theorem qC1_in {t b : Nat} {x : pLt} (hw : wLv nv x) (hb : qSub b t) (hS : qS1 x t = t) (hA : x.1 = 1 → qSub (qT x.2.2.2.1) t) : qSub (qC1 x b) t := by
  unfold qC1
  cases h : qBh x b with
  | none => exact hb
  | some y =>
    show qSub y t
    unfold qBh at h
    split at h
    · rename_i c
      cases h
      refine or_sub2 hb ?_
      rcases c with c | c
      · unfold qLv
        rw [if_neg (by omega)]
        exact hA c
      · exact qSub_tr c hb
    · split at h
      · rename_i c
        cases h
        refine or_sub2 hb ?_
        unfold qLv
        rw [if_pos c.1]
        unfold qS1 at hS
        rw [if_pos ⟨c.1, c.2.1⟩] at hS
        have hL : qSub t (qL1 x t) := by unfold qL1; split; exact sub_or_l _ _; exact qSub_r t
        have hR : qSub (qL1 x t) (qR1 x (qL1 x t)) := by unfold qR1; split; exact sub_or_l _ _; exact qSub_r _
        rw [hS] at hR
        have eL : qL1 x t = t := qSub_as hR hL
        rw [eL] at hS
        rcases c.2.2 with ⟨d1, d2⟩ | ⟨d1, d2⟩
        · have d3 := qSub_tr d2 hb
          refine or_sub2 ?_ d3
          unfold qL1 at eL
          rw [if_pos ⟨d1, d3⟩] at eL
          rw [← eL]
          exact sub_or_r _ _
        · have d3 := qSub_tr d2 hb
          refine or_sub2 d3 ?_
          unfold qR1 at hS
          rw [if_pos ⟨d1, d3⟩] at hS
          rw [← hS]
          exact sub_or_r _ _
      · cases h
theorem qCl_in {t : Nat} : ∀ {l : List pLt} {b : Nat}, (∀ y ∈ l, wLv nv y ∧ qS1 y t = t ∧ (y.1 = 1 → qSub (qT y.2.2.2.1) t)) → qSub b t → qSub (qCl l b) t
  | [], _, _, hb => hb
  | x :: r, b, h, hb => by
    obtain ⟨a1, a2, a3⟩ := h x (List.mem_cons_self ..)
    exact qCl_in (l := r) (b := qC1 x b) (fun y hy => h y (List.mem_cons_of_mem _ hy)) (qC1_in a1 hb a2 a3)
theorem qCi_in {t : Nat} {l : List pLt} (h : ∀ y ∈ l, wLv nv y ∧ qS1 y t = t ∧ (y.1 = 1 → qSub (qT y.2.2.2.1) t)) : ∀ (k b : Nat), qSub b t → qSub (qCi l k b) t
  | 0, _, hb => hb
  | k + 1, b, hb => qCi_in h k (qCl l b) (qCl_in h hb)
theorem qCi_bd (hw : ∀ y ∈ Ls, wLt np nv y) (hnv : nv ≤ 8) : qCi Ls 9 0 = qBd Ls := by
  have hlv : ∀ y ∈ Ls, wLv nv y := fun y hy => (hw y hy).lv
  obtain ⟨f1, f2⟩ := qCi_fix hnv hlv 9 0 (by decide) (by omega)
  have each := qCl_fix hnv hlv f2 f1
  have hfix : qSt Ls (qBd Ls) = qBd Ls := qIt_fix hw hnv 256 _ (qA_lt hw hnv) (by omega)
  have e2 := qSt_each hfix
  have hAb : qSub (qA Ls) (qBd Ls) := qIt_up (qSt_up Ls) 256 (qA Ls)
  refine qSub_as (qCi_in (fun y hy => ⟨hlv y hy, e2 y hy, fun h1 => qSub_tr (qA_in hy h1) hAb⟩) 9 0 (qSub_t.mpr (fun j hj => by rw [Nat.zero_testBit] at hj; cases hj))) ?_
  refine qSub_t.mpr (qBd_in (qSt_id (fun y hy => ?_)) (qA_sub (fun y hy h1 => ?_)))
  · have e := each y hy
    unfold qC1 at e
    cases h : qBh y (qCi Ls 9 0) with
    | none => exact (qBh_none (hlv y hy) h).2.1
    | some z =>
      rw [h] at e
      have e' : z = qCi Ls 9 0 := e
      obtain ⟨g1, _⟩ := qBh_some (hlv y hy) hnv f2 h
      rw [e'] at g1
      exact qS1_in (hlv y hy) (by rw [g1]; exact qSub_tr (sub_or_r _ _) (by rw [← g1]; exact qSub_r _))
  · have e := each y hy
    have hb : qBh y (qCi Ls 9 0) = some (qCi Ls 9 0 ||| qLv y) := by unfold qBh; rw [if_pos (.inl h1)]
    unfold qC1 at e
    rw [hb] at e
    have e' : qCi Ls 9 0 ||| qLv y = qCi Ls 9 0 := e
    have hl : qLv y = qT y.2.2.2.1 := by unfold qLv; rw [if_neg (by omega)]
    rw [← hl]
    have q := sub_or_r (qCi Ls 9 0) (qLv y)
    rw [e'] at q
    exact q
end
