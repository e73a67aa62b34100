/-! WHOLE: what stands behind the constructors -/
theorem rx_mv {m : Nat} {M0 M M1 : xj_M} {G : xG_} (h : xRX m M0 M G) (e : ∀ a, m ≤ a ∧ a < m + 276 → xj_get M1 a = xj_get M a) : xRX m M1 M1 G := by
  obtain ⟨h1, h2, h3, h4, h5, h6⟩ := h
  refine ⟨h1, fun o ho => ?_, fun _ _ => rfl, rfl, rfl, h6⟩
  obtain ⟨a1, a2⟩ := h2 o ho
  have eg := e (m + o) ⟨by omega, by omega⟩
  have es : xh_sh M1 (m + o) = xh_sh M (m + o) := by unfold xh_sh; rw [eg]
  have ev : ∀ i, xh_v M1 (m + o) i = xh_v M (m + o) i := fun i => by unfold xh_v; rw [eg]
  exact ⟨es.trans a1, fun i hi => ⟨(ev i).trans (a2 i hi).1, (a2 i hi).2⟩⟩
theorem cx_mv {m : Nat} {M0 M1 M2 : xj_M} {T : xT_} (hm : m ≠ 0) (h : xCX m M0 M1 T) (e : ∀ a, ¬ (m ≤ a ∧ a < m + 276) → xj_get M2 a = xj_get M1 a) (l : M2.1.length = M1.1.length) (sl : M2.2 = M1.2) : xCX m M2 M2 T := by
  have hh : xHl m = 276 := if_neg hm
  obtain ⟨h1, h2, h3, h4, h5⟩ := h
  refine ⟨fun a ha => ?_, fun a ha => ⟨(h2 a ha).1, rfl⟩, by rw [l]; exact h3, by rw [sl]; exact h4, h5⟩
  have eg := e a (by rw [hh] at ha; exact ha)
  have es : xh_sh M2 a = xh_sh M1 a := by unfold xh_sh; rw [eg]
  have ev : ∀ i, xh_v M2 a i = xh_v M1 a i := fun i => by unfold xh_v; rw [eg]
  obtain ⟨a1, a2⟩ := h1 a ha
  exact ⟨es.trans a1, fun i hi => ⟨(ev i).trans (a2 i hi).1, (a2 i hi).2⟩⟩
theorem get_nil (a : Nat) : xj_get ([], 0) a = none := by
  unfold xj_get
  by_cases c : a < 64
  · rw [if_pos c]
  · rw [if_neg c]; rfl
theorem cx_00 : xCX 0 ([], 0) ([], 0) t00 := by
  have hh : xHl 0 = 0 := rfl
  refine ⟨fun a _ => ⟨?_, fun i hi => absurd hi (Nat.not_lt_zero _)⟩, fun a ha => by rw [hh] at ha; omega, rfl, rfl, by decide⟩
  unfold xh_sh
  rw [get_nil]
  rfl
theorem nw_at {t : xT_} {p : Nat × xT_} (e : cq_nw 15 107 t = some p) : p.1 = t.2.2.1 := by
  cases e
  rfl
theorem na_at {t : xT_} {p : Nat × xT_} (e : cq_na 4 1 t = some p) : p.1 = t.2.2.1 := by
  obtain ⟨S, G, a, sl⟩ := t
  rw [cq_na_ok (by decide) (by decide) (by decide)] at e
  cases e
  rfl
/-- the memory behind the constructors and the law's array -/
theorem m_init : ∃ M1 M1' M2 M2' M3 : xj_M, xq_nw 11 ([], 0) = some (64, M1) ∧ f168 f00 64 M1 = some M1' ∧ xq_nw 15 M1' = some (279, M2) ∧ f357 f00 279 M2 = some M2' ∧ xq_na 4 1 M2' = some (555, M3) ∧ xCX 0 ([], 0) M3 t03 := by
  have hS := hS00 (f := f00) (by decide)
  obtain ⟨p1, e1⟩ : ∃ p, cq_nw 11 17 t00 = some p := ⟨_, rfl⟩
  have hp1 : p1.1 = 64 := by cases e1; rfl
  obtain ⟨M1, q1, h1⟩ := cx_00.nw (by decide +kernel) (by decide +kernel) e1
  have i1 := t01_i
  have d1 : t01 = ((cq_nw 11 17 t00).bind fun p => c168 f00 p.1 p.2).getD t00 := rfl
  rw [e1, Option.bind_some] at i1 d1
  obtain ⟨X1, x1⟩ := Option.isSome_iff_exists.mp i1
  rw [x1] at d1
  have d1' : t01 = X1 := d1
  subst d1'
  obtain ⟨M1', y1, z1⟩ := t168 hS h1 x1
  obtain ⟨p2, e2⟩ : ∃ p, cq_nw 15 107 t01 = some p := ⟨_, rfl⟩
  have hp2 : p2.1 = 279 := (nw_at e2).trans t01_n
  obtain ⟨M2, q2, h2⟩ := z1.nw (by decide +kernel) (by decide +kernel) e2
  have i2 := t02_i
  have d2 : t02 = ((cq_nw 15 107 t01).bind fun p => c357 f00 p.1 p.2).getD t00 := rfl
  rw [e2, Option.bind_some] at i2 d2
  obtain ⟨X2, x2⟩ := Option.isSome_iff_exists.mp i2
  rw [x2] at d2
  have d2' : t02 = X2 := d2
  subst d2'
  obtain ⟨M2', y2, z2⟩ := t357 hS h2 x2
  have i3 := t03_i
  have d3 : t03 = ((cq_na 4 1 t02).map fun p => p.2).getD t00 := rfl
  obtain ⟨X3, x3⟩ := Option.isSome_iff_exists.mp i3
  obtain ⟨p3, e3, e3'⟩ := Option.map_eq_some_iff.mp x3
  rw [x3] at d3
  have d3' : t03 = X3 := d3
  have hp3 : p3.1 = 555 := (na_at e3).trans t02_n
  obtain ⟨M3, q3, h3⟩ := z2.na (by decide) e3
  rw [e3', ← d3'] at h3
  rw [hp1] at q1 y1
  rw [hp2] at q2 y2
  rw [hp3] at q3
  exact ⟨M1, M1', M2, M2', M3, q1, y1, q2, y2, q3, h3⟩
