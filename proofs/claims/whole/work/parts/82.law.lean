/-! The law (written by mk_mir.py) -/
def xr_2000 : xj_mR := xj_lr
def f2000_1186 (xs : List Int32) (r23 : Nat → Nat → Nat → Nat → Int → xj_M → Option (Int × xj_M)) (f : Nat) (x0 : Nat) (x1 : Nat) (x2 : Nat) (x3 : Nat) (x4 : Int) (M : xj_M) : Option (Int × xj_M) := r23 (x0) (x1) (x2) (x3) (xwr ((x4) + (6))) M
theorem k2000_1186 {d f : Nat} {xs : List Int32} {r23 : Nat → Nat → Nat → Nat → Int → xj_M → Option (Int × xj_M)}  (hr23 : ∀ {x0 : Nat} {x1 : Nat} {x2 : Nat} {x3 : Nat} {x4 : Int} {M : xj_M} {R : Int × xj_M}, xin x4 → r23 x0 x1 x2 x3 x4 M = some R → xW (d + 260) (none, d + 260, some xs) xr_2000 (23, [(0, xS x0), (1, xR_ x1), (2, xR_ x2), (3, xR_ x3), (4, xI x4)], [], M) (xQi R)) {x0 : Nat} {x1 : Nat} {x2 : Nat} {x3 : Nat} {x4 : Int} {M : xj_M} {R : Int × xj_M} (hx4 : xin x4) (h : f2000_1186 xs r23 f x0 x1 x2 x3 x4 M = some R) : xW (d + 260) (none, d + 260, some xs) xr_2000 (1186, [(0, xS x0), (1, xR_ x1), (2, xR_ x2), (3, xR_ x3), (4, xI x4)], [], M) (xQi R) := by
  unfold f2000_1186 at h
  refine xe_iincr (i := 4) (n := 6) (by decide +kernel) (by decide) rfl (xk_k (show ¬ (0 : Nat) = 4 by decide) (Or.inl (show ¬ (0 + 1 : Nat) = 4 by decide)) (xk_k (show ¬ (1 : Nat) = 4 by decide) (Or.inl (show ¬ (1 + 1 : Nat) = 4 by decide)) (xk_k (show ¬ (2 : Nat) = 4 by decide) (Or.inl (show ¬ (2 + 1 : Nat) = 4 by decide)) (xk_k (show ¬ (3 : Nat) = 4 by decide) (Or.inr (xR_cat _)) (xk_d rfl xk_n))))) rfl ?_
  refine xe_goto (off := -1166) (nx := 23) (by decide +kernel) (by decide) ?_
  refine xW_lv rfl (l := [(0, xS (x0)), (1, xR_ (x1)), (2, xR_ (x2)), (3, xR_ (x3)), (4, xI (xwr ((x4) + (6))))]) (xsb_of ⟨rfl, rfl, rfl, rfl, rfl, trivial⟩ (show [4, 0, 1, 2, 3].Nodup by decide)) ?_
  exact hr23 (xin_wr _) h
def f2000_1183 (xs : List Int32) (r23 : Nat → Nat → Nat → Nat → Int → xj_M → Option (Int × xj_M)) (f : Nat) (x0 : Nat) (x1 : Nat) (x2 : Nat) (x3 : Nat) (x4 : Int) (M : xj_M) : Option (Int × xj_M) := f2000_1186 xs r23 f (x0) (x1) (x2) (x3) (x4) M
theorem k2000_1183 {d f : Nat} {xs : List Int32} {r23 : Nat → Nat → Nat → Nat → Int → xj_M → Option (Int × xj_M)}  (hr23 : ∀ {x0 : Nat} {x1 : Nat} {x2 : Nat} {x3 : Nat} {x4 : Int} {M : xj_M} {R : Int × xj_M}, xin x4 → r23 x0 x1 x2 x3 x4 M = some R → xW (d + 260) (none, d + 260, some xs) xr_2000 (23, [(0, xS x0), (1, xR_ x1), (2, xR_ x2), (3, xR_ x3), (4, xI x4)], [], M) (xQi R)) {x0 : Nat} {x1 : Nat} {x2 : Nat} {x3 : Nat} {x4 : Int} {M : xj_M} {R : Int × xj_M} (hx4 : xin x4) (h : f2000_1183 xs r23 f x0 x1 x2 x3 x4 M = some R) : xW (d + 260) (none, d + 260, some xs) xr_2000 (1183, [(0, xS x0), (1, xR_ x1), (2, xR_ x2), (3, xR_ x3), (4, xI x4)], [], M) (xQi R) := by
  unfold f2000_1183 at h
  refine xe_goto (off := 3) (nx := 1186) (by decide +kernel) (by decide) ?_
  refine xW_lv rfl (l := [(0, xS (x0)), (1, xR_ (x1)), (2, xR_ (x2)), (3, xR_ (x3)), (4, xI (x4))]) (xsb_of ⟨rfl, rfl, rfl, rfl, rfl, trivial⟩ (show [0, 1, 2, 3, 4].Nodup by decide)) ?_
  exact k2000_1186  hr23 hx4 h
def f2000_1016 (xs : List Int32) (r23 : Nat → Nat → Nat → Nat → Int → xj_M → Option (Int × xj_M)) (f : Nat) (x0 : Nat) (x1 : Nat) (x2 : Nat) (x3 : Nat) (x4 : Int) (M : xj_M) : Option (Int × xj_M) := f2000_1186 xs r23 f (x0) (x1) (x2) (x3) (x4) M
theorem k2000_1016 {d f : Nat} {xs : List Int32} {r23 : Nat → Nat → Nat → Nat → Int → xj_M → Option (Int × xj_M)}  (hr23 : ∀ {x0 : Nat} {x1 : Nat} {x2 : Nat} {x3 : Nat} {x4 : Int} {M : xj_M} {R : Int × xj_M}, xin x4 → r23 x0 x1 x2 x3 x4 M = some R → xW (d + 260) (none, d + 260, some xs) xr_2000 (23, [(0, xS x0), (1, xR_ x1), (2, xR_ x2), (3, xR_ x3), (4, xI x4)], [], M) (xQi R)) {x0 : Nat} {x1 : Nat} {x2 : Nat} {x3 : Nat} {x4 : Int} {M : xj_M} {R : Int × xj_M} (hx4 : xin x4) (h : f2000_1016 xs r23 f x0 x1 x2 x3 x4 M = some R) : xW (d + 260) (none, d + 260, some xs) xr_2000 (1016, [(0, xS x0), (1, xR_ x1), (2, xR_ x2), (3, xR_ x3), (4, xI x4)], [], M) (xQi R) := by
  unfold f2000_1016 at h
  refine xe_goto (off := 170) (nx := 1186) (by decide +kernel) (by decide) ?_
  refine xW_lv rfl (l := [(0, xS (x0)), (1, xR_ (x1)), (2, xR_ (x2)), (3, xR_ (x3)), (4, xI (x4))]) (xsb_of ⟨rfl, rfl, rfl, rfl, rfl, trivial⟩ (show [0, 1, 2, 3, 4].Nodup by decide)) ?_
  exact k2000_1186  hr23 hx4 h
def f2000_888 (xs : List Int32) (r23 : Nat → Nat → Nat → Nat → Int → xj_M → Option (Int × xj_M)) (f : Nat) (x0 : Nat) (x1 : Nat) (x2 : Nat) (x3 : Nat) (x4 : Int) (M : xj_M) : Option (Int × xj_M) := f2000_1186 xs r23 f (x0) (x1) (x2) (x3) (x4) M
theorem k2000_888 {d f : Nat} {xs : List Int32} {r23 : Nat → Nat → Nat → Nat → Int → xj_M → Option (Int × xj_M)}  (hr23 : ∀ {x0 : Nat} {x1 : Nat} {x2 : Nat} {x3 : Nat} {x4 : Int} {M : xj_M} {R : Int × xj_M}, xin x4 → r23 x0 x1 x2 x3 x4 M = some R → xW (d + 260) (none, d + 260, some xs) xr_2000 (23, [(0, xS x0), (1, xR_ x1), (2, xR_ x2), (3, xR_ x3), (4, xI x4)], [], M) (xQi R)) {x0 : Nat} {x1 : Nat} {x2 : Nat} {x3 : Nat} {x4 : Int} {M : xj_M} {R : Int × xj_M} (hx4 : xin x4) (h : f2000_888 xs r23 f x0 x1 x2 x3 x4 M = some R) : xW (d + 260) (none, d + 260, some xs) xr_2000 (888, [(0, xS x0), (1, xR_ x1), (2, xR_ x2), (3, xR_ x3), (4, xI x4)], [], M) (xQi R) := by
  unfold f2000_888 at h
  refine xe_goto (off := 298) (nx := 1186) (by decide +kernel) (by decide) ?_
  refine xW_lv rfl (l := [(0, xS (x0)), (1, xR_ (x1)), (2, xR_ (x2)), (3, xR_ (x3)), (4, xI (x4))]) (xsb_of ⟨rfl, rfl, rfl, rfl, rfl, trivial⟩ (show [0, 1, 2, 3, 4].Nodup by decide)) ?_
  exact k2000_1186  hr23 hx4 h
def f2000_809 (xs : List Int32) (r23 : Nat → Nat → Nat → Nat → Int → xj_M → Option (Int × xj_M)) (f : Nat) (x0 : Nat) (x1 : Nat) (x2 : Nat) (x3 : Nat) (x4 : Int) (M : xj_M) : Option (Int × xj_M) := f2000_1186 xs r23 f (x0) (x1) (x2) (x3) (x4) M
theorem k2000_809 {d f : Nat} {xs : List Int32} {r23 : Nat → Nat → Nat → Nat → Int → xj_M → Option (Int × xj_M)}  (hr23 : ∀ {x0 : Nat} {x1 : Nat} {x2 : Nat} {x3 : Nat} {x4 : Int} {M : xj_M} {R : Int × xj_M}, xin x4 → r23 x0 x1 x2 x3 x4 M = some R → xW (d + 260) (none, d + 260, some xs) xr_2000 (23, [(0, xS x0), (1, xR_ x1), (2, xR_ x2), (3, xR_ x3), (4, xI x4)], [], M) (xQi R)) {x0 : Nat} {x1 : Nat} {x2 : Nat} {x3 : Nat} {x4 : Int} {M : xj_M} {R : Int × xj_M} (hx4 : xin x4) (h : f2000_809 xs r23 f x0 x1 x2 x3 x4 M = some R) : xW (d + 260) (none, d + 260, some xs) xr_2000 (809, [(0, xS x0), (1, xR_ x1), (2, xR_ x2), (3, xR_ x3), (4, xI x4)], [], M) (xQi R) := by
  unfold f2000_809 at h
  refine xe_goto (off := 377) (nx := 1186) (by decide +kernel) (by decide) ?_
  refine xW_lv rfl (l := [(0, xS (x0)), (1, xR_ (x1)), (2, xR_ (x2)), (3, xR_ (x3)), (4, xI (x4))]) (xsb_of ⟨rfl, rfl, rfl, rfl, rfl, trivial⟩ (show [0, 1, 2, 3, 4].Nodup by decide)) ?_
  exact k2000_1186  hr23 hx4 h
def f2000_729 (xs : List Int32) (r23 : Nat → Nat → Nat → Nat → Int → xj_M → Option (Int × xj_M)) (f : Nat) (x0 : Nat) (x1 : Nat) (x2 : Nat) (x3 : Nat) (x4 : Int) (M : xj_M) : Option (Int × xj_M) := f2000_1186 xs r23 f (x0) (x1) (x2) (x3) (x4) M
theorem k2000_729 {d f : Nat} {xs : List Int32} {r23 : Nat → Nat → Nat → Nat → Int → xj_M → Option (Int × xj_M)}  (hr23 : ∀ {x0 : Nat} {x1 : Nat} {x2 : Nat} {x3 : Nat} {x4 : Int} {M : xj_M} {R : Int × xj_M}, xin x4 → r23 x0 x1 x2 x3 x4 M = some R → xW (d + 260) (none, d + 260, some xs) xr_2000 (23, [(0, xS x0), (1, xR_ x1), (2, xR_ x2), (3, xR_ x3), (4, xI x4)], [], M) (xQi R)) {x0 : Nat} {x1 : Nat} {x2 : Nat} {x3 : Nat} {x4 : Int} {M : xj_M} {R : Int × xj_M} (hx4 : xin x4) (h : f2000_729 xs r23 f x0 x1 x2 x3 x4 M = some R) : xW (d + 260) (none, d + 260, some xs) xr_2000 (729, [(0, xS x0), (1, xR_ x1), (2, xR_ x2), (3, xR_ x3), (4, xI x4)], [], M) (xQi R) := by
  unfold f2000_729 at h
  refine xe_goto (off := 457) (nx := 1186) (by decide +kernel) (by decide) ?_
  refine xW_lv rfl (l := [(0, xS (x0)), (1, xR_ (x1)), (2, xR_ (x2)), (3, xR_ (x3)), (4, xI (x4))]) (xsb_of ⟨rfl, rfl, rfl, rfl, rfl, trivial⟩ (show [0, 1, 2, 3, 4].Nodup by decide)) ?_
  exact k2000_1186  hr23 hx4 h
def f2000_661 (xs : List Int32) (r23 : Nat → Nat → Nat → Nat → Int → xj_M → Option (Int × xj_M)) (f : Nat) (x0 : Nat) (x1 : Nat) (x2 : Nat) (x3 : Nat) (x4 : Int) (M : xj_M) : Option (Int × xj_M) := f2000_1186 xs r23 f (x0) (x1) (x2) (x3) (x4) M
theorem k2000_661 {d f : Nat} {xs : List Int32} {r23 : Nat → Nat → Nat → Nat → Int → xj_M → Option (Int × xj_M)}  (hr23 : ∀ {x0 : Nat} {x1 : Nat} {x2 : Nat} {x3 : Nat} {x4 : Int} {M : xj_M} {R : Int × xj_M}, xin x4 → r23 x0 x1 x2 x3 x4 M = some R → xW (d + 260) (none, d + 260, some xs) xr_2000 (23, [(0, xS x0), (1, xR_ x1), (2, xR_ x2), (3, xR_ x3), (4, xI x4)], [], M) (xQi R)) {x0 : Nat} {x1 : Nat} {x2 : Nat} {x3 : Nat} {x4 : Int} {M : xj_M} {R : Int × xj_M} (hx4 : xin x4) (h : f2000_661 xs r23 f x0 x1 x2 x3 x4 M = some R) : xW (d + 260) (none, d + 260, some xs) xr_2000 (661, [(0, xS x0), (1, xR_ x1), (2, xR_ x2), (3, xR_ x3), (4, xI x4)], [], M) (xQi R) := by
  unfold f2000_661 at h
  refine xe_goto (off := 525) (nx := 1186) (by decide +kernel) (by decide) ?_
  refine xW_lv rfl (l := [(0, xS (x0)), (1, xR_ (x1)), (2, xR_ (x2)), (3, xR_ (x3)), (4, xI (x4))]) (xsb_of ⟨rfl, rfl, rfl, rfl, rfl, trivial⟩ (show [0, 1, 2, 3, 4].Nodup by decide)) ?_
  exact k2000_1186  hr23 hx4 h
def f2000_581 (xs : List Int32) (r23 : Nat → Nat → Nat → Nat → Int → xj_M → Option (Int × xj_M)) (f : Nat) (x0 : Nat) (x1 : Nat) (x2 : Nat) (x3 : Nat) (x4 : Int) (M : xj_M) : Option (Int × xj_M) := f2000_1186 xs r23 f (x0) (x1) (x2) (x3) (x4) M
theorem k2000_581 {d f : Nat} {xs : List Int32} {r23 : Nat → Nat → Nat → Nat → Int → xj_M → Option (Int × xj_M)}  (hr23 : ∀ {x0 : Nat} {x1 : Nat} {x2 : Nat} {x3 : Nat} {x4 : Int} {M : xj_M} {R : Int × xj_M}, xin x4 → r23 x0 x1 x2 x3 x4 M = some R → xW (d + 260) (none, d + 260, some xs) xr_2000 (23, [(0, xS x0), (1, xR_ x1), (2, xR_ x2), (3, xR_ x3), (4, xI x4)], [], M) (xQi R)) {x0 : Nat} {x1 : Nat} {x2 : Nat} {x3 : Nat} {x4 : Int} {M : xj_M} {R : Int × xj_M} (hx4 : xin x4) (h : f2000_581 xs r23 f x0 x1 x2 x3 x4 M = some R) : xW (d + 260) (none, d + 260, some xs) xr_2000 (581, [(0, xS x0), (1, xR_ x1), (2, xR_ x2), (3, xR_ x3), (4, xI x4)], [], M) (xQi R) := by
  unfold f2000_581 at h
  refine xe_goto (off := 605) (nx := 1186) (by decide +kernel) (by decide) ?_
  refine xW_lv rfl (l := [(0, xS (x0)), (1, xR_ (x1)), (2, xR_ (x2)), (3, xR_ (x3)), (4, xI (x4))]) (xsb_of ⟨rfl, rfl, rfl, rfl, rfl, trivial⟩ (show [0, 1, 2, 3, 4].Nodup by decide)) ?_
  exact k2000_1186  hr23 hx4 h
def f2000_501 (xs : List Int32) (r23 : Nat → Nat → Nat → Nat → Int → xj_M → Option (Int × xj_M)) (f : Nat) (x0 : Nat) (x1 : Nat) (x2 : Nat) (x3 : Nat) (x4 : Int) (M : xj_M) : Option (Int × xj_M) := f2000_1186 xs r23 f (x0) (x1) (x2) (x3) (x4) M
theorem k2000_501 {d f : Nat} {xs : List Int32} {r23 : Nat → Nat → Nat → Nat → Int → xj_M → Option (Int × xj_M)}  (hr23 : ∀ {x0 : Nat} {x1 : Nat} {x2 : Nat} {x3 : Nat} {x4 : Int} {M : xj_M} {R : Int × xj_M}, xin x4 → r23 x0 x1 x2 x3 x4 M = some R → xW (d + 260) (none, d + 260, some xs) xr_2000 (23, [(0, xS x0), (1, xR_ x1), (2, xR_ x2), (3, xR_ x3), (4, xI x4)], [], M) (xQi R)) {x0 : Nat} {x1 : Nat} {x2 : Nat} {x3 : Nat} {x4 : Int} {M : xj_M} {R : Int × xj_M} (hx4 : xin x4) (h : f2000_501 xs r23 f x0 x1 x2 x3 x4 M = some R) : xW (d + 260) (none, d + 260, some xs) xr_2000 (501, [(0, xS x0), (1, xR_ x1), (2, xR_ x2), (3, xR_ x3), (4, xI x4)], [], M) (xQi R) := by
  unfold f2000_501 at h
  refine xe_goto (off := 685) (nx := 1186) (by decide +kernel) (by decide) ?_
  refine xW_lv rfl (l := [(0, xS (x0)), (1, xR_ (x1)), (2, xR_ (x2)), (3, xR_ (x3)), (4, xI (x4))]) (xsb_of ⟨rfl, rfl, rfl, rfl, rfl, trivial⟩ (show [0, 1, 2, 3, 4].Nodup by decide)) ?_
  exact k2000_1186  hr23 hx4 h
def f2000_422 (xs : List Int32) (r23 : Nat → Nat → Nat → Nat → Int → xj_M → Option (Int × xj_M)) (f : Nat) (x0 : Nat) (x1 : Nat) (x2 : Nat) (x3 : Nat) (x4 : Int) (M : xj_M) : Option (Int × xj_M) := f2000_1186 xs r23 f (x0) (x1) (x2) (x3) (x4) M
theorem k2000_422 {d f : Nat} {xs : List Int32} {r23 : Nat → Nat → Nat → Nat → Int → xj_M → Option (Int × xj_M)}  (hr23 : ∀ {x0 : Nat} {x1 : Nat} {x2 : Nat} {x3 : Nat} {x4 : Int} {M : xj_M} {R : Int × xj_M}, xin x4 → r23 x0 x1 x2 x3 x4 M = some R → xW (d + 260) (none, d + 260, some xs) xr_2000 (23, [(0, xS x0), (1, xR_ x1), (2, xR_ x2), (3, xR_ x3), (4, xI x4)], [], M) (xQi R)) {x0 : Nat} {x1 : Nat} {x2 : Nat} {x3 : Nat} {x4 : Int} {M : xj_M} {R : Int × xj_M} (hx4 : xin x4) (h : f2000_422 xs r23 f x0 x1 x2 x3 x4 M = some R) : xW (d + 260) (none, d + 260, some xs) xr_2000 (422, [(0, xS x0), (1, xR_ x1), (2, xR_ x2), (3, xR_ x3), (4, xI x4)], [], M) (xQi R) := by
  unfold f2000_422 at h
  refine xe_goto (off := 764) (nx := 1186) (by decide +kernel) (by decide) ?_
  refine xW_lv rfl (l := [(0, xS (x0)), (1, xR_ (x1)), (2, xR_ (x2)), (3, xR_ (x3)), (4, xI (x4))]) (xsb_of ⟨rfl, rfl, rfl, rfl, rfl, trivial⟩ (show [0, 1, 2, 3, 4].Nodup by decide)) ?_
  exact k2000_1186  hr23 hx4 h
def f2000_23b (xs : List Int32) (r23 : Nat → Nat → Nat → Nat → Int → xj_M → Option (Int × xj_M)) (f : Nat) (x0 : Nat) (x1 : Nat) (x2 : Nat) (x3 : Nat) (x4 : Int) (M : xj_M) : Option (Int × xj_M) := ((xq_scl xs).bind fun v101 => (if (xwr ((v101) - (6))) < (x4) then (some (1, M)) else ((xq_sci xs (x4)).bind fun v104 => (if (xand (v104) (31)) < 0 ∨ 24 < (xand (v104) (31)) then f2000_1186 xs r23 f (x0) (x1) (x2) (x3) (x4) M else (if (xand (v104) (31)) = 0 then ((xq_sci xs (xwr ((x4) + (1)))).bind fun v108 => ((xq_sci xs (xwr ((x4) + (2)))).bind fun v110 => ((xq_sci xs (xwr ((x4) + (3)))).bind fun v112 => ((xq_sci xs (xwr ((x4) + (4)))).bind fun v114 => ((xq_sci xs (xwr ((x4) + (5)))).bind fun v116 => ((xq_is 11 (x1) M).bind fun _ => ((f169  f (x1) (v108) (v110) (v112) (v114) (v116) M).bind fun R120 => ((xq_sci xs (xwr ((x4) + (1)))).bind fun v122 => ((xq_sci xs (xwr ((x4) + (2)))).bind fun v124 => ((xq_sci xs (xwr ((x4) + (3)))).bind fun v126 => ((xq_sci xs (xwr ((x4) + (4)))).bind fun v128 => ((xq_sci xs (xwr ((x4) + (5)))).bind fun v130 => ((xq_is 15 (x2) R120.2).bind fun _ => ((f359  f (x2) (v122) (v124) (v126) (v128) (v130) R120.2).bind fun R134 => (if (R120.1) = (R134.1) then f2000_1186 xs r23 f (x0) (x1) (x2) (x3) (x4) R134.2 else (some (0, R134.2))))))))))))))))) else (if (xand (v104) (31)) = 1 then ((xq_sci xs (xwr ((x4) + (1)))).bind fun v138 => ((xq_is 11 (x1) M).bind fun _ => ((f170  f (x1) (v138) M).bind fun R142 => ((xq_sci xs (xwr ((x4) + (1)))).bind fun v144 => ((xq_is 15 (x2) R142.2).bind fun _ => ((f360  f (x2) (v144) R142.2).bind fun R148 => (if (R142.1) = (R148.1) then f2000_1186 xs r23 f (x0) (x1) (x2) (x3) (x4) R148.2 else (some (0, R148.2))))))))) else (if (xand (v104) (31)) = 2 then ((xq_is 11 (x1) M).bind fun _ => ((f1000  f (x1) M).bind fun R154 => ((xq_is 15 (x2) R154.2).bind fun _ => ((f363  f (x2) R154.2).bind fun R158 => (if (R154.1) = (R158.1) then f2000_1186 xs r23 f (x0) (x1) (x2) (x3) (x4) R158.2 else (some (0, R158.2))))))) else (if (xand (v104) (31)) = 3 then ((xq_is 11 (x1) M).bind fun _ => ((f171  f (x1) M).bind fun R164 => ((xq_is 15 (x2) R164.2).bind fun _ => ((f364  f (x2) R164.2).bind fun R168 => (if (R164.1) = (R168.1) then f2000_1186 xs r23 f (x0) (x1) (x2) (x3) (x4) R168.2 else (some (0, R168.2))))))) else (if (xand (v104) (31)) = 4 then ((xq_is 11 (x1) M).bind fun _ => ((f1001  f (x1) M).bind fun R174 => ((xq_is 15 (x2) R174.2).bind fun _ => ((f365  f (x2) R174.2).bind fun R178 => (if (R174.1) = (R178.1) then f2000_1186 xs r23 f (x0) (x1) (x2) (x3) (x4) R178.2 else (some (0, R178.2))))))) else (if (xand (v104) (31)) = 5 then ((xq_is 11 (x1) M).bind fun _ => ((f1002  f (x1) M).bind fun R184 => ((xq_is 15 (x2) R184.2).bind fun _ => ((f356  f (x2) R184.2).bind fun R188 => (if (R184.1) = (R188.1) then f2000_1186 xs r23 f (x0) (x1) (x2) (x3) (x4) R188.2 else (some (0, R188.2))))))) else (if (xand (v104) (31)) = 6 then ((xq_is 11 (x1) M).bind fun _ => ((f172  f (x1) M).bind fun R194 => ((xq_is 15 (x2) R194.2).bind fun _ => ((f367  f (x2) R194.2).bind fun R198 => (if (R194.1) = (R198.1) then f2000_1186 xs r23 f (x0) (x1) (x2) (x3) (x4) R198.2 else (some (0, R198.2))))))) else (if (xand (v104) (31)) = 7 then ((xq_is 11 (x1) M).bind fun _ => ((f173  f (x1) M).bind fun R204 => ((xq_is 15 (x2) R204.2).bind fun _ => ((f298  f (x2) R204.2).bind fun R208 => (if (R204.1) = (R208.1) then f2000_1186 xs r23 f (x0) (x1) (x2) (x3) (x4) R208.2 else (some (0, R208.2))))))) else (if (xand (v104) (31)) = 8 then ((xq_sci xs (xwr ((x4) + (1)))).bind fun v212 => ((xq_is 11 (x1) M).bind fun _ => ((f174  f (x1) (v212) M).bind fun R216 => ((xq_sci xs (xwr ((x4) + (1)))).bind fun v218 => ((xq_is 15 (x2) R216.2).bind fun _ => ((f377  f (x2) (v218) R216.2).bind fun R222 => (if (R216.1) = (R222.1) then f2000_1186 xs r23 f (x0) (x1) (x2) (x3) (x4) R222.2 else (some (0, R222.2))))))))) else (if (xand (v104) (31)) = 9 then ((xq_sci xs (xwr ((x4) + (1)))).bind fun v226 => ((xq_sci xs (xwr ((x4) + (2)))).bind fun v228 => ((f1004  f (x1) (v226) (v228) (x3) M).bind fun R231 => ((xq_sci xs (xwr ((x4) + (1)))).bind fun v233 => ((xq_sci xs (xwr ((x4) + (2)))).bind fun v235 => ((xq_is 15 (x2) R231.2).bind fun _ => ((f378  f (x2) (v233) (v235) R231.2).bind fun R239 => ((xq_is 15 (x2) R239.2).bind fun _ => ((f358  f (x2) R239.2).bind fun R243 => (if (R243.1) = (R231.1) then (if ¬ (R231.1) = 0 then f2000_422 xs r23 f (x0) (x1) (x2) (x3) (x4) R243.2 else ((xq_al (x3) (0) R243.2).bind fun v247 => (if (v247) = (R239.1) then f2000_422 xs r23 f (x0) (x1) (x2) (x3) (x4) R243.2 else (some (0, R243.2))))) else (some (0, R243.2)))))))))))) else (if (xand (v104) (31)) = 10 then ((xq_sci xs (xwr ((x4) + (1)))).bind fun v251 => ((xq_sci xs (xwr ((x4) + (2)))).bind fun v253 => ((xq_sci xs (xwr ((x4) + (3)))).bind fun v255 => ((f1005  f (x1) (v251) (v253) (v255) (x3) M).bind fun R258 => ((xq_sci xs (xwr ((x4) + (1)))).bind fun v260 => ((xq_sci xs (xwr ((x4) + (2)))).bind fun v262 => ((xq_sci xs (xwr ((x4) + (3)))).bind fun v264 => ((xq_is 15 (x2) R258.2).bind fun _ => ((f372  f (x2) (v260) (v262) (v264) R258.2).bind fun R268 => ((xq_is 15 (x2) R268.2).bind fun _ => ((f358  f (x2) R268.2).bind fun R272 => (if (R272.1) = (R258.1) then (if ¬ (R258.1) = 0 then f2000_501 xs r23 f (x0) (x1) (x2) (x3) (x4) R272.2 else ((xq_al (x3) (0) R272.2).bind fun v276 => (if (v276) = (R268.1) then f2000_501 xs r23 f (x0) (x1) (x2) (x3) (x4) R272.2 else (some (0, R272.2))))) else (some (0, R272.2)))))))))))))) else (if (xand (v104) (31)) = 11 then ((xq_is 11 (x1) M).bind fun _ => ((f177  f (x1) M).bind fun R282 => ((xq_is 15 (x2) R282.2).bind fun _ => ((f379  f (x2) R282.2).bind fun R286 => (if (R282.1) = (R286.1) then f2000_1186 xs r23 f (x0) (x1) (x2) (x3) (x4) R286.2 else (some (0, R286.2))))))) else (if (xand (v104) (31)) = 12 then ((xq_sci xs (xwr ((x4) + (1)))).bind fun v290 => ((xq_sci xs (xwr ((x4) + (2)))).bind fun v292 => ((f1006  f (x1) (v290) (v292) (x3) M).bind fun R295 => ((xq_sci xs (xwr ((x4) + (1)))).bind fun v297 => ((xq_sci xs (xwr ((x4) + (2)))).bind fun v299 => ((xq_is 15 (x2) R295.2).bind fun _ => ((f380  f (x2) (v297) (v299) R295.2).bind fun R303 => ((xq_is 15 (x2) R303.2).bind fun _ => ((f358  f (x2) R303.2).bind fun R307 => (if (R307.1) = (R295.1) then (if ¬ (R295.1) = 0 then f2000_581 xs r23 f (x0) (x1) (x2) (x3) (x4) R307.2 else ((xq_al (x3) (0) R307.2).bind fun v311 => (if (v311) = (R303.1) then f2000_581 xs r23 f (x0) (x1) (x2) (x3) (x4) R307.2 else (some (0, R307.2))))) else (some (0, R307.2)))))))))))) else (if (xand (v104) (31)) = 13 then ((xq_is 11 (x1) M).bind fun _ => ((f1003  f (x1) M).bind fun R317 => ((xq_is 15 (x2) R317.2).bind fun _ => ((f368  f (x2) R317.2).bind fun R321 => (if (R317.1) = (R321.1) then f2000_1186 xs r23 f (x0) (x1) (x2) (x3) (x4) R321.2 else (some (0, R321.2))))))) else (if (xand (v104) (31)) = 14 then ((xq_sci xs (xwr ((x4) + (1)))).bind fun v325 => ((xq_sci xs (xwr ((x4) + (2)))).bind fun v327 => ((f1007  f (x1) (v325) (v327) (x3) M).bind fun R330 => ((xq_sci xs (xwr ((x4) + (1)))).bind fun v332 => ((xq_sci xs (xwr ((x4) + (2)))).bind fun v334 => ((xq_is 15 (x2) R330.2).bind fun _ => ((f370  f (x2) (v332) (v334) R330.2).bind fun R338 => ((xq_is 15 (x2) R338.2).bind fun _ => ((f358  f (x2) R338.2).bind fun R342 => (if (R342.1) = (R330.1) then (if ¬ (R330.1) = 0 then f2000_661 xs r23 f (x0) (x1) (x2) (x3) (x4) R342.2 else ((xq_al (x3) (0) R342.2).bind fun v346 => (if (v346) = (R338.1) then f2000_661 xs r23 f (x0) (x1) (x2) (x3) (x4) R342.2 else (some (0, R342.2))))) else (some (0, R342.2)))))))))))) else (if (xand (v104) (31)) = 15 then ((xq_sci xs (xwr ((x4) + (1)))).bind fun v350 => ((xq_sci xs (xwr ((x4) + (2)))).bind fun v352 => ((f1008  f (x1) (v350) (v352) (x3) M).bind fun R355 => ((xq_sci xs (xwr ((x4) + (1)))).bind fun v357 => ((xq_sci xs (xwr ((x4) + (2)))).bind fun v359 => ((xq_is 15 (x2) R355.2).bind fun _ => ((f373  f (x2) (v357) (v359) R355.2).bind fun R363 => ((xq_is 15 (x2) R363.2).bind fun _ => ((f358  f (x2) R363.2).bind fun R367 => (if (R367.1) = (R355.1) then (if ¬ (R355.1) = 0 then f2000_729 xs r23 f (x0) (x1) (x2) (x3) (x4) R367.2 else ((xq_al (x3) (0) R367.2).bind fun v371 => (if (v371) = (R363.1) then f2000_729 xs r23 f (x0) (x1) (x2) (x3) (x4) R367.2 else (some (0, R367.2))))) else (some (0, R367.2)))))))))))) else (if (xand (v104) (31)) = 16 then ((xq_sci xs (xwr ((x4) + (1)))).bind fun v375 => ((xq_sci xs (xwr ((x4) + (2)))).bind fun v377 => ((xq_sci xs (xwr ((x4) + (3)))).bind fun v379 => ((f1009  f (x1) (v375) (v377) (v379) (x3) M).bind fun R382 => ((xq_sci xs (xwr ((x4) + (1)))).bind fun v384 => ((xq_sci xs (xwr ((x4) + (2)))).bind fun v386 => ((xq_sci xs (xwr ((x4) + (3)))).bind fun v388 => ((xq_is 15 (x2) R382.2).bind fun _ => ((f374  f (x2) (v384) (v386) (v388) R382.2).bind fun R392 => ((xq_is 15 (x2) R392.2).bind fun _ => ((f358  f (x2) R392.2).bind fun R396 => (if (R396.1) = (R382.1) then (if ¬ (R382.1) = 0 then f2000_809 xs r23 f (x0) (x1) (x2) (x3) (x4) R396.2 else ((xq_al (x3) (0) R396.2).bind fun v400 => (if (v400) = (R392.1) then f2000_809 xs r23 f (x0) (x1) (x2) (x3) (x4) R396.2 else (some (0, R396.2))))) else (some (0, R396.2)))))))))))))) else (if (xand (v104) (31)) = 17 then ((xq_sci xs (xwr ((x4) + (1)))).bind fun v404 => ((xq_sci xs (xwr ((x4) + (2)))).bind fun v406 => ((xq_sci xs (xwr ((x4) + (3)))).bind fun v408 => ((f1010  f (x1) (v404) (v406) (v408) (x3) M).bind fun R411 => ((xq_sci xs (xwr ((x4) + (1)))).bind fun v413 => ((xq_sci xs (xwr ((x4) + (2)))).bind fun v415 => ((xq_sci xs (xwr ((x4) + (3)))).bind fun v417 => ((xq_is 15 (x2) R411.2).bind fun _ => ((f355  f (x2) (v413) (v415) (v417) R411.2).bind fun R421 => ((xq_is 15 (x2) R421.2).bind fun _ => ((f358  f (x2) R421.2).bind fun R425 => (if (R425.1) = (R411.1) then (if ¬ (R411.1) = 0 then f2000_888 xs r23 f (x0) (x1) (x2) (x3) (x4) R425.2 else ((xq_al (x3) (0) R425.2).bind fun v429 => (if (v429) = (R421.1) then f2000_888 xs r23 f (x0) (x1) (x2) (x3) (x4) R425.2 else (some (0, R425.2))))) else (some (0, R425.2)))))))))))))) else (if (xand (v104) (31)) = 18 then ((xq_sci xs (xwr ((x4) + (1)))).bind fun v433 => ((xq_sci xs (xwr ((x4) + (2)))).bind fun v435 => ((xq_is 11 (x1) M).bind fun _ => ((f184  f (x1) (v433) (v435) M).bind fun R439 => ((xq_sci xs (xwr ((x4) + (1)))).bind fun v441 => ((xq_sci xs (xwr ((x4) + (2)))).bind fun v443 => ((xq_is 15 (x2) R439.2).bind fun _ => ((f318  f (x2) (v441) (v443) R439.2).bind fun R447 => (if (R439.1) = (R447.1) then f2000_1186 xs r23 f (x0) (x1) (x2) (x3) (x4) R447.2 else (some (0, R447.2))))))))))) else (if (xand (v104) (31)) = 19 then ((xq_sci xs (xwr ((x4) + (1)))).bind fun v451 => ((xq_sci xs (xwr ((x4) + (2)))).bind fun v453 => ((xq_sci xs (xwr ((x4) + (3)))).bind fun v455 => ((xq_sci xs (xwr ((x4) + (4)))).bind fun v457 => ((f1011  f (x1) (v451) (v453) (v455) (v457) (x3) M).bind fun R460 => ((xq_sci xs (xwr ((x4) + (1)))).bind fun v462 => ((xq_sci xs (xwr ((x4) + (2)))).bind fun v464 => ((xq_sci xs (xwr ((x4) + (3)))).bind fun v466 => ((xq_sci xs (xwr ((x4) + (4)))).bind fun v468 => ((xq_is 15 (x2) R460.2).bind fun _ => ((f320  f (x2) (v462) (v464) (v466) (v468) R460.2).bind fun R472 => ((xq_is 15 (x2) R472.2).bind fun _ => ((f358  f (x2) R472.2).bind fun R476 => (if (R476.1) = (R460.1) then (if ¬ (R460.1) = 0 then f2000_1016 xs r23 f (x0) (x1) (x2) (x3) (x4) R476.2 else ((xq_al (x3) (0) R476.2).bind fun v480 => (if (v480) = (R472.1) then f2000_1016 xs r23 f (x0) (x1) (x2) (x3) (x4) R476.2 else (some (0, R476.2))))) else (some (0, R476.2)))))))))))))))) else (if (xand (v104) (31)) = 20 then ((xq_sci xs (xwr ((x4) + (1)))).bind fun v484 => ((xq_is 11 (x1) M).bind fun _ => ((f186  f (x1) (v484) M).bind fun R488 => ((xq_sci xs (xwr ((x4) + (1)))).bind fun v490 => ((xq_is 15 (x2) R488.2).bind fun _ => ((f314  f (x2) (v490) R488.2).bind fun R494 => (if (R488.1) = (R494.1) then f2000_1186 xs r23 f (x0) (x1) (x2) (x3) (x4) R494.2 else (some (0, R494.2))))))))) else (if (xand (v104) (31)) = 21 then ((xq_sci xs (xwr ((x4) + (1)))).bind fun v498 => ((xq_sci xs (xwr ((x4) + (2)))).bind fun v500 => ((xq_is 11 (x1) M).bind fun _ => ((f187  f (x1) (v498) (v500) M).bind fun R504 => ((xq_sci xs (xwr ((x4) + (1)))).bind fun v506 => ((xq_sci xs (xwr ((x4) + (2)))).bind fun v508 => ((xq_is 15 (x2) R504.2).bind fun _ => ((f315  f (x2) (v506) (v508) R504.2).bind fun R512 => (if (R504.1) = (R512.1) then f2000_1186 xs r23 f (x0) (x1) (x2) (x3) (x4) R512.2 else (some (0, R512.2))))))))))) else (if (xand (v104) (31)) = 22 then ((xq_sci xs (xwr ((x4) + (1)))).bind fun v516 => ((xq_is 11 (x1) M).bind fun _ => ((f188  f (x1) (v516) M).bind fun R520 => ((xq_sci xs (xwr ((x4) + (1)))).bind fun v522 => ((xq_is 15 (x2) R520.2).bind fun _ => ((f317  f (x2) (v522) R520.2).bind fun R526 => (if (R520.1) = (R526.1) then f2000_1186 xs r23 f (x0) (x1) (x2) (x3) (x4) R526.2 else (some (0, R526.2))))))))) else (if (xand (v104) (31)) = 23 then ((xq_sci xs (xwr ((x4) + (1)))).bind fun v530 => ((xq_is 11 (x1) M).bind fun _ => ((f189  f (x1) (v530) M).bind fun R534 => ((xq_sci xs (xwr ((x4) + (1)))).bind fun v536 => ((xq_is 15 (x2) R534.2).bind fun _ => ((f326  f (x2) (v536) R534.2).bind fun R540 => (if (R534.1) = (R540.1) then f2000_1186 xs r23 f (x0) (x1) (x2) (x3) (x4) R540.2 else (some (0, R540.2))))))))) else ((xq_sci xs (xwr ((x4) + (1)))).bind fun v544 => ((f1012  f (x1) (v544) (x3) M).bind fun R547 => ((xq_sci xs (xwr ((x4) + (1)))).bind fun v549 => ((xq_is 15 (x2) R547.2).bind fun _ => ((f330  f (x2) (v549) R547.2).bind fun R553 => ((xq_is 15 (x2) R553.2).bind fun _ => ((f358  f (x2) R553.2).bind fun R557 => (if (R557.1) = (R547.1) then (if ¬ (R547.1) = 0 then f2000_1183 xs r23 f (x0) (x1) (x2) (x3) (x4) R557.2 else ((xq_al (x3) (0) R557.2).bind fun v561 => (if (v561) = (R553.1) then f2000_1183 xs r23 f (x0) (x1) (x2) (x3) (x4) R557.2 else (some (0, R557.2))))) else (some (0, R557.2))))))))))))))))))))))))))))))))))))))
theorem k2000_23b {d f : Nat} {xs : List Int32} {r23 : Nat → Nat → Nat → Nat → Int → xj_M → Option (Int × xj_M)}  (hr23 : ∀ {x0 : Nat} {x1 : Nat} {x2 : Nat} {x3 : Nat} {x4 : Int} {M : xj_M} {R : Int × xj_M}, xin x4 → r23 x0 x1 x2 x3 x4 M = some R → xW (d + 260) (none, d + 260, some xs) xr_2000 (23, [(0, xS x0), (1, xR_ x1), (2, xR_ x2), (3, xR_ x3), (4, xI x4)], [], M) (xQi R)) {x0 : Nat} {x1 : Nat} {x2 : Nat} {x3 : Nat} {x4 : Int} {M : xj_M} {R : Int × xj_M} (hx4 : xin x4) (h : f2000_23b xs r23 f x0 x1 x2 x3 x4 M = some R) : xW (d + 260) (none, d + 260, some xs) xr_2000 (23, [(0, xS x0), (1, xR_ x1), (2, xR_ x2), (3, xR_ x3), (4, xI x4)], [], M) (xQi R) := by
  unfold f2000_23b at h
  refine xe_ldn (ins := .iload 4) (len := 2) (by decide +kernel) rfl rfl rfl rfl ?_
  refine xe_ldn (ins := .aload_n 0) (len := 1) (by decide +kernel) rfl rfl rfl rfl ?_
  obtain ⟨v101, e102, h⟩ := xbnd h
  refine xe_scl (n := 0) rfl (by decide +kernel) e102 rfl ?_
  refine xe_bipush (n := 6) (by decide +kernel) (by decide) rfl ?_
  refine xe_isub (by decide +kernel) rfl ?_
  refine xe_icmpgt (off := 1162) (t := 1192) (by decide +kernel) (by decide) rfl hx4 (xin_wr _) (fun c103 => ?_) (fun c103 => ?_)
  · rw [if_pos c103] at h
    refine xe_iconst (n := 1) (by decide +kernel) rfl ?_
    cases h
    exact xe_ret_i (ty := .boolean) (by decide +kernel) rfl (by decide) ⟨rfl, rfl, (show xin (1) by decide)⟩
  · rw [if_neg c103] at h
    refine xe_ldn (ins := .aload_n 0) (len := 1) (by decide +kernel) rfl rfl rfl rfl ?_
    refine xe_ldn (ins := .iload 4) (len := 2) (by decide +kernel) rfl rfl rfl rfl ?_
    obtain ⟨v104, e105, h⟩ := xbnd h
    refine xe_sci (n := 0) rfl (by decide +kernel) hx4 e105 rfl ?_
    refine xe_bipush (n := 31) (by decide +kernel) (by decide) rfl ?_
    refine xe_iand (by decide +kernel) rfl ?_
    by_cases c106 : (xand (v104) (31)) < 0 ∨ 24 < (xand (v104) (31))
    · rw [if_pos c106] at h
      refine xe_ts (dd := 1146) (lo := 0) (hi := 24) (offs := #[116, 189, 214, 227, 240, 253, 266, 279, 292, 317, 385, 464, 477, 544, 557, 624, 692, 772, 851, 888, 979, 1004, 1041, 1066, 1091]) (len := 116) (off := 1146) (t := 1186) (by decide +kernel) (xin_of _) (by rw [if_pos c106]) (by decide) ?_
      refine xW_lv rfl (l := [(0, xS (x0)), (1, xR_ (x1)), (2, xR_ (x2)), (3, xR_ (x3)), (4, xI (x4))]) (xsb_of ⟨rfl, rfl, rfl, rfl, rfl, trivial⟩ (show [0, 1, 2, 3, 4].Nodup by decide)) ?_
      exact k2000_1186  hr23 hx4 h
    · rw [if_neg c106] at h
      by_cases c107 : (xand (v104) (31)) = 0
      · rw [if_pos c107] at h
        refine xe_ts (dd := 1146) (lo := 0) (hi := 24) (offs := #[116, 189, 214, 227, 240, 253, 266, 279, 292, 317, 385, 464, 477, 544, 557, 624, 692, 772, 851, 888, 979, 1004, 1041, 1066, 1091]) (len := 116) (off := 116) (t := 156) (by decide +kernel) (xin_of _) (by rw [if_neg c106, c107]; rfl) (by decide) ?_
        refine xe_alr (ins := .aload_n 1) (len := 1) (i := 1) (by decide +kernel) rfl rfl rfl rfl rfl ?_
        refine xe_ldn (ins := .aload_n 0) (len := 1) (by decide +kernel) rfl rfl rfl rfl ?_
        refine xe_ldn (ins := .iload 4) (len := 2) (by decide +kernel) rfl rfl rfl rfl ?_
        refine xe_iconst (n := 1) (by decide +kernel) rfl ?_
        refine xe_iadd (by decide +kernel) rfl ?_
        obtain ⟨v108, e109, h⟩ := xbnd h
        refine xe_sci (n := 0) rfl (by decide +kernel) (xin_wr _) e109 rfl ?_
        refine xe_ldn (ins := .aload_n 0) (len := 1) (by decide +kernel) rfl rfl rfl rfl ?_
        refine xe_ldn (ins := .iload 4) (len := 2) (by decide +kernel) rfl rfl rfl rfl ?_
        refine xe_iconst (n := 2) (by decide +kernel) rfl ?_
        refine xe_iadd (by decide +kernel) rfl ?_
        obtain ⟨v110, e111, h⟩ := xbnd h
        refine xe_sci (n := 0) rfl (by decide +kernel) (xin_wr _) e111 rfl ?_
        refine xe_ldn (ins := .aload_n 0) (len := 1) (by decide +kernel) rfl rfl rfl rfl ?_
        refine xe_ldn (ins := .iload 4) (len := 2) (by decide +kernel) rfl rfl rfl rfl ?_
        refine xe_iconst (n := 3) (by decide +kernel) rfl ?_
        refine xe_iadd (by decide +kernel) rfl ?_
        obtain ⟨v112, e113, h⟩ := xbnd h
        refine xe_sci (n := 0) rfl (by decide +kernel) (xin_wr _) e113 rfl ?_
        refine xe_ldn (ins := .aload_n 0) (len := 1) (by decide +kernel) rfl rfl rfl rfl ?_
        refine xe_ldn (ins := .iload 4) (len := 2) (by decide +kernel) rfl rfl rfl rfl ?_
        refine xe_iconst (n := 4) (by decide +kernel) rfl ?_
        refine xe_iadd (by decide +kernel) rfl ?_
        obtain ⟨v114, e115, h⟩ := xbnd h
        refine xe_sci (n := 0) rfl (by decide +kernel) (xin_wr _) e115 rfl ?_
        refine xe_ldn (ins := .aload_n 0) (len := 1) (by decide +kernel) rfl rfl rfl rfl ?_
        refine xe_ldn (ins := .iload 4) (len := 2) (by decide +kernel) rfl rfl rfl rfl ?_
        refine xe_iconst (n := 5) (by decide +kernel) rfl ?_
        refine xe_iadd (by decide +kernel) rfl ?_
        obtain ⟨v116, e117, h⟩ := xbnd h
        refine xe_sci (n := 0) rfl (by decide +kernel) (xin_wr _) e117 rfl ?_
        obtain ⟨_, e119, h⟩ := xbnd h
        obtain ⟨R120, e118, h⟩ := xbnd h
        refine xs_cv (i := 48) (j := 169) (ar := [xI (v116), xI (v114), xI (v112), xI (v110), xI (v108)]) (rest := []) (r2 := xr_169) (by decide +kernel) (by decide +kernel) (by decide +kernel) xr_169_e rfl (by decide) (by decide) e119 ?_
        refine xc_i (k169 (d := d + 258)  (xq_sci_in e109) (xq_sci_in e111) (xq_sci_in e113) (xq_sci_in e115) (xq_sci_in e117) e118) rfl (fun hi121 => ?_)
        refine xe_alr (ins := .aload_n 2) (len := 1) (i := 2) (by decide +kernel) rfl rfl rfl rfl rfl ?_
        refine xe_ldn (ins := .aload_n 0) (len := 1) (by decide +kernel) rfl rfl rfl rfl ?_
        refine xe_ldn (ins := .iload 4) (len := 2) (by decide +kernel) rfl rfl rfl rfl ?_
        refine xe_iconst (n := 1) (by decide +kernel) rfl ?_
        refine xe_iadd (by decide +kernel) rfl ?_
        obtain ⟨v122, e123, h⟩ := xbnd h
        refine xe_sci (n := 0) rfl (by decide +kernel) (xin_wr _) e123 rfl ?_
        refine xe_ldn (ins := .aload_n 0) (len := 1) (by decide +kernel) rfl rfl rfl rfl ?_
        refine xe_ldn (ins := .iload 4) (len := 2) (by decide +kernel) rfl rfl rfl rfl ?_
        refine xe_iconst (n := 2) (by decide +kernel) rfl ?_
        refine xe_iadd (by decide +kernel) rfl ?_
        obtain ⟨v124, e125, h⟩ := xbnd h
        refine xe_sci (n := 0) rfl (by decide +kernel) (xin_wr _) e125 rfl ?_
        refine xe_ldn (ins := .aload_n 0) (len := 1) (by decide +kernel) rfl rfl rfl rfl ?_
        refine xe_ldn (ins := .iload 4) (len := 2) (by decide +kernel) rfl rfl rfl rfl ?_
        refine xe_iconst (n := 3) (by decide +kernel) rfl ?_
        refine xe_iadd (by decide +kernel) rfl ?_
        obtain ⟨v126, e127, h⟩ := xbnd h
        refine xe_sci (n := 0) rfl (by decide +kernel) (xin_wr _) e127 rfl ?_
        refine xe_ldn (ins := .aload_n 0) (len := 1) (by decide +kernel) rfl rfl rfl rfl ?_
        refine xe_ldn (ins := .iload 4) (len := 2) (by decide +kernel) rfl rfl rfl rfl ?_
        refine xe_iconst (n := 4) (by decide +kernel) rfl ?_
        refine xe_iadd (by decide +kernel) rfl ?_
        obtain ⟨v128, e129, h⟩ := xbnd h
        refine xe_sci (n := 0) rfl (by decide +kernel) (xin_wr _) e129 rfl ?_
        refine xe_ldn (ins := .aload_n 0) (len := 1) (by decide +kernel) rfl rfl rfl rfl ?_
        refine xe_ldn (ins := .iload 4) (len := 2) (by decide +kernel) rfl rfl rfl rfl ?_
        refine xe_iconst (n := 5) (by decide +kernel) rfl ?_
        refine xe_iadd (by decide +kernel) rfl ?_
        obtain ⟨v130, e131, h⟩ := xbnd h
        refine xe_sci (n := 0) rfl (by decide +kernel) (xin_wr _) e131 rfl ?_
        obtain ⟨_, e133, h⟩ := xbnd h
        obtain ⟨R134, e132, h⟩ := xbnd h
        refine xs_cv (i := 52) (j := 359) (ar := [xI (v130), xI (v128), xI (v126), xI (v124), xI (v122)]) (rest := [xI (R120.1)]) (r2 := xr_359) (by decide +kernel) (by decide +kernel) (by decide +kernel) xr_359_e rfl (by decide) (by simp only [List.map_cons, List.map_nil, List.sum_cons, List.sum_nil, xR_cat, xI_cat, xZ_cat]; decide) e133 ?_
        refine xc_i (k359 (d := d + 259)  (xq_sci_in e123) (xq_sci_in e125) (xq_sci_in e127) (xq_sci_in e129) (xq_sci_in e131) e132) rfl (fun hi135 => ?_)
        refine xe_icmpeq (off := 962) (t := 1186) (by decide +kernel) (by decide) rfl hi121 hi135 (fun c136 => ?_) (fun c136 => ?_)
        · rw [if_pos c136] at h
          refine xW_lv rfl (l := [(0, xS (x0)), (1, xR_ (x1)), (2, xR_ (x2)), (3, xR_ (x3)), (4, xI (x4))]) (xsb_of ⟨rfl, rfl, rfl, rfl, rfl, trivial⟩ (show [0, 1, 2, 3, 4].Nodup by decide)) ?_
          exact k2000_1186  hr23 hx4 h
        · rw [if_neg c136] at h
          refine xe_iconst (n := 0) (by decide +kernel) rfl ?_
          cases h
          exact xe_ret_i (ty := .boolean) (by decide +kernel) rfl (by decide) ⟨rfl, rfl, (show xin (0) by decide)⟩
      · rw [if_neg c107] at h
        by_cases c137 : (xand (v104) (31)) = 1
        · rw [if_pos c137] at h
          refine xe_ts (dd := 1146) (lo := 0) (hi := 24) (offs := #[116, 189, 214, 227, 240, 253, 266, 279, 292, 317, 385, 464, 477, 544, 557, 624, 692, 772, 851, 888, 979, 1004, 1041, 1066, 1091]) (len := 116) (off := 189) (t := 229) (by decide +kernel) (xin_of _) (by rw [if_neg c106, c137]; rfl) (by decide) ?_
          refine xe_alr (ins := .aload_n 1) (len := 1) (i := 1) (by decide +kernel) rfl rfl rfl rfl rfl ?_
          refine xe_ldn (ins := .aload_n 0) (len := 1) (by decide +kernel) rfl rfl rfl rfl ?_
          refine xe_ldn (ins := .iload 4) (len := 2) (by decide +kernel) rfl rfl rfl rfl ?_
          refine xe_iconst (n := 1) (by decide +kernel) rfl ?_
          refine xe_iadd (by decide +kernel) rfl ?_
          obtain ⟨v138, e139, h⟩ := xbnd h
          refine xe_sci (n := 0) rfl (by decide +kernel) (xin_wr _) e139 rfl ?_
          obtain ⟨_, e141, h⟩ := xbnd h
          obtain ⟨R142, e140, h⟩ := xbnd h
          refine xs_cv (i := 53) (j := 170) (ar := [xI (v138)]) (rest := []) (r2 := xr_170) (by decide +kernel) (by decide +kernel) (by decide +kernel) xr_170_e rfl (by decide) (by decide) e141 ?_
          refine xc_i (k170 (d := d + 259)  (xq_sci_in e139) e140) rfl (fun hi143 => ?_)
          refine xe_alr (ins := .aload_n 2) (len := 1) (i := 2) (by decide +kernel) rfl rfl rfl rfl rfl ?_
          refine xe_ldn (ins := .aload_n 0) (len := 1) (by decide +kernel) rfl rfl rfl rfl ?_
          refine xe_ldn (ins := .iload 4) (len := 2) (by decide +kernel) rfl rfl rfl rfl ?_
          refine xe_iconst (n := 1) (by decide +kernel) rfl ?_
          refine xe_iadd (by decide +kernel) rfl ?_
          obtain ⟨v144, e145, h⟩ := xbnd h
          refine xe_sci (n := 0) rfl (by decide +kernel) (xin_wr _) e145 rfl ?_
          obtain ⟨_, e147, h⟩ := xbnd h
          obtain ⟨R148, e146, h⟩ := xbnd h
          refine xs_cv (i := 57) (j := 360) (ar := [xI (v144)]) (rest := [xI (R142.1)]) (r2 := xr_360) (by decide +kernel) (by decide +kernel) (by decide +kernel) xr_360_e rfl (by decide) (by simp only [List.map_cons, List.map_nil, List.sum_cons, List.sum_nil, xR_cat, xI_cat, xZ_cat]; decide) e147 ?_
          refine xc_i (k360 (d := d + 259)  (xq_sci_in e145) e146) rfl (fun hi149 => ?_)
          refine xe_icmpeq (off := 937) (t := 1186) (by decide +kernel) (by decide) rfl hi143 hi149 (fun c150 => ?_) (fun c150 => ?_)
          · rw [if_pos c150] at h
            refine xW_lv rfl (l := [(0, xS (x0)), (1, xR_ (x1)), (2, xR_ (x2)), (3, xR_ (x3)), (4, xI (x4))]) (xsb_of ⟨rfl, rfl, rfl, rfl, rfl, trivial⟩ (show [0, 1, 2, 3, 4].Nodup by decide)) ?_
            exact k2000_1186  hr23 hx4 h
          · rw [if_neg c150] at h
            refine xe_iconst (n := 0) (by decide +kernel) rfl ?_
            cases h
            exact xe_ret_i (ty := .boolean) (by decide +kernel) rfl (by decide) ⟨rfl, rfl, (show xin (0) by decide)⟩
        · rw [if_neg c137] at h
          by_cases c151 : (xand (v104) (31)) = 2
          · rw [if_pos c151] at h
            refine xe_ts (dd := 1146) (lo := 0) (hi := 24) (offs := #[116, 189, 214, 227, 240, 253, 266, 279, 292, 317, 385, 464, 477, 544, 557, 624, 692, 772, 851, 888, 979, 1004, 1041, 1066, 1091]) (len := 116) (off := 214) (t := 254) (by decide +kernel) (xin_of _) (by rw [if_neg c106, c151]; rfl) (by decide) ?_
            refine xe_alr (ins := .aload_n 1) (len := 1) (i := 1) (by decide +kernel) rfl rfl rfl rfl rfl ?_
            obtain ⟨_, e153, h⟩ := xbnd h
            obtain ⟨R154, e152, h⟩ := xbnd h
            refine xs2_cv (kd := 10) (jj := 1000) (by decide) (i := 58) (j := 0) (ar := []) (rest := []) (r2 := xr_1000) (by decide +kernel) (by decide +kernel) (by decide +kernel) xr_1000_e rfl (by decide) (by decide) e153 ?_
            refine xc2_i (k1000 (d := d + 247)   e152) rfl (fun hi155 => ?_)
            refine xe_alr (ins := .aload_n 2) (len := 1) (i := 2) (by decide +kernel) rfl rfl rfl rfl rfl ?_
            obtain ⟨_, e157, h⟩ := xbnd h
            obtain ⟨R158, e156, h⟩ := xbnd h
            refine xs_cv (i := 62) (j := 363) (ar := []) (rest := [xI (R154.1)]) (r2 := xr_363) (by decide +kernel) (by decide +kernel) (by decide +kernel) xr_363_e rfl (by decide) (by simp only [List.map_cons, List.map_nil, List.sum_cons, List.sum_nil, xR_cat, xI_cat, xZ_cat]; decide) e157 ?_
            refine xc_i (k363 (d := d + 148)   e156) rfl (fun hi159 => ?_)
            refine xe_icmpeq (off := 924) (t := 1186) (by decide +kernel) (by decide) rfl hi155 hi159 (fun c160 => ?_) (fun c160 => ?_)
            · rw [if_pos c160] at h
              refine xW_lv rfl (l := [(0, xS (x0)), (1, xR_ (x1)), (2, xR_ (x2)), (3, xR_ (x3)), (4, xI (x4))]) (xsb_of ⟨rfl, rfl, rfl, rfl, rfl, trivial⟩ (show [0, 1, 2, 3, 4].Nodup by decide)) ?_
              exact k2000_1186  hr23 hx4 h
            · rw [if_neg c160] at h
              refine xe_iconst (n := 0) (by decide +kernel) rfl ?_
              cases h
              exact xe_ret_i (ty := .boolean) (by decide +kernel) rfl (by decide) ⟨rfl, rfl, (show xin (0) by decide)⟩
          · rw [if_neg c151] at h
            by_cases c161 : (xand (v104) (31)) = 3
            · rw [if_pos c161] at h
              refine xe_ts (dd := 1146) (lo := 0) (hi := 24) (offs := #[116, 189, 214, 227, 240, 253, 266, 279, 292, 317, 385, 464, 477, 544, 557, 624, 692, 772, 851, 888, 979, 1004, 1041, 1066, 1091]) (len := 116) (off := 227) (t := 267) (by decide +kernel) (xin_of _) (by rw [if_neg c106, c161]; rfl) (by decide) ?_
              refine xe_alr (ins := .aload_n 1) (len := 1) (i := 1) (by decide +kernel) rfl rfl rfl rfl rfl ?_
              obtain ⟨_, e163, h⟩ := xbnd h
              obtain ⟨R164, e162, h⟩ := xbnd h
              refine xs_cv (i := 63) (j := 171) (ar := []) (rest := []) (r2 := xr_171) (by decide +kernel) (by decide +kernel) (by decide +kernel) xr_171_e rfl (by decide) (by decide) e163 ?_
              refine xc_i (k171 (d := d + 259)   e162) rfl (fun hi165 => ?_)
              refine xe_alr (ins := .aload_n 2) (len := 1) (i := 2) (by decide +kernel) rfl rfl rfl rfl rfl ?_
              obtain ⟨_, e167, h⟩ := xbnd h
              obtain ⟨R168, e166, h⟩ := xbnd h
              refine xs_cv (i := 66) (j := 364) (ar := []) (rest := [xI (R164.1)]) (r2 := xr_364) (by decide +kernel) (by decide +kernel) (by decide +kernel) xr_364_e rfl (by decide) (by simp only [List.map_cons, List.map_nil, List.sum_cons, List.sum_nil, xR_cat, xI_cat, xZ_cat]; decide) e167 ?_
              refine xc_i (k364 (d := d + 259)   e166) rfl (fun hi169 => ?_)
              refine xe_icmpeq (off := 911) (t := 1186) (by decide +kernel) (by decide) rfl hi165 hi169 (fun c170 => ?_) (fun c170 => ?_)
              · rw [if_pos c170] at h
                refine xW_lv rfl (l := [(0, xS (x0)), (1, xR_ (x1)), (2, xR_ (x2)), (3, xR_ (x3)), (4, xI (x4))]) (xsb_of ⟨rfl, rfl, rfl, rfl, rfl, trivial⟩ (show [0, 1, 2, 3, 4].Nodup by decide)) ?_
                exact k2000_1186  hr23 hx4 h
              · rw [if_neg c170] at h
                refine xe_iconst (n := 0) (by decide +kernel) rfl ?_
                cases h
                exact xe_ret_i (ty := .boolean) (by decide +kernel) rfl (by decide) ⟨rfl, rfl, (show xin (0) by decide)⟩
            · rw [if_neg c161] at h
              by_cases c171 : (xand (v104) (31)) = 4
              · rw [if_pos c171] at h
                refine xe_ts (dd := 1146) (lo := 0) (hi := 24) (offs := #[116, 189, 214, 227, 240, 253, 266, 279, 292, 317, 385, 464, 477, 544, 557, 624, 692, 772, 851, 888, 979, 1004, 1041, 1066, 1091]) (len := 116) (off := 240) (t := 280) (by decide +kernel) (xin_of _) (by rw [if_neg c106, c171]; rfl) (by decide) ?_
                refine xe_alr (ins := .aload_n 1) (len := 1) (i := 1) (by decide +kernel) rfl rfl rfl rfl rfl ?_
                obtain ⟨_, e173, h⟩ := xbnd h
                obtain ⟨R174, e172, h⟩ := xbnd h
                refine xs2_cv (kd := 10) (jj := 1001) (by decide) (i := 67) (j := 1) (ar := []) (rest := []) (r2 := xr_1001) (by decide +kernel) (by decide +kernel) (by decide +kernel) xr_1001_e rfl (by decide) (by decide) e173 ?_
                refine xc2_i (k1001 (d := d + 251)   e172) rfl (fun hi175 => ?_)
                refine xe_alr (ins := .aload_n 2) (len := 1) (i := 2) (by decide +kernel) rfl rfl rfl rfl rfl ?_
                obtain ⟨_, e177, h⟩ := xbnd h
                obtain ⟨R178, e176, h⟩ := xbnd h
                refine xs_cv (i := 70) (j := 365) (ar := []) (rest := [xI (R174.1)]) (r2 := xr_365) (by decide +kernel) (by decide +kernel) (by decide +kernel) xr_365_e rfl (by decide) (by simp only [List.map_cons, List.map_nil, List.sum_cons, List.sum_nil, xR_cat, xI_cat, xZ_cat]; decide) e177 ?_
                refine xc_i (k365 (d := d + 148)   e176) rfl (fun hi179 => ?_)
                refine xe_icmpeq (off := 898) (t := 1186) (by decide +kernel) (by decide) rfl hi175 hi179 (fun c180 => ?_) (fun c180 => ?_)
                · rw [if_pos c180] at h
                  refine xW_lv rfl (l := [(0, xS (x0)), (1, xR_ (x1)), (2, xR_ (x2)), (3, xR_ (x3)), (4, xI (x4))]) (xsb_of ⟨rfl, rfl, rfl, rfl, rfl, trivial⟩ (show [0, 1, 2, 3, 4].Nodup by decide)) ?_
                  exact k2000_1186  hr23 hx4 h
                · rw [if_neg c180] at h
                  refine xe_iconst (n := 0) (by decide +kernel) rfl ?_
                  cases h
                  exact xe_ret_i (ty := .boolean) (by decide +kernel) rfl (by decide) ⟨rfl, rfl, (show xin (0) by decide)⟩
              · rw [if_neg c171] at h
                by_cases c181 : (xand (v104) (31)) = 5
                · rw [if_pos c181] at h
                  refine xe_ts (dd := 1146) (lo := 0) (hi := 24) (offs := #[116, 189, 214, 227, 240, 253, 266, 279, 292, 317, 385, 464, 477, 544, 557, 624, 692, 772, 851, 888, 979, 1004, 1041, 1066, 1091]) (len := 116) (off := 253) (t := 293) (by decide +kernel) (xin_of _) (by rw [if_neg c106, c181]; rfl) (by decide) ?_
                  refine xe_alr (ins := .aload_n 1) (len := 1) (i := 1) (by decide +kernel) rfl rfl rfl rfl rfl ?_
                  obtain ⟨_, e183, h⟩ := xbnd h
                  obtain ⟨R184, e182, h⟩ := xbnd h
                  refine xs2_cv (kd := 10) (jj := 1002) (by decide) (i := 71) (j := 2) (ar := []) (rest := []) (r2 := xr_1002) (by decide +kernel) (by decide +kernel) (by decide +kernel) xr_1002_e rfl (by decide) (by decide) e183 ?_
                  refine xc2_i (k1002 (d := d + 249)   e182) rfl (fun hi185 => ?_)
                  refine xe_alr (ins := .aload_n 2) (len := 1) (i := 2) (by decide +kernel) rfl rfl rfl rfl rfl ?_
                  obtain ⟨_, e187, h⟩ := xbnd h
                  obtain ⟨R188, e186, h⟩ := xbnd h
                  refine xs_cv (i := 74) (j := 356) (ar := []) (rest := [xI (R184.1)]) (r2 := xr_356) (by decide +kernel) (by decide +kernel) (by decide +kernel) xr_356_e rfl (by decide) (by simp only [List.map_cons, List.map_nil, List.sum_cons, List.sum_nil, xR_cat, xI_cat, xZ_cat]; decide) e187 ?_
                  refine xc_i (k356 (d := d + 154)   e186) rfl (fun hi189 => ?_)
                  refine xe_icmpeq (off := 885) (t := 1186) (by decide +kernel) (by decide) rfl hi185 hi189 (fun c190 => ?_) (fun c190 => ?_)
                  · rw [if_pos c190] at h
                    refine xW_lv rfl (l := [(0, xS (x0)), (1, xR_ (x1)), (2, xR_ (x2)), (3, xR_ (x3)), (4, xI (x4))]) (xsb_of ⟨rfl, rfl, rfl, rfl, rfl, trivial⟩ (show [0, 1, 2, 3, 4].Nodup by decide)) ?_
                    exact k2000_1186  hr23 hx4 h
                  · rw [if_neg c190] at h
                    refine xe_iconst (n := 0) (by decide +kernel) rfl ?_
                    cases h
                    exact xe_ret_i (ty := .boolean) (by decide +kernel) rfl (by decide) ⟨rfl, rfl, (show xin (0) by decide)⟩
                · rw [if_neg c181] at h
                  by_cases c191 : (xand (v104) (31)) = 6
                  · rw [if_pos c191] at h
                    refine xe_ts (dd := 1146) (lo := 0) (hi := 24) (offs := #[116, 189, 214, 227, 240, 253, 266, 279, 292, 317, 385, 464, 477, 544, 557, 624, 692, 772, 851, 888, 979, 1004, 1041, 1066, 1091]) (len := 116) (off := 266) (t := 306) (by decide +kernel) (xin_of _) (by rw [if_neg c106, c191]; rfl) (by decide) ?_
                    refine xe_alr (ins := .aload_n 1) (len := 1) (i := 1) (by decide +kernel) rfl rfl rfl rfl rfl ?_
                    obtain ⟨_, e193, h⟩ := xbnd h
                    obtain ⟨R194, e192, h⟩ := xbnd h
                    refine xs_cv (i := 75) (j := 172) (ar := []) (rest := []) (r2 := xr_172) (by decide +kernel) (by decide +kernel) (by decide +kernel) xr_172_e rfl (by decide) (by decide) e193 ?_
                    refine xc_i (k172 (d := d + 258)   e192) rfl (fun hi195 => ?_)
                    refine xe_alr (ins := .aload_n 2) (len := 1) (i := 2) (by decide +kernel) rfl rfl rfl rfl rfl ?_
                    obtain ⟨_, e197, h⟩ := xbnd h
                    obtain ⟨R198, e196, h⟩ := xbnd h
                    refine xs_cv (i := 78) (j := 367) (ar := []) (rest := [xI (R194.1)]) (r2 := xr_367) (by decide +kernel) (by decide +kernel) (by decide +kernel) xr_367_e rfl (by decide) (by simp only [List.map_cons, List.map_nil, List.sum_cons, List.sum_nil, xR_cat, xI_cat, xZ_cat]; decide) e197 ?_
                    refine xc_i (k367 (d := d + 258)   e196) rfl (fun hi199 => ?_)
                    refine xe_icmpeq (off := 872) (t := 1186) (by decide +kernel) (by decide) rfl hi195 hi199 (fun c200 => ?_) (fun c200 => ?_)
                    · rw [if_pos c200] at h
                      refine xW_lv rfl (l := [(0, xS (x0)), (1, xR_ (x1)), (2, xR_ (x2)), (3, xR_ (x3)), (4, xI (x4))]) (xsb_of ⟨rfl, rfl, rfl, rfl, rfl, trivial⟩ (show [0, 1, 2, 3, 4].Nodup by decide)) ?_
                      exact k2000_1186  hr23 hx4 h
                    · rw [if_neg c200] at h
                      refine xe_iconst (n := 0) (by decide +kernel) rfl ?_
                      cases h
                      exact xe_ret_i (ty := .boolean) (by decide +kernel) rfl (by decide) ⟨rfl, rfl, (show xin (0) by decide)⟩
                  · rw [if_neg c191] at h
                    by_cases c201 : (xand (v104) (31)) = 7
                    · rw [if_pos c201] at h
                      refine xe_ts (dd := 1146) (lo := 0) (hi := 24) (offs := #[116, 189, 214, 227, 240, 253, 266, 279, 292, 317, 385, 464, 477, 544, 557, 624, 692, 772, 851, 888, 979, 1004, 1041, 1066, 1091]) (len := 116) (off := 279) (t := 319) (by decide +kernel) (xin_of _) (by rw [if_neg c106, c201]; rfl) (by decide) ?_
                      refine xe_alr (ins := .aload_n 1) (len := 1) (i := 1) (by decide +kernel) rfl rfl rfl rfl rfl ?_
                      obtain ⟨_, e203, h⟩ := xbnd h
                      obtain ⟨R204, e202, h⟩ := xbnd h
                      refine xs_cv (i := 79) (j := 173) (ar := []) (rest := []) (r2 := xr_173) (by decide +kernel) (by decide +kernel) (by decide +kernel) xr_173_e rfl (by decide) (by decide) e203 ?_
                      refine xc_i (k173 (d := d + 252)   e202) rfl (fun hi205 => ?_)
                      refine xe_alr (ins := .aload_n 2) (len := 1) (i := 2) (by decide +kernel) rfl rfl rfl rfl rfl ?_
                      obtain ⟨_, e207, h⟩ := xbnd h
                      obtain ⟨R208, e206, h⟩ := xbnd h
                      refine xs_cv (i := 82) (j := 298) (ar := []) (rest := [xI (R204.1)]) (r2 := xr_298) (by decide +kernel) (by decide +kernel) (by decide +kernel) xr_298_e rfl (by decide) (by simp only [List.map_cons, List.map_nil, List.sum_cons, List.sum_nil, xR_cat, xI_cat, xZ_cat]; decide) e207 ?_
                      refine xc_i (k298 (d := d + 0)   e206) rfl (fun hi209 => ?_)
                      refine xe_icmpeq (off := 859) (t := 1186) (by decide +kernel) (by decide) rfl hi205 hi209 (fun c210 => ?_) (fun c210 => ?_)
                      · rw [if_pos c210] at h
                        refine xW_lv rfl (l := [(0, xS (x0)), (1, xR_ (x1)), (2, xR_ (x2)), (3, xR_ (x3)), (4, xI (x4))]) (xsb_of ⟨rfl, rfl, rfl, rfl, rfl, trivial⟩ (show [0, 1, 2, 3, 4].Nodup by decide)) ?_
                        exact k2000_1186  hr23 hx4 h
                      · rw [if_neg c210] at h
                        refine xe_iconst (n := 0) (by decide +kernel) rfl ?_
                        cases h
                        exact xe_ret_i (ty := .boolean) (by decide +kernel) rfl (by decide) ⟨rfl, rfl, (show xin (0) by decide)⟩
                    · rw [if_neg c201] at h
                      by_cases c211 : (xand (v104) (31)) = 8
                      · rw [if_pos c211] at h
                        refine xe_ts (dd := 1146) (lo := 0) (hi := 24) (offs := #[116, 189, 214, 227, 240, 253, 266, 279, 292, 317, 385, 464, 477, 544, 557, 624, 692, 772, 851, 888, 979, 1004, 1041, 1066, 1091]) (len := 116) (off := 292) (t := 332) (by decide +kernel) (xin_of _) (by rw [if_neg c106, c211]; rfl) (by decide) ?_
                        refine xe_alr (ins := .aload_n 1) (len := 1) (i := 1) (by decide +kernel) rfl rfl rfl rfl rfl ?_
                        refine xe_ldn (ins := .aload_n 0) (len := 1) (by decide +kernel) rfl rfl rfl rfl ?_
                        refine xe_ldn (ins := .iload 4) (len := 2) (by decide +kernel) rfl rfl rfl rfl ?_
                        refine xe_iconst (n := 1) (by decide +kernel) rfl ?_
                        refine xe_iadd (by decide +kernel) rfl ?_
                        obtain ⟨v212, e213, h⟩ := xbnd h
                        refine xe_sci (n := 0) rfl (by decide +kernel) (xin_wr _) e213 rfl ?_
                        obtain ⟨_, e215, h⟩ := xbnd h
                        obtain ⟨R216, e214, h⟩ := xbnd h
                        refine xs_cv (i := 83) (j := 174) (ar := [xI (v212)]) (rest := []) (r2 := xr_174) (by decide +kernel) (by decide +kernel) (by decide +kernel) xr_174_e rfl (by decide) (by decide) e215 ?_
                        refine xc_i (k174 (d := d + 258)  (xq_sci_in e213) e214) rfl (fun hi217 => ?_)
                        refine xe_alr (ins := .aload_n 2) (len := 1) (i := 2) (by decide +kernel) rfl rfl rfl rfl rfl ?_
                        refine xe_ldn (ins := .aload_n 0) (len := 1) (by decide +kernel) rfl rfl rfl rfl ?_
                        refine xe_ldn (ins := .iload 4) (len := 2) (by decide +kernel) rfl rfl rfl rfl ?_
                        refine xe_iconst (n := 1) (by decide +kernel) rfl ?_
                        refine xe_iadd (by decide +kernel) rfl ?_
                        obtain ⟨v218, e219, h⟩ := xbnd h
                        refine xe_sci (n := 0) rfl (by decide +kernel) (xin_wr _) e219 rfl ?_
                        obtain ⟨_, e221, h⟩ := xbnd h
                        obtain ⟨R222, e220, h⟩ := xbnd h
                        refine xs_cv (i := 87) (j := 377) (ar := [xI (v218)]) (rest := [xI (R216.1)]) (r2 := xr_377) (by decide +kernel) (by decide +kernel) (by decide +kernel) xr_377_e rfl (by decide) (by simp only [List.map_cons, List.map_nil, List.sum_cons, List.sum_nil, xR_cat, xI_cat, xZ_cat]; decide) e221 ?_
                        refine xc_i (k377 (d := d + 146)  (xq_sci_in e219) e220) rfl (fun hi223 => ?_)
                        refine xe_icmpeq (off := 834) (t := 1186) (by decide +kernel) (by decide) rfl hi217 hi223 (fun c224 => ?_) (fun c224 => ?_)
                        · rw [if_pos c224] at h
                          refine xW_lv rfl (l := [(0, xS (x0)), (1, xR_ (x1)), (2, xR_ (x2)), (3, xR_ (x3)), (4, xI (x4))]) (xsb_of ⟨rfl, rfl, rfl, rfl, rfl, trivial⟩ (show [0, 1, 2, 3, 4].Nodup by decide)) ?_
                          exact k2000_1186  hr23 hx4 h
                        · rw [if_neg c224] at h
                          refine xe_iconst (n := 0) (by decide +kernel) rfl ?_
                          cases h
                          exact xe_ret_i (ty := .boolean) (by decide +kernel) rfl (by decide) ⟨rfl, rfl, (show xin (0) by decide)⟩
                      · rw [if_neg c211] at h
                        by_cases c225 : (xand (v104) (31)) = 9
                        · rw [if_pos c225] at h
                          refine xe_ts (dd := 1146) (lo := 0) (hi := 24) (offs := #[116, 189, 214, 227, 240, 253, 266, 279, 292, 317, 385, 464, 477, 544, 557, 624, 692, 772, 851, 888, 979, 1004, 1041, 1066, 1091]) (len := 116) (off := 317) (t := 357) (by decide +kernel) (xin_of _) (by rw [if_neg c106, c225]; rfl) (by decide) ?_
                          refine xe_alr (ins := .aload_n 1) (len := 1) (i := 1) (by decide +kernel) rfl rfl rfl rfl rfl ?_
                          refine xe_ldn (ins := .aload_n 0) (len := 1) (by decide +kernel) rfl rfl rfl rfl ?_
                          refine xe_ldn (ins := .iload 4) (len := 2) (by decide +kernel) rfl rfl rfl rfl ?_
                          refine xe_iconst (n := 1) (by decide +kernel) rfl ?_
                          refine xe_iadd (by decide +kernel) rfl ?_
                          obtain ⟨v226, e227, h⟩ := xbnd h
                          refine xe_sci (n := 0) rfl (by decide +kernel) (xin_wr _) e227 rfl ?_
                          refine xe_ldn (ins := .aload_n 0) (len := 1) (by decide +kernel) rfl rfl rfl rfl ?_
                          refine xe_ldn (ins := .iload 4) (len := 2) (by decide +kernel) rfl rfl rfl rfl ?_
                          refine xe_iconst (n := 2) (by decide +kernel) rfl ?_
                          refine xe_iadd (by decide +kernel) rfl ?_
                          obtain ⟨v228, e229, h⟩ := xbnd h
                          refine xe_sci (n := 0) rfl (by decide +kernel) (xin_wr _) e229 rfl ?_
                          refine xe_alr (ins := .aload_n 3) (len := 1) (i := 3) (by decide +kernel) rfl rfl rfl rfl rfl ?_
                          obtain ⟨R231, e230, h⟩ := xbnd h
                          refine xs2_cs (kd := 11) (jj := 1004) (by decide) (i := 88) (j := 4) (ar := [xR_ (x3), xI (v228), xI (v226), xR_ (x1)]) (rest := []) (r2 := xr_1004) (by decide +kernel) (by decide +kernel) (by decide +kernel) xr_1004_e rfl (by decide) ?_
                          refine xc2_i (k1004 (d := d + 253)  (xq_sci_in e227) (xq_sci_in e229) e230) rfl (fun hi232 => ?_)
                          refine xe_isr (ins := .istore 5) (len := 2) (i := 5) (by decide +kernel) rfl rfl rfl (by decide) (xk_k (show ¬ (0 : Nat) = 5 by decide) (Or.inl (show ¬ (0 + 1 : Nat) = 5 by decide)) (xk_k (show ¬ (1 : Nat) = 5 by decide) (Or.inl (show ¬ (1 + 1 : Nat) = 5 by decide)) (xk_k (show ¬ (2 : Nat) = 5 by decide) (Or.inl (show ¬ (2 + 1 : Nat) = 5 by decide)) (xk_k (show ¬ (3 : Nat) = 5 by decide) (Or.inl (show ¬ (3 + 1 : Nat) = 5 by decide)) (xk_k (show ¬ (4 : Nat) = 5 by decide) (Or.inr (xI_cat _)) xk_n))))) rfl ?_
                          refine xe_alr (ins := .aload_n 2) (len := 1) (i := 2) (by decide +kernel) rfl rfl rfl rfl rfl ?_
                          refine xe_ldn (ins := .aload_n 0) (len := 1) (by decide +kernel) rfl rfl rfl rfl ?_
                          refine xe_ldn (ins := .iload 4) (len := 2) (by decide +kernel) rfl rfl rfl rfl ?_
                          refine xe_iconst (n := 1) (by decide +kernel) rfl ?_
                          refine xe_iadd (by decide +kernel) rfl ?_
                          obtain ⟨v233, e234, h⟩ := xbnd h
                          refine xe_sci (n := 0) rfl (by decide +kernel) (xin_wr _) e234 rfl ?_
                          refine xe_ldn (ins := .aload_n 0) (len := 1) (by decide +kernel) rfl rfl rfl rfl ?_
                          refine xe_ldn (ins := .iload 4) (len := 2) (by decide +kernel) rfl rfl rfl rfl ?_
                          refine xe_iconst (n := 2) (by decide +kernel) rfl ?_
                          refine xe_iadd (by decide +kernel) rfl ?_
                          obtain ⟨v235, e236, h⟩ := xbnd h
                          refine xe_sci (n := 0) rfl (by decide +kernel) (xin_wr _) e236 rfl ?_
                          obtain ⟨_, e238, h⟩ := xbnd h
                          obtain ⟨R239, e237, h⟩ := xbnd h
                          refine xs_cv (i := 93) (j := 378) (ar := [xI (v235), xI (v233)]) (rest := []) (r2 := xr_378) (by decide +kernel) (by decide +kernel) (by decide +kernel) xr_378_e rfl (by decide) (by decide) e238 ?_
                          refine xc_i (k378 (d := d + 146)  (xq_sci_in e234) (xq_sci_in e236) e237) rfl (fun hi240 => ?_)
                          refine xe_isr (ins := .istore 6) (len := 2) (i := 6) (by decide +kernel) rfl rfl rfl (by decide) (xk_k (show ¬ (5 : Nat) = 6 by decide) (Or.inr (xI_cat _)) (xk_k (show ¬ (0 : Nat) = 6 by decide) (Or.inl (show ¬ (0 + 1 : Nat) = 6 by decide)) (xk_k (show ¬ (1 : Nat) = 6 by decide) (Or.inl (show ¬ (1 + 1 : Nat) = 6 by decide)) (xk_k (show ¬ (2 : Nat) = 6 by decide) (Or.inl (show ¬ (2 + 1 : Nat) = 6 by decide)) (xk_k (show ¬ (3 : Nat) = 6 by decide) (Or.inl (show ¬ (3 + 1 : Nat) = 6 by decide)) (xk_k (show ¬ (4 : Nat) = 6 by decide) (Or.inl (show ¬ (4 + 1 : Nat) = 6 by decide)) xk_n)))))) rfl ?_
                          refine xe_alr (ins := .aload_n 2) (len := 1) (i := 2) (by decide +kernel) rfl rfl rfl rfl rfl ?_
                          obtain ⟨_, e242, h⟩ := xbnd h
                          obtain ⟨R243, e241, h⟩ := xbnd h
                          refine xs_cv (i := 94) (j := 358) (ar := []) (rest := []) (r2 := xr_358) (by decide +kernel) (by decide +kernel) (by decide +kernel) xr_358_e rfl (by decide) (by decide) e242 ?_
                          refine xc_i (k358 (d := d + 259)   e241) rfl (fun hi244 => ?_)
                          refine xe_ldn (ins := .iload 5) (len := 2) (by decide +kernel) rfl rfl rfl rfl ?_
                          refine xe_icmpeq (off := 5) (t := 405) (by decide +kernel) (by decide) rfl hi244 hi232 (fun c245 => ?_) (fun c245 => ?_)
                          · rw [if_pos c245] at h
                            refine xe_ldn (ins := .iload 5) (len := 2) (by decide +kernel) rfl rfl rfl rfl ?_
                            refine xe_ifne (off := 15) (t := 422) (by decide +kernel) (by decide) rfl hi232 (fun c246 => ?_) (fun c246 => ?_)
                            · rw [if_pos c246] at h
                              refine xW_lv rfl (l := [(0, xS (x0)), (1, xR_ (x1)), (2, xR_ (x2)), (3, xR_ (x3)), (4, xI (x4))]) (xsb_of ⟨rfl, rfl, rfl, rfl, rfl, trivial⟩ (show [6, 5, 0, 1, 2, 3, 4].Nodup by decide)) ?_
                              exact k2000_422  hr23 hx4 h
                            · rw [if_neg c246] at h
                              refine xe_alr (ins := .aload_n 3) (len := 1) (i := 3) (by decide +kernel) rfl rfl rfl rfl rfl ?_
                              refine xe_iconst (n := 0) (by decide +kernel) rfl ?_
                              obtain ⟨v247, e248, h⟩ := xbnd h
                              refine xs_lald (by decide +kernel) (show xin (0) by decide) e248 rfl ?_
                              refine xe_ldn (ins := .iload 6) (len := 2) (by decide +kernel) rfl rfl rfl rfl ?_
                              refine xe_i2l (by decide +kernel) rfl hi240 ?_
                              refine xe_lcmp (by decide +kernel) rfl (xq_al_in e248) (xin_N hi240) ?_
                              refine xe_ifeq (off := 5) (t := 422) (by decide +kernel) (by decide) rfl (xin_cmp8 _ _) (fun c249 => ?_) (fun c249 => ?_)
                              · have c249 := xcmp8_eq.mp c249; rw [if_pos c249] at h
                                refine xW_lv rfl (l := [(0, xS (x0)), (1, xR_ (x1)), (2, xR_ (x2)), (3, xR_ (x3)), (4, xI (x4))]) (xsb_of ⟨rfl, rfl, rfl, rfl, rfl, trivial⟩ (show [6, 5, 0, 1, 2, 3, 4].Nodup by decide)) ?_
                                exact k2000_422  hr23 hx4 h
                              · have c249 := (not_congr xcmp8_eq).mp c249; rw [if_neg c249] at h
                                refine xe_iconst (n := 0) (by decide +kernel) rfl ?_
                                cases h
                                exact xe_ret_i (ty := .boolean) (by decide +kernel) rfl (by decide) ⟨rfl, rfl, (show xin (0) by decide)⟩
                          · rw [if_neg c245] at h
                            refine xe_iconst (n := 0) (by decide +kernel) rfl ?_
                            cases h
                            exact xe_ret_i (ty := .boolean) (by decide +kernel) rfl (by decide) ⟨rfl, rfl, (show xin (0) by decide)⟩
                        · rw [if_neg c225] at h
                          by_cases c250 : (xand (v104) (31)) = 10
                          · rw [if_pos c250] at h
                            refine xe_ts (dd := 1146) (lo := 0) (hi := 24) (offs := #[116, 189, 214, 227, 240, 253, 266, 279, 292, 317, 385, 464, 477, 544, 557, 624, 692, 772, 851, 888, 979, 1004, 1041, 1066, 1091]) (len := 116) (off := 385) (t := 425) (by decide +kernel) (xin_of _) (by rw [if_neg c106, c250]; rfl) (by decide) ?_
                            refine xe_alr (ins := .aload_n 1) (len := 1) (i := 1) (by decide +kernel) rfl rfl rfl rfl rfl ?_
                            refine xe_ldn (ins := .aload_n 0) (len := 1) (by decide +kernel) rfl rfl rfl rfl ?_
                            refine xe_ldn (ins := .iload 4) (len := 2) (by decide +kernel) rfl rfl rfl rfl ?_
                            refine xe_iconst (n := 1) (by decide +kernel) rfl ?_
                            refine xe_iadd (by decide +kernel) rfl ?_
                            obtain ⟨v251, e252, h⟩ := xbnd h
                            refine xe_sci (n := 0) rfl (by decide +kernel) (xin_wr _) e252 rfl ?_
                            refine xe_ldn (ins := .aload_n 0) (len := 1) (by decide +kernel) rfl rfl rfl rfl ?_
                            refine xe_ldn (ins := .iload 4) (len := 2) (by decide +kernel) rfl rfl rfl rfl ?_
                            refine xe_iconst (n := 2) (by decide +kernel) rfl ?_
                            refine xe_iadd (by decide +kernel) rfl ?_
                            obtain ⟨v253, e254, h⟩ := xbnd h
                            refine xe_sci (n := 0) rfl (by decide +kernel) (xin_wr _) e254 rfl ?_
                            refine xe_ldn (ins := .aload_n 0) (len := 1) (by decide +kernel) rfl rfl rfl rfl ?_
                            refine xe_ldn (ins := .iload 4) (len := 2) (by decide +kernel) rfl rfl rfl rfl ?_
                            refine xe_iconst (n := 3) (by decide +kernel) rfl ?_
                            refine xe_iadd (by decide +kernel) rfl ?_
                            obtain ⟨v255, e256, h⟩ := xbnd h
                            refine xe_sci (n := 0) rfl (by decide +kernel) (xin_wr _) e256 rfl ?_
                            refine xe_alr (ins := .aload_n 3) (len := 1) (i := 3) (by decide +kernel) rfl rfl rfl rfl rfl ?_
                            obtain ⟨R258, e257, h⟩ := xbnd h
                            refine xs2_cs (kd := 11) (jj := 1005) (by decide) (i := 97) (j := 5) (ar := [xR_ (x3), xI (v255), xI (v253), xI (v251), xR_ (x1)]) (rest := []) (r2 := xr_1005) (by decide +kernel) (by decide +kernel) (by decide +kernel) xr_1005_e rfl (by decide) ?_
                            refine xc2_i (k1005 (d := d + 253)  (xq_sci_in e252) (xq_sci_in e254) (xq_sci_in e256) e257) rfl (fun hi259 => ?_)
                            refine xe_isr (ins := .istore 5) (len := 2) (i := 5) (by decide +kernel) rfl rfl rfl (by decide) (xk_k (show ¬ (0 : Nat) = 5 by decide) (Or.inl (show ¬ (0 + 1 : Nat) = 5 by decide)) (xk_k (show ¬ (1 : Nat) = 5 by decide) (Or.inl (show ¬ (1 + 1 : Nat) = 5 by decide)) (xk_k (show ¬ (2 : Nat) = 5 by decide) (Or.inl (show ¬ (2 + 1 : Nat) = 5 by decide)) (xk_k (show ¬ (3 : Nat) = 5 by decide) (Or.inl (show ¬ (3 + 1 : Nat) = 5 by decide)) (xk_k (show ¬ (4 : Nat) = 5 by decide) (Or.inr (xI_cat _)) xk_n))))) rfl ?_
                            refine xe_alr (ins := .aload_n 2) (len := 1) (i := 2) (by decide +kernel) rfl rfl rfl rfl rfl ?_
                            refine xe_ldn (ins := .aload_n 0) (len := 1) (by decide +kernel) rfl rfl rfl rfl ?_
                            refine xe_ldn (ins := .iload 4) (len := 2) (by decide +kernel) rfl rfl rfl rfl ?_
                            refine xe_iconst (n := 1) (by decide +kernel) rfl ?_
                            refine xe_iadd (by decide +kernel) rfl ?_
                            obtain ⟨v260, e261, h⟩ := xbnd h
                            refine xe_sci (n := 0) rfl (by decide +kernel) (xin_wr _) e261 rfl ?_
                            refine xe_ldn (ins := .aload_n 0) (len := 1) (by decide +kernel) rfl rfl rfl rfl ?_
                            refine xe_ldn (ins := .iload 4) (len := 2) (by decide +kernel) rfl rfl rfl rfl ?_
                            refine xe_iconst (n := 2) (by decide +kernel) rfl ?_
                            refine xe_iadd (by decide +kernel) rfl ?_
                            obtain ⟨v262, e263, h⟩ := xbnd h
                            refine xe_sci (n := 0) rfl (by decide +kernel) (xin_wr _) e263 rfl ?_
                            refine xe_ldn (ins := .aload_n 0) (len := 1) (by decide +kernel) rfl rfl rfl rfl ?_
                            refine xe_ldn (ins := .iload 4) (len := 2) (by decide +kernel) rfl rfl rfl rfl ?_
                            refine xe_iconst (n := 3) (by decide +kernel) rfl ?_
                            refine xe_iadd (by decide +kernel) rfl ?_
                            obtain ⟨v264, e265, h⟩ := xbnd h
                            refine xe_sci (n := 0) rfl (by decide +kernel) (xin_wr _) e265 rfl ?_
                            obtain ⟨_, e267, h⟩ := xbnd h
                            obtain ⟨R268, e266, h⟩ := xbnd h
                            refine xs_cv (i := 100) (j := 372) (ar := [xI (v264), xI (v262), xI (v260)]) (rest := []) (r2 := xr_372) (by decide +kernel) (by decide +kernel) (by decide +kernel) xr_372_e rfl (by decide) (by decide) e267 ?_
                            refine xc_l (k372 (d := d + 146)  (xq_sci_in e261) (xq_sci_in e263) (xq_sci_in e265) e266) rfl (fun hi269 => ?_)
                            refine xe_lsr (ins := .lstore 6) (len := 2) (i := 6) (by decide +kernel) rfl rfl rfl (by decide) (xk2_k (show ¬ (5 : Nat) = 6 by decide) (show ¬ (5 : Nat) = 6 + 1 by decide) (Or.inr (xI_cat _)) (xk2_k (show ¬ (0 : Nat) = 6 by decide) (show ¬ (0 : Nat) = 6 + 1 by decide) (Or.inl (show ¬ (0 + 1 : Nat) = 6 by decide)) (xk2_k (show ¬ (1 : Nat) = 6 by decide) (show ¬ (1 : Nat) = 6 + 1 by decide) (Or.inl (show ¬ (1 + 1 : Nat) = 6 by decide)) (xk2_k (show ¬ (2 : Nat) = 6 by decide) (show ¬ (2 : Nat) = 6 + 1 by decide) (Or.inl (show ¬ (2 + 1 : Nat) = 6 by decide)) (xk2_k (show ¬ (3 : Nat) = 6 by decide) (show ¬ (3 : Nat) = 6 + 1 by decide) (Or.inl (show ¬ (3 + 1 : Nat) = 6 by decide)) (xk2_k (show ¬ (4 : Nat) = 6 by decide) (show ¬ (4 : Nat) = 6 + 1 by decide) (Or.inl (show ¬ (4 + 1 : Nat) = 6 by decide)) xk2_n)))))) rfl ?_
                            refine xe_alr (ins := .aload_n 2) (len := 1) (i := 2) (by decide +kernel) rfl rfl rfl rfl rfl ?_
                            obtain ⟨_, e271, h⟩ := xbnd h
                            obtain ⟨R272, e270, h⟩ := xbnd h
                            refine xs_cv (i := 94) (j := 358) (ar := []) (rest := []) (r2 := xr_358) (by decide +kernel) (by decide +kernel) (by decide +kernel) xr_358_e rfl (by decide) (by decide) e271 ?_
                            refine xc_i (k358 (d := d + 259)   e270) rfl (fun hi273 => ?_)
                            refine xe_ldn (ins := .iload 5) (len := 2) (by decide +kernel) rfl rfl rfl rfl ?_
                            refine xe_icmpeq (off := 5) (t := 485) (by decide +kernel) (by decide) rfl hi273 hi259 (fun c274 => ?_) (fun c274 => ?_)
                            · rw [if_pos c274] at h
                              refine xe_ldn (ins := .iload 5) (len := 2) (by decide +kernel) rfl rfl rfl rfl ?_
                              refine xe_ifne (off := 14) (t := 501) (by decide +kernel) (by decide) rfl hi259 (fun c275 => ?_) (fun c275 => ?_)
                              · rw [if_pos c275] at h
                                refine xW_lv rfl (l := [(0, xS (x0)), (1, xR_ (x1)), (2, xR_ (x2)), (3, xR_ (x3)), (4, xI (x4))]) (xsb_of ⟨rfl, rfl, rfl, rfl, rfl, trivial⟩ (show [6, 5, 0, 1, 2, 3, 4].Nodup by decide)) ?_
                                exact k2000_501  hr23 hx4 h
                              · rw [if_neg c275] at h
                                refine xe_alr (ins := .aload_n 3) (len := 1) (i := 3) (by decide +kernel) rfl rfl rfl rfl rfl ?_
                                refine xe_iconst (n := 0) (by decide +kernel) rfl ?_
                                obtain ⟨v276, e277, h⟩ := xbnd h
                                refine xs_lald (by decide +kernel) (show xin (0) by decide) e277 rfl ?_
                                refine xe_ldn (ins := .lload 6) (len := 2) (by decide +kernel) rfl rfl rfl rfl ?_
                                refine xe_lcmp (by decide +kernel) rfl (xq_al_in e277) hi269 ?_
                                refine xe_ifeq (off := 5) (t := 501) (by decide +kernel) (by decide) rfl (xin_cmp8 _ _) (fun c278 => ?_) (fun c278 => ?_)
                                · have c278 := xcmp8_eq.mp c278; rw [if_pos c278] at h
                                  refine xW_lv rfl (l := [(0, xS (x0)), (1, xR_ (x1)), (2, xR_ (x2)), (3, xR_ (x3)), (4, xI (x4))]) (xsb_of ⟨rfl, rfl, rfl, rfl, rfl, trivial⟩ (show [6, 5, 0, 1, 2, 3, 4].Nodup by decide)) ?_
                                  exact k2000_501  hr23 hx4 h
                                · have c278 := (not_congr xcmp8_eq).mp c278; rw [if_neg c278] at h
                                  refine xe_iconst (n := 0) (by decide +kernel) rfl ?_
                                  cases h
                                  exact xe_ret_i (ty := .boolean) (by decide +kernel) rfl (by decide) ⟨rfl, rfl, (show xin (0) by decide)⟩
                            · rw [if_neg c274] at h
                              refine xe_iconst (n := 0) (by decide +kernel) rfl ?_
                              cases h
                              exact xe_ret_i (ty := .boolean) (by decide +kernel) rfl (by decide) ⟨rfl, rfl, (show xin (0) by decide)⟩
                          · rw [if_neg c250] at h
                            by_cases c279 : (xand (v104) (31)) = 11
                            · rw [if_pos c279] at h
                              refine xe_ts (dd := 1146) (lo := 0) (hi := 24) (offs := #[116, 189, 214, 227, 240, 253, 266, 279, 292, 317, 385, 464, 477, 544, 557, 624, 692, 772, 851, 888, 979, 1004, 1041, 1066, 1091]) (len := 116) (off := 464) (t := 504) (by decide +kernel) (xin_of _) (by rw [if_neg c106, c279]; rfl) (by decide) ?_
                              refine xe_alr (ins := .aload_n 1) (len := 1) (i := 1) (by decide +kernel) rfl rfl rfl rfl rfl ?_
                              obtain ⟨_, e281, h⟩ := xbnd h
                              obtain ⟨R282, e280, h⟩ := xbnd h
                              refine xs_cv (i := 101) (j := 177) (ar := []) (rest := []) (r2 := xr_177) (by decide +kernel) (by decide +kernel) (by decide +kernel) xr_177_e rfl (by decide) (by decide) e281 ?_
                              refine xc_i (k177 (d := d + 256)   e280) rfl (fun hi283 => ?_)
                              refine xe_alr (ins := .aload_n 2) (len := 1) (i := 2) (by decide +kernel) rfl rfl rfl rfl rfl ?_
                              obtain ⟨_, e285, h⟩ := xbnd h
                              obtain ⟨R286, e284, h⟩ := xbnd h
                              refine xs_cv (i := 104) (j := 379) (ar := []) (rest := [xI (R282.1)]) (r2 := xr_379) (by decide +kernel) (by decide +kernel) (by decide +kernel) xr_379_e rfl (by decide) (by simp only [List.map_cons, List.map_nil, List.sum_cons, List.sum_nil, xR_cat, xI_cat, xZ_cat]; decide) e285 ?_
                              refine xc_i (k379 (d := d + 259)   e284) rfl (fun hi287 => ?_)
                              refine xe_icmpeq (off := 674) (t := 1186) (by decide +kernel) (by decide) rfl hi283 hi287 (fun c288 => ?_) (fun c288 => ?_)
                              · rw [if_pos c288] at h
                                refine xW_lv rfl (l := [(0, xS (x0)), (1, xR_ (x1)), (2, xR_ (x2)), (3, xR_ (x3)), (4, xI (x4))]) (xsb_of ⟨rfl, rfl, rfl, rfl, rfl, trivial⟩ (show [0, 1, 2, 3, 4].Nodup by decide)) ?_
                                exact k2000_1186  hr23 hx4 h
                              · rw [if_neg c288] at h
                                refine xe_iconst (n := 0) (by decide +kernel) rfl ?_
                                cases h
                                exact xe_ret_i (ty := .boolean) (by decide +kernel) rfl (by decide) ⟨rfl, rfl, (show xin (0) by decide)⟩
                            · rw [if_neg c279] at h
                              by_cases c289 : (xand (v104) (31)) = 12
                              · rw [if_pos c289] at h
                                refine xe_ts (dd := 1146) (lo := 0) (hi := 24) (offs := #[116, 189, 214, 227, 240, 253, 266, 279, 292, 317, 385, 464, 477, 544, 557, 624, 692, 772, 851, 888, 979, 1004, 1041, 1066, 1091]) (len := 116) (off := 477) (t := 517) (by decide +kernel) (xin_of _) (by rw [if_neg c106, c289]; rfl) (by decide) ?_
                                refine xe_alr (ins := .aload_n 1) (len := 1) (i := 1) (by decide +kernel) rfl rfl rfl rfl rfl ?_
                                refine xe_ldn (ins := .aload_n 0) (len := 1) (by decide +kernel) rfl rfl rfl rfl ?_
                                refine xe_ldn (ins := .iload 4) (len := 2) (by decide +kernel) rfl rfl rfl rfl ?_
                                refine xe_iconst (n := 1) (by decide +kernel) rfl ?_
                                refine xe_iadd (by decide +kernel) rfl ?_
                                obtain ⟨v290, e291, h⟩ := xbnd h
                                refine xe_sci (n := 0) rfl (by decide +kernel) (xin_wr _) e291 rfl ?_
                                refine xe_ldn (ins := .aload_n 0) (len := 1) (by decide +kernel) rfl rfl rfl rfl ?_
                                refine xe_ldn (ins := .iload 4) (len := 2) (by decide +kernel) rfl rfl rfl rfl ?_
                                refine xe_iconst (n := 2) (by decide +kernel) rfl ?_
                                refine xe_iadd (by decide +kernel) rfl ?_
                                obtain ⟨v292, e293, h⟩ := xbnd h
                                refine xe_sci (n := 0) rfl (by decide +kernel) (xin_wr _) e293 rfl ?_
                                refine xe_alr (ins := .aload_n 3) (len := 1) (i := 3) (by decide +kernel) rfl rfl rfl rfl rfl ?_
                                obtain ⟨R295, e294, h⟩ := xbnd h
                                refine xs2_cs (kd := 11) (jj := 1006) (by decide) (i := 105) (j := 6) (ar := [xR_ (x3), xI (v292), xI (v290), xR_ (x1)]) (rest := []) (r2 := xr_1006) (by decide +kernel) (by decide +kernel) (by decide +kernel) xr_1006_e rfl (by decide) ?_
                                refine xc2_i (k1006 (d := d + 253)  (xq_sci_in e291) (xq_sci_in e293) e294) rfl (fun hi296 => ?_)
                                refine xe_isr (ins := .istore 5) (len := 2) (i := 5) (by decide +kernel) rfl rfl rfl (by decide) (xk_k (show ¬ (0 : Nat) = 5 by decide) (Or.inl (show ¬ (0 + 1 : Nat) = 5 by decide)) (xk_k (show ¬ (1 : Nat) = 5 by decide) (Or.inl (show ¬ (1 + 1 : Nat) = 5 by decide)) (xk_k (show ¬ (2 : Nat) = 5 by decide) (Or.inl (show ¬ (2 + 1 : Nat) = 5 by decide)) (xk_k (show ¬ (3 : Nat) = 5 by decide) (Or.inl (show ¬ (3 + 1 : Nat) = 5 by decide)) (xk_k (show ¬ (4 : Nat) = 5 by decide) (Or.inr (xI_cat _)) xk_n))))) rfl ?_
                                refine xe_alr (ins := .aload_n 2) (len := 1) (i := 2) (by decide +kernel) rfl rfl rfl rfl rfl ?_
                                refine xe_ldn (ins := .aload_n 0) (len := 1) (by decide +kernel) rfl rfl rfl rfl ?_
                                refine xe_ldn (ins := .iload 4) (len := 2) (by decide +kernel) rfl rfl rfl rfl ?_
                                refine xe_iconst (n := 1) (by decide +kernel) rfl ?_
                                refine xe_iadd (by decide +kernel) rfl ?_
                                obtain ⟨v297, e298, h⟩ := xbnd h
                                refine xe_sci (n := 0) rfl (by decide +kernel) (xin_wr _) e298 rfl ?_
                                refine xe_ldn (ins := .aload_n 0) (len := 1) (by decide +kernel) rfl rfl rfl rfl ?_
                                refine xe_ldn (ins := .iload 4) (len := 2) (by decide +kernel) rfl rfl rfl rfl ?_
                                refine xe_iconst (n := 2) (by decide +kernel) rfl ?_
                                refine xe_iadd (by decide +kernel) rfl ?_
                                obtain ⟨v299, e300, h⟩ := xbnd h
                                refine xe_sci (n := 0) rfl (by decide +kernel) (xin_wr _) e300 rfl ?_
                                obtain ⟨_, e302, h⟩ := xbnd h
                                obtain ⟨R303, e301, h⟩ := xbnd h
                                refine xs_cv (i := 107) (j := 380) (ar := [xI (v299), xI (v297)]) (rest := []) (r2 := xr_380) (by decide +kernel) (by decide +kernel) (by decide +kernel) xr_380_e rfl (by decide) (by decide) e302 ?_
                                refine xc_l (k380 (d := d + 146)  (xq_sci_in e298) (xq_sci_in e300) e301) rfl (fun hi304 => ?_)
                                refine xe_lsr (ins := .lstore 6) (len := 2) (i := 6) (by decide +kernel) rfl rfl rfl (by decide) (xk2_k (show ¬ (5 : Nat) = 6 by decide) (show ¬ (5 : Nat) = 6 + 1 by decide) (Or.inr (xI_cat _)) (xk2_k (show ¬ (0 : Nat) = 6 by decide) (show ¬ (0 : Nat) = 6 + 1 by decide) (Or.inl (show ¬ (0 + 1 : Nat) = 6 by decide)) (xk2_k (show ¬ (1 : Nat) = 6 by decide) (show ¬ (1 : Nat) = 6 + 1 by decide) (Or.inl (show ¬ (1 + 1 : Nat) = 6 by decide)) (xk2_k (show ¬ (2 : Nat) = 6 by decide) (show ¬ (2 : Nat) = 6 + 1 by decide) (Or.inl (show ¬ (2 + 1 : Nat) = 6 by decide)) (xk2_k (show ¬ (3 : Nat) = 6 by decide) (show ¬ (3 : Nat) = 6 + 1 by decide) (Or.inl (show ¬ (3 + 1 : Nat) = 6 by decide)) (xk2_k (show ¬ (4 : Nat) = 6 by decide) (show ¬ (4 : Nat) = 6 + 1 by decide) (Or.inl (show ¬ (4 + 1 : Nat) = 6 by decide)) xk2_n)))))) rfl ?_
                                refine xe_alr (ins := .aload_n 2) (len := 1) (i := 2) (by decide +kernel) rfl rfl rfl rfl rfl ?_
                                obtain ⟨_, e306, h⟩ := xbnd h
                                obtain ⟨R307, e305, h⟩ := xbnd h
                                refine xs_cv (i := 94) (j := 358) (ar := []) (rest := []) (r2 := xr_358) (by decide +kernel) (by decide +kernel) (by decide +kernel) xr_358_e rfl (by decide) (by decide) e306 ?_
                                refine xc_i (k358 (d := d + 259)   e305) rfl (fun hi308 => ?_)
                                refine xe_ldn (ins := .iload 5) (len := 2) (by decide +kernel) rfl rfl rfl rfl ?_
                                refine xe_icmpeq (off := 5) (t := 565) (by decide +kernel) (by decide) rfl hi308 hi296 (fun c309 => ?_) (fun c309 => ?_)
                                · rw [if_pos c309] at h
                                  refine xe_ldn (ins := .iload 5) (len := 2) (by decide +kernel) rfl rfl rfl rfl ?_
                                  refine xe_ifne (off := 14) (t := 581) (by decide +kernel) (by decide) rfl hi296 (fun c310 => ?_) (fun c310 => ?_)
                                  · rw [if_pos c310] at h
                                    refine xW_lv rfl (l := [(0, xS (x0)), (1, xR_ (x1)), (2, xR_ (x2)), (3, xR_ (x3)), (4, xI (x4))]) (xsb_of ⟨rfl, rfl, rfl, rfl, rfl, trivial⟩ (show [6, 5, 0, 1, 2, 3, 4].Nodup by decide)) ?_
                                    exact k2000_581  hr23 hx4 h
                                  · rw [if_neg c310] at h
                                    refine xe_alr (ins := .aload_n 3) (len := 1) (i := 3) (by decide +kernel) rfl rfl rfl rfl rfl ?_
                                    refine xe_iconst (n := 0) (by decide +kernel) rfl ?_
                                    obtain ⟨v311, e312, h⟩ := xbnd h
                                    refine xs_lald (by decide +kernel) (show xin (0) by decide) e312 rfl ?_
                                    refine xe_ldn (ins := .lload 6) (len := 2) (by decide +kernel) rfl rfl rfl rfl ?_
                                    refine xe_lcmp (by decide +kernel) rfl (xq_al_in e312) hi304 ?_
                                    refine xe_ifeq (off := 5) (t := 581) (by decide +kernel) (by decide) rfl (xin_cmp8 _ _) (fun c313 => ?_) (fun c313 => ?_)
                                    · have c313 := xcmp8_eq.mp c313; rw [if_pos c313] at h
                                      refine xW_lv rfl (l := [(0, xS (x0)), (1, xR_ (x1)), (2, xR_ (x2)), (3, xR_ (x3)), (4, xI (x4))]) (xsb_of ⟨rfl, rfl, rfl, rfl, rfl, trivial⟩ (show [6, 5, 0, 1, 2, 3, 4].Nodup by decide)) ?_
                                      exact k2000_581  hr23 hx4 h
                                    · have c313 := (not_congr xcmp8_eq).mp c313; rw [if_neg c313] at h
                                      refine xe_iconst (n := 0) (by decide +kernel) rfl ?_
                                      cases h
                                      exact xe_ret_i (ty := .boolean) (by decide +kernel) rfl (by decide) ⟨rfl, rfl, (show xin (0) by decide)⟩
                                · rw [if_neg c309] at h
                                  refine xe_iconst (n := 0) (by decide +kernel) rfl ?_
                                  cases h
                                  exact xe_ret_i (ty := .boolean) (by decide +kernel) rfl (by decide) ⟨rfl, rfl, (show xin (0) by decide)⟩
                              · rw [if_neg c289] at h
                                by_cases c314 : (xand (v104) (31)) = 13
                                · rw [if_pos c314] at h
                                  refine xe_ts (dd := 1146) (lo := 0) (hi := 24) (offs := #[116, 189, 214, 227, 240, 253, 266, 279, 292, 317, 385, 464, 477, 544, 557, 624, 692, 772, 851, 888, 979, 1004, 1041, 1066, 1091]) (len := 116) (off := 544) (t := 584) (by decide +kernel) (xin_of _) (by rw [if_neg c106, c314]; rfl) (by decide) ?_
                                  refine xe_alr (ins := .aload_n 1) (len := 1) (i := 1) (by decide +kernel) rfl rfl rfl rfl rfl ?_
                                  obtain ⟨_, e316, h⟩ := xbnd h
                                  obtain ⟨R317, e315, h⟩ := xbnd h
                                  refine xs2_cv (kd := 10) (jj := 1003) (by decide) (i := 108) (j := 3) (ar := []) (rest := []) (r2 := xr_1003) (by decide +kernel) (by decide +kernel) (by decide +kernel) xr_1003_e rfl (by decide) (by decide) e316 ?_
                                  refine xc2_i (k1003 (d := d + 248)   e315) rfl (fun hi318 => ?_)
                                  refine xe_alr (ins := .aload_n 2) (len := 1) (i := 2) (by decide +kernel) rfl rfl rfl rfl rfl ?_
                                  obtain ⟨_, e320, h⟩ := xbnd h
                                  obtain ⟨R321, e319, h⟩ := xbnd h
                                  refine xs_cv (i := 111) (j := 368) (ar := []) (rest := [xI (R317.1)]) (r2 := xr_368) (by decide +kernel) (by decide +kernel) (by decide +kernel) xr_368_e rfl (by decide) (by simp only [List.map_cons, List.map_nil, List.sum_cons, List.sum_nil, xR_cat, xI_cat, xZ_cat]; decide) e320 ?_
                                  refine xc_i (k368 (d := d + 146)   e319) rfl (fun hi322 => ?_)
                                  refine xe_icmpeq (off := 594) (t := 1186) (by decide +kernel) (by decide) rfl hi318 hi322 (fun c323 => ?_) (fun c323 => ?_)
                                  · rw [if_pos c323] at h
                                    refine xW_lv rfl (l := [(0, xS (x0)), (1, xR_ (x1)), (2, xR_ (x2)), (3, xR_ (x3)), (4, xI (x4))]) (xsb_of ⟨rfl, rfl, rfl, rfl, rfl, trivial⟩ (show [0, 1, 2, 3, 4].Nodup by decide)) ?_
                                    exact k2000_1186  hr23 hx4 h
                                  · rw [if_neg c323] at h
                                    refine xe_iconst (n := 0) (by decide +kernel) rfl ?_
                                    cases h
                                    exact xe_ret_i (ty := .boolean) (by decide +kernel) rfl (by decide) ⟨rfl, rfl, (show xin (0) by decide)⟩
                                · rw [if_neg c314] at h
                                  by_cases c324 : (xand (v104) (31)) = 14
                                  · rw [if_pos c324] at h
                                    refine xe_ts (dd := 1146) (lo := 0) (hi := 24) (offs := #[116, 189, 214, 227, 240, 253, 266, 279, 292, 317, 385, 464, 477, 544, 557, 624, 692, 772, 851, 888, 979, 1004, 1041, 1066, 1091]) (len := 116) (off := 557) (t := 597) (by decide +kernel) (xin_of _) (by rw [if_neg c106, c324]; rfl) (by decide) ?_
                                    refine xe_alr (ins := .aload_n 1) (len := 1) (i := 1) (by decide +kernel) rfl rfl rfl rfl rfl ?_
                                    refine xe_ldn (ins := .aload_n 0) (len := 1) (by decide +kernel) rfl rfl rfl rfl ?_
                                    refine xe_ldn (ins := .iload 4) (len := 2) (by decide +kernel) rfl rfl rfl rfl ?_
                                    refine xe_iconst (n := 1) (by decide +kernel) rfl ?_
                                    refine xe_iadd (by decide +kernel) rfl ?_
                                    obtain ⟨v325, e326, h⟩ := xbnd h
                                    refine xe_sci (n := 0) rfl (by decide +kernel) (xin_wr _) e326 rfl ?_
                                    refine xe_ldn (ins := .aload_n 0) (len := 1) (by decide +kernel) rfl rfl rfl rfl ?_
                                    refine xe_ldn (ins := .iload 4) (len := 2) (by decide +kernel) rfl rfl rfl rfl ?_
                                    refine xe_iconst (n := 2) (by decide +kernel) rfl ?_
                                    refine xe_iadd (by decide +kernel) rfl ?_
                                    obtain ⟨v327, e328, h⟩ := xbnd h
                                    refine xe_sci (n := 0) rfl (by decide +kernel) (xin_wr _) e328 rfl ?_
                                    refine xe_alr (ins := .aload_n 3) (len := 1) (i := 3) (by decide +kernel) rfl rfl rfl rfl rfl ?_
                                    obtain ⟨R330, e329, h⟩ := xbnd h
                                    refine xs2_cs (kd := 11) (jj := 1007) (by decide) (i := 112) (j := 7) (ar := [xR_ (x3), xI (v327), xI (v325), xR_ (x1)]) (rest := []) (r2 := xr_1007) (by decide +kernel) (by decide +kernel) (by decide +kernel) xr_1007_e rfl (by decide) ?_
                                    refine xc2_i (k1007 (d := d + 253)  (xq_sci_in e326) (xq_sci_in e328) e329) rfl (fun hi331 => ?_)
                                    refine xe_isr (ins := .istore 5) (len := 2) (i := 5) (by decide +kernel) rfl rfl rfl (by decide) (xk_k (show ¬ (0 : Nat) = 5 by decide) (Or.inl (show ¬ (0 + 1 : Nat) = 5 by decide)) (xk_k (show ¬ (1 : Nat) = 5 by decide) (Or.inl (show ¬ (1 + 1 : Nat) = 5 by decide)) (xk_k (show ¬ (2 : Nat) = 5 by decide) (Or.inl (show ¬ (2 + 1 : Nat) = 5 by decide)) (xk_k (show ¬ (3 : Nat) = 5 by decide) (Or.inl (show ¬ (3 + 1 : Nat) = 5 by decide)) (xk_k (show ¬ (4 : Nat) = 5 by decide) (Or.inr (xI_cat _)) xk_n))))) rfl ?_
                                    refine xe_alr (ins := .aload_n 2) (len := 1) (i := 2) (by decide +kernel) rfl rfl rfl rfl rfl ?_
                                    refine xe_ldn (ins := .aload_n 0) (len := 1) (by decide +kernel) rfl rfl rfl rfl ?_
                                    refine xe_ldn (ins := .iload 4) (len := 2) (by decide +kernel) rfl rfl rfl rfl ?_
                                    refine xe_iconst (n := 1) (by decide +kernel) rfl ?_
                                    refine xe_iadd (by decide +kernel) rfl ?_
                                    obtain ⟨v332, e333, h⟩ := xbnd h
                                    refine xe_sci (n := 0) rfl (by decide +kernel) (xin_wr _) e333 rfl ?_
                                    refine xe_ldn (ins := .aload_n 0) (len := 1) (by decide +kernel) rfl rfl rfl rfl ?_
                                    refine xe_ldn (ins := .iload 4) (len := 2) (by decide +kernel) rfl rfl rfl rfl ?_
                                    refine xe_iconst (n := 2) (by decide +kernel) rfl ?_
                                    refine xe_iadd (by decide +kernel) rfl ?_
                                    obtain ⟨v334, e335, h⟩ := xbnd h
                                    refine xe_sci (n := 0) rfl (by decide +kernel) (xin_wr _) e335 rfl ?_
                                    obtain ⟨_, e337, h⟩ := xbnd h
                                    obtain ⟨R338, e336, h⟩ := xbnd h
                                    refine xs_cv (i := 114) (j := 370) (ar := [xI (v334), xI (v332)]) (rest := []) (r2 := xr_370) (by decide +kernel) (by decide +kernel) (by decide +kernel) xr_370_e rfl (by decide) (by decide) e337 ?_
                                    refine xc_l (k370 (d := d + 258)  (xq_sci_in e333) (xq_sci_in e335) e336) rfl (fun hi339 => ?_)
                                    refine xe_lsr (ins := .lstore 6) (len := 2) (i := 6) (by decide +kernel) rfl rfl rfl (by decide) (xk2_k (show ¬ (5 : Nat) = 6 by decide) (show ¬ (5 : Nat) = 6 + 1 by decide) (Or.inr (xI_cat _)) (xk2_k (show ¬ (0 : Nat) = 6 by decide) (show ¬ (0 : Nat) = 6 + 1 by decide) (Or.inl (show ¬ (0 + 1 : Nat) = 6 by decide)) (xk2_k (show ¬ (1 : Nat) = 6 by decide) (show ¬ (1 : Nat) = 6 + 1 by decide) (Or.inl (show ¬ (1 + 1 : Nat) = 6 by decide)) (xk2_k (show ¬ (2 : Nat) = 6 by decide) (show ¬ (2 : Nat) = 6 + 1 by decide) (Or.inl (show ¬ (2 + 1 : Nat) = 6 by decide)) (xk2_k (show ¬ (3 : Nat) = 6 by decide) (show ¬ (3 : Nat) = 6 + 1 by decide) (Or.inl (show ¬ (3 + 1 : Nat) = 6 by decide)) (xk2_k (show ¬ (4 : Nat) = 6 by decide) (show ¬ (4 : Nat) = 6 + 1 by decide) (Or.inl (show ¬ (4 + 1 : Nat) = 6 by decide)) xk2_n)))))) rfl ?_
                                    refine xe_alr (ins := .aload_n 2) (len := 1) (i := 2) (by decide +kernel) rfl rfl rfl rfl rfl ?_
                                    obtain ⟨_, e341, h⟩ := xbnd h
                                    obtain ⟨R342, e340, h⟩ := xbnd h
                                    refine xs_cv (i := 94) (j := 358) (ar := []) (rest := []) (r2 := xr_358) (by decide +kernel) (by decide +kernel) (by decide +kernel) xr_358_e rfl (by decide) (by decide) e341 ?_
                                    refine xc_i (k358 (d := d + 259)   e340) rfl (fun hi343 => ?_)
                                    refine xe_ldn (ins := .iload 5) (len := 2) (by decide +kernel) rfl rfl rfl rfl ?_
                                    refine xe_icmpeq (off := 5) (t := 645) (by decide +kernel) (by decide) rfl hi343 hi331 (fun c344 => ?_) (fun c344 => ?_)
                                    · rw [if_pos c344] at h
                                      refine xe_ldn (ins := .iload 5) (len := 2) (by decide +kernel) rfl rfl rfl rfl ?_
                                      refine xe_ifne (off := 14) (t := 661) (by decide +kernel) (by decide) rfl hi331 (fun c345 => ?_) (fun c345 => ?_)
                                      · rw [if_pos c345] at h
                                        refine xW_lv rfl (l := [(0, xS (x0)), (1, xR_ (x1)), (2, xR_ (x2)), (3, xR_ (x3)), (4, xI (x4))]) (xsb_of ⟨rfl, rfl, rfl, rfl, rfl, trivial⟩ (show [6, 5, 0, 1, 2, 3, 4].Nodup by decide)) ?_
                                        exact k2000_661  hr23 hx4 h
                                      · rw [if_neg c345] at h
                                        refine xe_alr (ins := .aload_n 3) (len := 1) (i := 3) (by decide +kernel) rfl rfl rfl rfl rfl ?_
                                        refine xe_iconst (n := 0) (by decide +kernel) rfl ?_
                                        obtain ⟨v346, e347, h⟩ := xbnd h
                                        refine xs_lald (by decide +kernel) (show xin (0) by decide) e347 rfl ?_
                                        refine xe_ldn (ins := .lload 6) (len := 2) (by decide +kernel) rfl rfl rfl rfl ?_
                                        refine xe_lcmp (by decide +kernel) rfl (xq_al_in e347) hi339 ?_
                                        refine xe_ifeq (off := 5) (t := 661) (by decide +kernel) (by decide) rfl (xin_cmp8 _ _) (fun c348 => ?_) (fun c348 => ?_)
                                        · have c348 := xcmp8_eq.mp c348; rw [if_pos c348] at h
                                          refine xW_lv rfl (l := [(0, xS (x0)), (1, xR_ (x1)), (2, xR_ (x2)), (3, xR_ (x3)), (4, xI (x4))]) (xsb_of ⟨rfl, rfl, rfl, rfl, rfl, trivial⟩ (show [6, 5, 0, 1, 2, 3, 4].Nodup by decide)) ?_
                                          exact k2000_661  hr23 hx4 h
                                        · have c348 := (not_congr xcmp8_eq).mp c348; rw [if_neg c348] at h
                                          refine xe_iconst (n := 0) (by decide +kernel) rfl ?_
                                          cases h
                                          exact xe_ret_i (ty := .boolean) (by decide +kernel) rfl (by decide) ⟨rfl, rfl, (show xin (0) by decide)⟩
                                    · rw [if_neg c344] at h
                                      refine xe_iconst (n := 0) (by decide +kernel) rfl ?_
                                      cases h
                                      exact xe_ret_i (ty := .boolean) (by decide +kernel) rfl (by decide) ⟨rfl, rfl, (show xin (0) by decide)⟩
                                  · rw [if_neg c324] at h
                                    by_cases c349 : (xand (v104) (31)) = 15
                                    · rw [if_pos c349] at h
                                      refine xe_ts (dd := 1146) (lo := 0) (hi := 24) (offs := #[116, 189, 214, 227, 240, 253, 266, 279, 292, 317, 385, 464, 477, 544, 557, 624, 692, 772, 851, 888, 979, 1004, 1041, 1066, 1091]) (len := 116) (off := 624) (t := 664) (by decide +kernel) (xin_of _) (by rw [if_neg c106, c349]; rfl) (by decide) ?_
                                      refine xe_alr (ins := .aload_n 1) (len := 1) (i := 1) (by decide +kernel) rfl rfl rfl rfl rfl ?_
                                      refine xe_ldn (ins := .aload_n 0) (len := 1) (by decide +kernel) rfl rfl rfl rfl ?_
                                      refine xe_ldn (ins := .iload 4) (len := 2) (by decide +kernel) rfl rfl rfl rfl ?_
                                      refine xe_iconst (n := 1) (by decide +kernel) rfl ?_
                                      refine xe_iadd (by decide +kernel) rfl ?_
                                      obtain ⟨v350, e351, h⟩ := xbnd h
                                      refine xe_sci (n := 0) rfl (by decide +kernel) (xin_wr _) e351 rfl ?_
                                      refine xe_ldn (ins := .aload_n 0) (len := 1) (by decide +kernel) rfl rfl rfl rfl ?_
                                      refine xe_ldn (ins := .iload 4) (len := 2) (by decide +kernel) rfl rfl rfl rfl ?_
                                      refine xe_iconst (n := 2) (by decide +kernel) rfl ?_
                                      refine xe_iadd (by decide +kernel) rfl ?_
                                      obtain ⟨v352, e353, h⟩ := xbnd h
                                      refine xe_sci (n := 0) rfl (by decide +kernel) (xin_wr _) e353 rfl ?_
                                      refine xe_alr (ins := .aload_n 3) (len := 1) (i := 3) (by decide +kernel) rfl rfl rfl rfl rfl ?_
                                      obtain ⟨R355, e354, h⟩ := xbnd h
                                      refine xs2_cs (kd := 11) (jj := 1008) (by decide) (i := 115) (j := 8) (ar := [xR_ (x3), xI (v352), xI (v350), xR_ (x1)]) (rest := []) (r2 := xr_1008) (by decide +kernel) (by decide +kernel) (by decide +kernel) xr_1008_e rfl (by decide) ?_
                                      refine xc2_i (k1008 (d := d + 253)  (xq_sci_in e351) (xq_sci_in e353) e354) rfl (fun hi356 => ?_)
                                      refine xe_isr (ins := .istore 5) (len := 2) (i := 5) (by decide +kernel) rfl rfl rfl (by decide) (xk_k (show ¬ (0 : Nat) = 5 by decide) (Or.inl (show ¬ (0 + 1 : Nat) = 5 by decide)) (xk_k (show ¬ (1 : Nat) = 5 by decide) (Or.inl (show ¬ (1 + 1 : Nat) = 5 by decide)) (xk_k (show ¬ (2 : Nat) = 5 by decide) (Or.inl (show ¬ (2 + 1 : Nat) = 5 by decide)) (xk_k (show ¬ (3 : Nat) = 5 by decide) (Or.inl (show ¬ (3 + 1 : Nat) = 5 by decide)) (xk_k (show ¬ (4 : Nat) = 5 by decide) (Or.inr (xI_cat _)) xk_n))))) rfl ?_
                                      refine xe_alr (ins := .aload_n 2) (len := 1) (i := 2) (by decide +kernel) rfl rfl rfl rfl rfl ?_
                                      refine xe_ldn (ins := .aload_n 0) (len := 1) (by decide +kernel) rfl rfl rfl rfl ?_
                                      refine xe_ldn (ins := .iload 4) (len := 2) (by decide +kernel) rfl rfl rfl rfl ?_
                                      refine xe_iconst (n := 1) (by decide +kernel) rfl ?_
                                      refine xe_iadd (by decide +kernel) rfl ?_
                                      obtain ⟨v357, e358, h⟩ := xbnd h
                                      refine xe_sci (n := 0) rfl (by decide +kernel) (xin_wr _) e358 rfl ?_
                                      refine xe_ldn (ins := .aload_n 0) (len := 1) (by decide +kernel) rfl rfl rfl rfl ?_
                                      refine xe_ldn (ins := .iload 4) (len := 2) (by decide +kernel) rfl rfl rfl rfl ?_
                                      refine xe_iconst (n := 2) (by decide +kernel) rfl ?_
                                      refine xe_iadd (by decide +kernel) rfl ?_
                                      obtain ⟨v359, e360, h⟩ := xbnd h
                                      refine xe_sci (n := 0) rfl (by decide +kernel) (xin_wr _) e360 rfl ?_
                                      obtain ⟨_, e362, h⟩ := xbnd h
                                      obtain ⟨R363, e361, h⟩ := xbnd h
                                      refine xs_cv (i := 117) (j := 373) (ar := [xI (v359), xI (v357)]) (rest := []) (r2 := xr_373) (by decide +kernel) (by decide +kernel) (by decide +kernel) xr_373_e rfl (by decide) (by decide) e362 ?_
                                      refine xc_i (k373 (d := d + 146)  (xq_sci_in e358) (xq_sci_in e360) e361) rfl (fun hi364 => ?_)
                                      refine xe_isr (ins := .istore 6) (len := 2) (i := 6) (by decide +kernel) rfl rfl rfl (by decide) (xk_k (show ¬ (5 : Nat) = 6 by decide) (Or.inr (xI_cat _)) (xk_k (show ¬ (0 : Nat) = 6 by decide) (Or.inl (show ¬ (0 + 1 : Nat) = 6 by decide)) (xk_k (show ¬ (1 : Nat) = 6 by decide) (Or.inl (show ¬ (1 + 1 : Nat) = 6 by decide)) (xk_k (show ¬ (2 : Nat) = 6 by decide) (Or.inl (show ¬ (2 + 1 : Nat) = 6 by decide)) (xk_k (show ¬ (3 : Nat) = 6 by decide) (Or.inl (show ¬ (3 + 1 : Nat) = 6 by decide)) (xk_k (show ¬ (4 : Nat) = 6 by decide) (Or.inl (show ¬ (4 + 1 : Nat) = 6 by decide)) xk_n)))))) rfl ?_
                                      refine xe_alr (ins := .aload_n 2) (len := 1) (i := 2) (by decide +kernel) rfl rfl rfl rfl rfl ?_
                                      obtain ⟨_, e366, h⟩ := xbnd h
                                      obtain ⟨R367, e365, h⟩ := xbnd h
                                      refine xs_cv (i := 94) (j := 358) (ar := []) (rest := []) (r2 := xr_358) (by decide +kernel) (by decide +kernel) (by decide +kernel) xr_358_e rfl (by decide) (by decide) e366 ?_
                                      refine xc_i (k358 (d := d + 259)   e365) rfl (fun hi368 => ?_)
                                      refine xe_ldn (ins := .iload 5) (len := 2) (by decide +kernel) rfl rfl rfl rfl ?_
                                      refine xe_icmpeq (off := 5) (t := 712) (by decide +kernel) (by decide) rfl hi368 hi356 (fun c369 => ?_) (fun c369 => ?_)
                                      · rw [if_pos c369] at h
                                        refine xe_ldn (ins := .iload 5) (len := 2) (by decide +kernel) rfl rfl rfl rfl ?_
                                        refine xe_ifne (off := 15) (t := 729) (by decide +kernel) (by decide) rfl hi356 (fun c370 => ?_) (fun c370 => ?_)
                                        · rw [if_pos c370] at h
                                          refine xW_lv rfl (l := [(0, xS (x0)), (1, xR_ (x1)), (2, xR_ (x2)), (3, xR_ (x3)), (4, xI (x4))]) (xsb_of ⟨rfl, rfl, rfl, rfl, rfl, trivial⟩ (show [6, 5, 0, 1, 2, 3, 4].Nodup by decide)) ?_
                                          exact k2000_729  hr23 hx4 h
                                        · rw [if_neg c370] at h
                                          refine xe_alr (ins := .aload_n 3) (len := 1) (i := 3) (by decide +kernel) rfl rfl rfl rfl rfl ?_
                                          refine xe_iconst (n := 0) (by decide +kernel) rfl ?_
                                          obtain ⟨v371, e372, h⟩ := xbnd h
                                          refine xs_lald (by decide +kernel) (show xin (0) by decide) e372 rfl ?_
                                          refine xe_ldn (ins := .iload 6) (len := 2) (by decide +kernel) rfl rfl rfl rfl ?_
                                          refine xe_i2l (by decide +kernel) rfl hi364 ?_
                                          refine xe_lcmp (by decide +kernel) rfl (xq_al_in e372) (xin_N hi364) ?_
                                          refine xe_ifeq (off := 5) (t := 729) (by decide +kernel) (by decide) rfl (xin_cmp8 _ _) (fun c373 => ?_) (fun c373 => ?_)
                                          · have c373 := xcmp8_eq.mp c373; rw [if_pos c373] at h
                                            refine xW_lv rfl (l := [(0, xS (x0)), (1, xR_ (x1)), (2, xR_ (x2)), (3, xR_ (x3)), (4, xI (x4))]) (xsb_of ⟨rfl, rfl, rfl, rfl, rfl, trivial⟩ (show [6, 5, 0, 1, 2, 3, 4].Nodup by decide)) ?_
                                            exact k2000_729  hr23 hx4 h
                                          · have c373 := (not_congr xcmp8_eq).mp c373; rw [if_neg c373] at h
                                            refine xe_iconst (n := 0) (by decide +kernel) rfl ?_
                                            cases h
                                            exact xe_ret_i (ty := .boolean) (by decide +kernel) rfl (by decide) ⟨rfl, rfl, (show xin (0) by decide)⟩
                                      · rw [if_neg c369] at h
                                        refine xe_iconst (n := 0) (by decide +kernel) rfl ?_
                                        cases h
                                        exact xe_ret_i (ty := .boolean) (by decide +kernel) rfl (by decide) ⟨rfl, rfl, (show xin (0) by decide)⟩
                                    · rw [if_neg c349] at h
                                      by_cases c374 : (xand (v104) (31)) = 16
                                      · rw [if_pos c374] at h
                                        refine xe_ts (dd := 1146) (lo := 0) (hi := 24) (offs := #[116, 189, 214, 227, 240, 253, 266, 279, 292, 317, 385, 464, 477, 544, 557, 624, 692, 772, 851, 888, 979, 1004, 1041, 1066, 1091]) (len := 116) (off := 692) (t := 732) (by decide +kernel) (xin_of _) (by rw [if_neg c106, c374]; rfl) (by decide) ?_
                                        refine xe_alr (ins := .aload_n 1) (len := 1) (i := 1) (by decide +kernel) rfl rfl rfl rfl rfl ?_
                                        refine xe_ldn (ins := .aload_n 0) (len := 1) (by decide +kernel) rfl rfl rfl rfl ?_
                                        refine xe_ldn (ins := .iload 4) (len := 2) (by decide +kernel) rfl rfl rfl rfl ?_
                                        refine xe_iconst (n := 1) (by decide +kernel) rfl ?_
                                        refine xe_iadd (by decide +kernel) rfl ?_
                                        obtain ⟨v375, e376, h⟩ := xbnd h
                                        refine xe_sci (n := 0) rfl (by decide +kernel) (xin_wr _) e376 rfl ?_
                                        refine xe_ldn (ins := .aload_n 0) (len := 1) (by decide +kernel) rfl rfl rfl rfl ?_
                                        refine xe_ldn (ins := .iload 4) (len := 2) (by decide +kernel) rfl rfl rfl rfl ?_
                                        refine xe_iconst (n := 2) (by decide +kernel) rfl ?_
                                        refine xe_iadd (by decide +kernel) rfl ?_
                                        obtain ⟨v377, e378, h⟩ := xbnd h
                                        refine xe_sci (n := 0) rfl (by decide +kernel) (xin_wr _) e378 rfl ?_
                                        refine xe_ldn (ins := .aload_n 0) (len := 1) (by decide +kernel) rfl rfl rfl rfl ?_
                                        refine xe_ldn (ins := .iload 4) (len := 2) (by decide +kernel) rfl rfl rfl rfl ?_
                                        refine xe_iconst (n := 3) (by decide +kernel) rfl ?_
                                        refine xe_iadd (by decide +kernel) rfl ?_
                                        obtain ⟨v379, e380, h⟩ := xbnd h
                                        refine xe_sci (n := 0) rfl (by decide +kernel) (xin_wr _) e380 rfl ?_
                                        refine xe_alr (ins := .aload_n 3) (len := 1) (i := 3) (by decide +kernel) rfl rfl rfl rfl rfl ?_
                                        obtain ⟨R382, e381, h⟩ := xbnd h
                                        refine xs2_cs (kd := 11) (jj := 1009) (by decide) (i := 118) (j := 9) (ar := [xR_ (x3), xI (v379), xI (v377), xI (v375), xR_ (x1)]) (rest := []) (r2 := xr_1009) (by decide +kernel) (by decide +kernel) (by decide +kernel) xr_1009_e rfl (by decide) ?_
                                        refine xc2_i (k1009 (d := d + 251)  (xq_sci_in e376) (xq_sci_in e378) (xq_sci_in e380) e381) rfl (fun hi383 => ?_)
                                        refine xe_isr (ins := .istore 5) (len := 2) (i := 5) (by decide +kernel) rfl rfl rfl (by decide) (xk_k (show ¬ (0 : Nat) = 5 by decide) (Or.inl (show ¬ (0 + 1 : Nat) = 5 by decide)) (xk_k (show ¬ (1 : Nat) = 5 by decide) (Or.inl (show ¬ (1 + 1 : Nat) = 5 by decide)) (xk_k (show ¬ (2 : Nat) = 5 by decide) (Or.inl (show ¬ (2 + 1 : Nat) = 5 by decide)) (xk_k (show ¬ (3 : Nat) = 5 by decide) (Or.inl (show ¬ (3 + 1 : Nat) = 5 by decide)) (xk_k (show ¬ (4 : Nat) = 5 by decide) (Or.inr (xI_cat _)) xk_n))))) rfl ?_
                                        refine xe_alr (ins := .aload_n 2) (len := 1) (i := 2) (by decide +kernel) rfl rfl rfl rfl rfl ?_
                                        refine xe_ldn (ins := .aload_n 0) (len := 1) (by decide +kernel) rfl rfl rfl rfl ?_
                                        refine xe_ldn (ins := .iload 4) (len := 2) (by decide +kernel) rfl rfl rfl rfl ?_
                                        refine xe_iconst (n := 1) (by decide +kernel) rfl ?_
                                        refine xe_iadd (by decide +kernel) rfl ?_
                                        obtain ⟨v384, e385, h⟩ := xbnd h
                                        refine xe_sci (n := 0) rfl (by decide +kernel) (xin_wr _) e385 rfl ?_
                                        refine xe_ldn (ins := .aload_n 0) (len := 1) (by decide +kernel) rfl rfl rfl rfl ?_
                                        refine xe_ldn (ins := .iload 4) (len := 2) (by decide +kernel) rfl rfl rfl rfl ?_
                                        refine xe_iconst (n := 2) (by decide +kernel) rfl ?_
                                        refine xe_iadd (by decide +kernel) rfl ?_
                                        obtain ⟨v386, e387, h⟩ := xbnd h
                                        refine xe_sci (n := 0) rfl (by decide +kernel) (xin_wr _) e387 rfl ?_
                                        refine xe_ldn (ins := .aload_n 0) (len := 1) (by decide +kernel) rfl rfl rfl rfl ?_
                                        refine xe_ldn (ins := .iload 4) (len := 2) (by decide +kernel) rfl rfl rfl rfl ?_
                                        refine xe_iconst (n := 3) (by decide +kernel) rfl ?_
                                        refine xe_iadd (by decide +kernel) rfl ?_
                                        obtain ⟨v388, e389, h⟩ := xbnd h
                                        refine xe_sci (n := 0) rfl (by decide +kernel) (xin_wr _) e389 rfl ?_
                                        obtain ⟨_, e391, h⟩ := xbnd h
                                        obtain ⟨R392, e390, h⟩ := xbnd h
                                        refine xs_cv (i := 120) (j := 374) (ar := [xI (v388), xI (v386), xI (v384)]) (rest := []) (r2 := xr_374) (by decide +kernel) (by decide +kernel) (by decide +kernel) xr_374_e rfl (by decide) (by decide) e391 ?_
                                        refine xc_i (k374 (d := d + 146)  (xq_sci_in e385) (xq_sci_in e387) (xq_sci_in e389) e390) rfl (fun hi393 => ?_)
                                        refine xe_isr (ins := .istore 6) (len := 2) (i := 6) (by decide +kernel) rfl rfl rfl (by decide) (xk_k (show ¬ (5 : Nat) = 6 by decide) (Or.inr (xI_cat _)) (xk_k (show ¬ (0 : Nat) = 6 by decide) (Or.inl (show ¬ (0 + 1 : Nat) = 6 by decide)) (xk_k (show ¬ (1 : Nat) = 6 by decide) (Or.inl (show ¬ (1 + 1 : Nat) = 6 by decide)) (xk_k (show ¬ (2 : Nat) = 6 by decide) (Or.inl (show ¬ (2 + 1 : Nat) = 6 by decide)) (xk_k (show ¬ (3 : Nat) = 6 by decide) (Or.inl (show ¬ (3 + 1 : Nat) = 6 by decide)) (xk_k (show ¬ (4 : Nat) = 6 by decide) (Or.inl (show ¬ (4 + 1 : Nat) = 6 by decide)) xk_n)))))) rfl ?_
                                        refine xe_alr (ins := .aload_n 2) (len := 1) (i := 2) (by decide +kernel) rfl rfl rfl rfl rfl ?_
                                        obtain ⟨_, e395, h⟩ := xbnd h
                                        obtain ⟨R396, e394, h⟩ := xbnd h
                                        refine xs_cv (i := 94) (j := 358) (ar := []) (rest := []) (r2 := xr_358) (by decide +kernel) (by decide +kernel) (by decide +kernel) xr_358_e rfl (by decide) (by decide) e395 ?_
                                        refine xc_i (k358 (d := d + 259)   e394) rfl (fun hi397 => ?_)
                                        refine xe_ldn (ins := .iload 5) (len := 2) (by decide +kernel) rfl rfl rfl rfl ?_
                                        refine xe_icmpeq (off := 5) (t := 792) (by decide +kernel) (by decide) rfl hi397 hi383 (fun c398 => ?_) (fun c398 => ?_)
                                        · rw [if_pos c398] at h
                                          refine xe_ldn (ins := .iload 5) (len := 2) (by decide +kernel) rfl rfl rfl rfl ?_
                                          refine xe_ifne (off := 15) (t := 809) (by decide +kernel) (by decide) rfl hi383 (fun c399 => ?_) (fun c399 => ?_)
                                          · rw [if_pos c399] at h
                                            refine xW_lv rfl (l := [(0, xS (x0)), (1, xR_ (x1)), (2, xR_ (x2)), (3, xR_ (x3)), (4, xI (x4))]) (xsb_of ⟨rfl, rfl, rfl, rfl, rfl, trivial⟩ (show [6, 5, 0, 1, 2, 3, 4].Nodup by decide)) ?_
                                            exact k2000_809  hr23 hx4 h
                                          · rw [if_neg c399] at h
                                            refine xe_alr (ins := .aload_n 3) (len := 1) (i := 3) (by decide +kernel) rfl rfl rfl rfl rfl ?_
                                            refine xe_iconst (n := 0) (by decide +kernel) rfl ?_
                                            obtain ⟨v400, e401, h⟩ := xbnd h
                                            refine xs_lald (by decide +kernel) (show xin (0) by decide) e401 rfl ?_
                                            refine xe_ldn (ins := .iload 6) (len := 2) (by decide +kernel) rfl rfl rfl rfl ?_
                                            refine xe_i2l (by decide +kernel) rfl hi393 ?_
                                            refine xe_lcmp (by decide +kernel) rfl (xq_al_in e401) (xin_N hi393) ?_
                                            refine xe_ifeq (off := 5) (t := 809) (by decide +kernel) (by decide) rfl (xin_cmp8 _ _) (fun c402 => ?_) (fun c402 => ?_)
                                            · have c402 := xcmp8_eq.mp c402; rw [if_pos c402] at h
                                              refine xW_lv rfl (l := [(0, xS (x0)), (1, xR_ (x1)), (2, xR_ (x2)), (3, xR_ (x3)), (4, xI (x4))]) (xsb_of ⟨rfl, rfl, rfl, rfl, rfl, trivial⟩ (show [6, 5, 0, 1, 2, 3, 4].Nodup by decide)) ?_
                                              exact k2000_809  hr23 hx4 h
                                            · have c402 := (not_congr xcmp8_eq).mp c402; rw [if_neg c402] at h
                                              refine xe_iconst (n := 0) (by decide +kernel) rfl ?_
                                              cases h
                                              exact xe_ret_i (ty := .boolean) (by decide +kernel) rfl (by decide) ⟨rfl, rfl, (show xin (0) by decide)⟩
                                        · rw [if_neg c398] at h
                                          refine xe_iconst (n := 0) (by decide +kernel) rfl ?_
                                          cases h
                                          exact xe_ret_i (ty := .boolean) (by decide +kernel) rfl (by decide) ⟨rfl, rfl, (show xin (0) by decide)⟩
                                      · rw [if_neg c374] at h
                                        by_cases c403 : (xand (v104) (31)) = 17
                                        · rw [if_pos c403] at h
                                          refine xe_ts (dd := 1146) (lo := 0) (hi := 24) (offs := #[116, 189, 214, 227, 240, 253, 266, 279, 292, 317, 385, 464, 477, 544, 557, 624, 692, 772, 851, 888, 979, 1004, 1041, 1066, 1091]) (len := 116) (off := 772) (t := 812) (by decide +kernel) (xin_of _) (by rw [if_neg c106, c403]; rfl) (by decide) ?_
                                          refine xe_alr (ins := .aload_n 1) (len := 1) (i := 1) (by decide +kernel) rfl rfl rfl rfl rfl ?_
                                          refine xe_ldn (ins := .aload_n 0) (len := 1) (by decide +kernel) rfl rfl rfl rfl ?_
                                          refine xe_ldn (ins := .iload 4) (len := 2) (by decide +kernel) rfl rfl rfl rfl ?_
                                          refine xe_iconst (n := 1) (by decide +kernel) rfl ?_
                                          refine xe_iadd (by decide +kernel) rfl ?_
                                          obtain ⟨v404, e405, h⟩ := xbnd h
                                          refine xe_sci (n := 0) rfl (by decide +kernel) (xin_wr _) e405 rfl ?_
                                          refine xe_ldn (ins := .aload_n 0) (len := 1) (by decide +kernel) rfl rfl rfl rfl ?_
                                          refine xe_ldn (ins := .iload 4) (len := 2) (by decide +kernel) rfl rfl rfl rfl ?_
                                          refine xe_iconst (n := 2) (by decide +kernel) rfl ?_
                                          refine xe_iadd (by decide +kernel) rfl ?_
                                          obtain ⟨v406, e407, h⟩ := xbnd h
                                          refine xe_sci (n := 0) rfl (by decide +kernel) (xin_wr _) e407 rfl ?_
                                          refine xe_ldn (ins := .aload_n 0) (len := 1) (by decide +kernel) rfl rfl rfl rfl ?_
                                          refine xe_ldn (ins := .iload 4) (len := 2) (by decide +kernel) rfl rfl rfl rfl ?_
                                          refine xe_iconst (n := 3) (by decide +kernel) rfl ?_
                                          refine xe_iadd (by decide +kernel) rfl ?_
                                          obtain ⟨v408, e409, h⟩ := xbnd h
                                          refine xe_sci (n := 0) rfl (by decide +kernel) (xin_wr _) e409 rfl ?_
                                          refine xe_alr (ins := .aload_n 3) (len := 1) (i := 3) (by decide +kernel) rfl rfl rfl rfl rfl ?_
                                          obtain ⟨R411, e410, h⟩ := xbnd h
                                          refine xs2_cs (kd := 11) (jj := 1010) (by decide) (i := 121) (j := 10) (ar := [xR_ (x3), xI (v408), xI (v406), xI (v404), xR_ (x1)]) (rest := []) (r2 := xr_1010) (by decide +kernel) (by decide +kernel) (by decide +kernel) xr_1010_e rfl (by decide) ?_
                                          refine xc2_i (k1010 (d := d + 253)  (xq_sci_in e405) (xq_sci_in e407) (xq_sci_in e409) e410) rfl (fun hi412 => ?_)
                                          refine xe_isr (ins := .istore 5) (len := 2) (i := 5) (by decide +kernel) rfl rfl rfl (by decide) (xk_k (show ¬ (0 : Nat) = 5 by decide) (Or.inl (show ¬ (0 + 1 : Nat) = 5 by decide)) (xk_k (show ¬ (1 : Nat) = 5 by decide) (Or.inl (show ¬ (1 + 1 : Nat) = 5 by decide)) (xk_k (show ¬ (2 : Nat) = 5 by decide) (Or.inl (show ¬ (2 + 1 : Nat) = 5 by decide)) (xk_k (show ¬ (3 : Nat) = 5 by decide) (Or.inl (show ¬ (3 + 1 : Nat) = 5 by decide)) (xk_k (show ¬ (4 : Nat) = 5 by decide) (Or.inr (xI_cat _)) xk_n))))) rfl ?_
                                          refine xe_alr (ins := .aload_n 2) (len := 1) (i := 2) (by decide +kernel) rfl rfl rfl rfl rfl ?_
                                          refine xe_ldn (ins := .aload_n 0) (len := 1) (by decide +kernel) rfl rfl rfl rfl ?_
                                          refine xe_ldn (ins := .iload 4) (len := 2) (by decide +kernel) rfl rfl rfl rfl ?_
                                          refine xe_iconst (n := 1) (by decide +kernel) rfl ?_
                                          refine xe_iadd (by decide +kernel) rfl ?_
                                          obtain ⟨v413, e414, h⟩ := xbnd h
                                          refine xe_sci (n := 0) rfl (by decide +kernel) (xin_wr _) e414 rfl ?_
                                          refine xe_ldn (ins := .aload_n 0) (len := 1) (by decide +kernel) rfl rfl rfl rfl ?_
                                          refine xe_ldn (ins := .iload 4) (len := 2) (by decide +kernel) rfl rfl rfl rfl ?_
                                          refine xe_iconst (n := 2) (by decide +kernel) rfl ?_
                                          refine xe_iadd (by decide +kernel) rfl ?_
                                          obtain ⟨v415, e416, h⟩ := xbnd h
                                          refine xe_sci (n := 0) rfl (by decide +kernel) (xin_wr _) e416 rfl ?_
                                          refine xe_ldn (ins := .aload_n 0) (len := 1) (by decide +kernel) rfl rfl rfl rfl ?_
                                          refine xe_ldn (ins := .iload 4) (len := 2) (by decide +kernel) rfl rfl rfl rfl ?_
                                          refine xe_iconst (n := 3) (by decide +kernel) rfl ?_
                                          refine xe_iadd (by decide +kernel) rfl ?_
                                          obtain ⟨v417, e418, h⟩ := xbnd h
                                          refine xe_sci (n := 0) rfl (by decide +kernel) (xin_wr _) e418 rfl ?_
                                          obtain ⟨_, e420, h⟩ := xbnd h
                                          obtain ⟨R421, e419, h⟩ := xbnd h
                                          refine xs_cv (i := 123) (j := 355) (ar := [xI (v417), xI (v415), xI (v413)]) (rest := []) (r2 := xr_355) (by decide +kernel) (by decide +kernel) (by decide +kernel) xr_355_e rfl (by decide) (by decide) e420 ?_
                                          refine xc_l (k355 (d := d + 258)  (xq_sci_in e414) (xq_sci_in e416) (xq_sci_in e418) e419) rfl (fun hi422 => ?_)
                                          refine xe_lsr (ins := .lstore 6) (len := 2) (i := 6) (by decide +kernel) rfl rfl rfl (by decide) (xk2_k (show ¬ (5 : Nat) = 6 by decide) (show ¬ (5 : Nat) = 6 + 1 by decide) (Or.inr (xI_cat _)) (xk2_k (show ¬ (0 : Nat) = 6 by decide) (show ¬ (0 : Nat) = 6 + 1 by decide) (Or.inl (show ¬ (0 + 1 : Nat) = 6 by decide)) (xk2_k (show ¬ (1 : Nat) = 6 by decide) (show ¬ (1 : Nat) = 6 + 1 by decide) (Or.inl (show ¬ (1 + 1 : Nat) = 6 by decide)) (xk2_k (show ¬ (2 : Nat) = 6 by decide) (show ¬ (2 : Nat) = 6 + 1 by decide) (Or.inl (show ¬ (2 + 1 : Nat) = 6 by decide)) (xk2_k (show ¬ (3 : Nat) = 6 by decide) (show ¬ (3 : Nat) = 6 + 1 by decide) (Or.inl (show ¬ (3 + 1 : Nat) = 6 by decide)) (xk2_k (show ¬ (4 : Nat) = 6 by decide) (show ¬ (4 : Nat) = 6 + 1 by decide) (Or.inl (show ¬ (4 + 1 : Nat) = 6 by decide)) xk2_n)))))) rfl ?_
                                          refine xe_alr (ins := .aload_n 2) (len := 1) (i := 2) (by decide +kernel) rfl rfl rfl rfl rfl ?_
                                          obtain ⟨_, e424, h⟩ := xbnd h
                                          obtain ⟨R425, e423, h⟩ := xbnd h
                                          refine xs_cv (i := 94) (j := 358) (ar := []) (rest := []) (r2 := xr_358) (by decide +kernel) (by decide +kernel) (by decide +kernel) xr_358_e rfl (by decide) (by decide) e424 ?_
                                          refine xc_i (k358 (d := d + 259)   e423) rfl (fun hi426 => ?_)
                                          refine xe_ldn (ins := .iload 5) (len := 2) (by decide +kernel) rfl rfl rfl rfl ?_
                                          refine xe_icmpeq (off := 5) (t := 872) (by decide +kernel) (by decide) rfl hi426 hi412 (fun c427 => ?_) (fun c427 => ?_)
                                          · rw [if_pos c427] at h
                                            refine xe_ldn (ins := .iload 5) (len := 2) (by decide +kernel) rfl rfl rfl rfl ?_
                                            refine xe_ifne (off := 14) (t := 888) (by decide +kernel) (by decide) rfl hi412 (fun c428 => ?_) (fun c428 => ?_)
                                            · rw [if_pos c428] at h
                                              refine xW_lv rfl (l := [(0, xS (x0)), (1, xR_ (x1)), (2, xR_ (x2)), (3, xR_ (x3)), (4, xI (x4))]) (xsb_of ⟨rfl, rfl, rfl, rfl, rfl, trivial⟩ (show [6, 5, 0, 1, 2, 3, 4].Nodup by decide)) ?_
                                              exact k2000_888  hr23 hx4 h
                                            · rw [if_neg c428] at h
                                              refine xe_alr (ins := .aload_n 3) (len := 1) (i := 3) (by decide +kernel) rfl rfl rfl rfl rfl ?_
                                              refine xe_iconst (n := 0) (by decide +kernel) rfl ?_
                                              obtain ⟨v429, e430, h⟩ := xbnd h
                                              refine xs_lald (by decide +kernel) (show xin (0) by decide) e430 rfl ?_
                                              refine xe_ldn (ins := .lload 6) (len := 2) (by decide +kernel) rfl rfl rfl rfl ?_
                                              refine xe_lcmp (by decide +kernel) rfl (xq_al_in e430) hi422 ?_
                                              refine xe_ifeq (off := 5) (t := 888) (by decide +kernel) (by decide) rfl (xin_cmp8 _ _) (fun c431 => ?_) (fun c431 => ?_)
                                              · have c431 := xcmp8_eq.mp c431; rw [if_pos c431] at h
                                                refine xW_lv rfl (l := [(0, xS (x0)), (1, xR_ (x1)), (2, xR_ (x2)), (3, xR_ (x3)), (4, xI (x4))]) (xsb_of ⟨rfl, rfl, rfl, rfl, rfl, trivial⟩ (show [6, 5, 0, 1, 2, 3, 4].Nodup by decide)) ?_
                                                exact k2000_888  hr23 hx4 h
                                              · have c431 := (not_congr xcmp8_eq).mp c431; rw [if_neg c431] at h
                                                refine xe_iconst (n := 0) (by decide +kernel) rfl ?_
                                                cases h
                                                exact xe_ret_i (ty := .boolean) (by decide +kernel) rfl (by decide) ⟨rfl, rfl, (show xin (0) by decide)⟩
                                          · rw [if_neg c427] at h
                                            refine xe_iconst (n := 0) (by decide +kernel) rfl ?_
                                            cases h
                                            exact xe_ret_i (ty := .boolean) (by decide +kernel) rfl (by decide) ⟨rfl, rfl, (show xin (0) by decide)⟩
                                        · rw [if_neg c403] at h
                                          by_cases c432 : (xand (v104) (31)) = 18
                                          · rw [if_pos c432] at h
                                            refine xe_ts (dd := 1146) (lo := 0) (hi := 24) (offs := #[116, 189, 214, 227, 240, 253, 266, 279, 292, 317, 385, 464, 477, 544, 557, 624, 692, 772, 851, 888, 979, 1004, 1041, 1066, 1091]) (len := 116) (off := 851) (t := 891) (by decide +kernel) (xin_of _) (by rw [if_neg c106, c432]; rfl) (by decide) ?_
                                            refine xe_alr (ins := .aload_n 1) (len := 1) (i := 1) (by decide +kernel) rfl rfl rfl rfl rfl ?_
                                            refine xe_ldn (ins := .aload_n 0) (len := 1) (by decide +kernel) rfl rfl rfl rfl ?_
                                            refine xe_ldn (ins := .iload 4) (len := 2) (by decide +kernel) rfl rfl rfl rfl ?_
                                            refine xe_iconst (n := 1) (by decide +kernel) rfl ?_
                                            refine xe_iadd (by decide +kernel) rfl ?_
                                            obtain ⟨v433, e434, h⟩ := xbnd h
                                            refine xe_sci (n := 0) rfl (by decide +kernel) (xin_wr _) e434 rfl ?_
                                            refine xe_ldn (ins := .aload_n 0) (len := 1) (by decide +kernel) rfl rfl rfl rfl ?_
                                            refine xe_ldn (ins := .iload 4) (len := 2) (by decide +kernel) rfl rfl rfl rfl ?_
                                            refine xe_iconst (n := 2) (by decide +kernel) rfl ?_
                                            refine xe_iadd (by decide +kernel) rfl ?_
                                            obtain ⟨v435, e436, h⟩ := xbnd h
                                            refine xe_sci (n := 0) rfl (by decide +kernel) (xin_wr _) e436 rfl ?_
                                            obtain ⟨_, e438, h⟩ := xbnd h
                                            obtain ⟨R439, e437, h⟩ := xbnd h
                                            refine xs_cv (i := 124) (j := 184) (ar := [xI (v435), xI (v433)]) (rest := []) (r2 := xr_184) (by decide +kernel) (by decide +kernel) (by decide +kernel) xr_184_e rfl (by decide) (by decide) e438 ?_
                                            refine xc_i (k184 (d := d + 258)  (xq_sci_in e434) (xq_sci_in e436) e437) rfl (fun hi440 => ?_)
                                            refine xe_alr (ins := .aload_n 2) (len := 1) (i := 2) (by decide +kernel) rfl rfl rfl rfl rfl ?_
                                            refine xe_ldn (ins := .aload_n 0) (len := 1) (by decide +kernel) rfl rfl rfl rfl ?_
                                            refine xe_ldn (ins := .iload 4) (len := 2) (by decide +kernel) rfl rfl rfl rfl ?_
                                            refine xe_iconst (n := 1) (by decide +kernel) rfl ?_
                                            refine xe_iadd (by decide +kernel) rfl ?_
                                            obtain ⟨v441, e442, h⟩ := xbnd h
                                            refine xe_sci (n := 0) rfl (by decide +kernel) (xin_wr _) e442 rfl ?_
                                            refine xe_ldn (ins := .aload_n 0) (len := 1) (by decide +kernel) rfl rfl rfl rfl ?_
                                            refine xe_ldn (ins := .iload 4) (len := 2) (by decide +kernel) rfl rfl rfl rfl ?_
                                            refine xe_iconst (n := 2) (by decide +kernel) rfl ?_
                                            refine xe_iadd (by decide +kernel) rfl ?_
                                            obtain ⟨v443, e444, h⟩ := xbnd h
                                            refine xe_sci (n := 0) rfl (by decide +kernel) (xin_wr _) e444 rfl ?_
                                            obtain ⟨_, e446, h⟩ := xbnd h
                                            obtain ⟨R447, e445, h⟩ := xbnd h
                                            refine xs_cv (i := 127) (j := 318) (ar := [xI (v443), xI (v441)]) (rest := [xI (R439.1)]) (r2 := xr_318) (by decide +kernel) (by decide +kernel) (by decide +kernel) xr_318_e rfl (by decide) (by simp only [List.map_cons, List.map_nil, List.sum_cons, List.sum_nil, xR_cat, xI_cat, xZ_cat]; decide) e446 ?_
                                            refine xc_i (k318 (d := d + 147)  (xq_sci_in e442) (xq_sci_in e444) e445) rfl (fun hi448 => ?_)
                                            refine xe_icmpeq (off := 263) (t := 1186) (by decide +kernel) (by decide) rfl hi440 hi448 (fun c449 => ?_) (fun c449 => ?_)
                                            · rw [if_pos c449] at h
                                              refine xW_lv rfl (l := [(0, xS (x0)), (1, xR_ (x1)), (2, xR_ (x2)), (3, xR_ (x3)), (4, xI (x4))]) (xsb_of ⟨rfl, rfl, rfl, rfl, rfl, trivial⟩ (show [0, 1, 2, 3, 4].Nodup by decide)) ?_
                                              exact k2000_1186  hr23 hx4 h
                                            · rw [if_neg c449] at h
                                              refine xe_iconst (n := 0) (by decide +kernel) rfl ?_
                                              cases h
                                              exact xe_ret_i (ty := .boolean) (by decide +kernel) rfl (by decide) ⟨rfl, rfl, (show xin (0) by decide)⟩
                                          · rw [if_neg c432] at h
                                            by_cases c450 : (xand (v104) (31)) = 19
                                            · rw [if_pos c450] at h
                                              refine xe_ts (dd := 1146) (lo := 0) (hi := 24) (offs := #[116, 189, 214, 227, 240, 253, 266, 279, 292, 317, 385, 464, 477, 544, 557, 624, 692, 772, 851, 888, 979, 1004, 1041, 1066, 1091]) (len := 116) (off := 888) (t := 928) (by decide +kernel) (xin_of _) (by rw [if_neg c106, c450]; rfl) (by decide) ?_
                                              refine xe_alr (ins := .aload_n 1) (len := 1) (i := 1) (by decide +kernel) rfl rfl rfl rfl rfl ?_
                                              refine xe_ldn (ins := .aload_n 0) (len := 1) (by decide +kernel) rfl rfl rfl rfl ?_
                                              refine xe_ldn (ins := .iload 4) (len := 2) (by decide +kernel) rfl rfl rfl rfl ?_
                                              refine xe_iconst (n := 1) (by decide +kernel) rfl ?_
                                              refine xe_iadd (by decide +kernel) rfl ?_
                                              obtain ⟨v451, e452, h⟩ := xbnd h
                                              refine xe_sci (n := 0) rfl (by decide +kernel) (xin_wr _) e452 rfl ?_
                                              refine xe_ldn (ins := .aload_n 0) (len := 1) (by decide +kernel) rfl rfl rfl rfl ?_
                                              refine xe_ldn (ins := .iload 4) (len := 2) (by decide +kernel) rfl rfl rfl rfl ?_
                                              refine xe_iconst (n := 2) (by decide +kernel) rfl ?_
                                              refine xe_iadd (by decide +kernel) rfl ?_
                                              obtain ⟨v453, e454, h⟩ := xbnd h
                                              refine xe_sci (n := 0) rfl (by decide +kernel) (xin_wr _) e454 rfl ?_
                                              refine xe_ldn (ins := .aload_n 0) (len := 1) (by decide +kernel) rfl rfl rfl rfl ?_
                                              refine xe_ldn (ins := .iload 4) (len := 2) (by decide +kernel) rfl rfl rfl rfl ?_
                                              refine xe_iconst (n := 3) (by decide +kernel) rfl ?_
                                              refine xe_iadd (by decide +kernel) rfl ?_
                                              obtain ⟨v455, e456, h⟩ := xbnd h
                                              refine xe_sci (n := 0) rfl (by decide +kernel) (xin_wr _) e456 rfl ?_
                                              refine xe_ldn (ins := .aload_n 0) (len := 1) (by decide +kernel) rfl rfl rfl rfl ?_
                                              refine xe_ldn (ins := .iload 4) (len := 2) (by decide +kernel) rfl rfl rfl rfl ?_
                                              refine xe_iconst (n := 4) (by decide +kernel) rfl ?_
                                              refine xe_iadd (by decide +kernel) rfl ?_
                                              obtain ⟨v457, e458, h⟩ := xbnd h
                                              refine xe_sci (n := 0) rfl (by decide +kernel) (xin_wr _) e458 rfl ?_
                                              refine xe_alr (ins := .aload_n 3) (len := 1) (i := 3) (by decide +kernel) rfl rfl rfl rfl rfl ?_
                                              obtain ⟨R460, e459, h⟩ := xbnd h
                                              refine xs2_cs (kd := 11) (jj := 1011) (by decide) (i := 128) (j := 11) (ar := [xR_ (x3), xI (v457), xI (v455), xI (v453), xI (v451), xR_ (x1)]) (rest := []) (r2 := xr_1011) (by decide +kernel) (by decide +kernel) (by decide +kernel) xr_1011_e rfl (by decide) ?_
                                              refine xc2_i (k1011 (d := d + 253)  (xq_sci_in e452) (xq_sci_in e454) (xq_sci_in e456) (xq_sci_in e458) e459) rfl (fun hi461 => ?_)
                                              refine xe_isr (ins := .istore 5) (len := 2) (i := 5) (by decide +kernel) rfl rfl rfl (by decide) (xk_k (show ¬ (0 : Nat) = 5 by decide) (Or.inl (show ¬ (0 + 1 : Nat) = 5 by decide)) (xk_k (show ¬ (1 : Nat) = 5 by decide) (Or.inl (show ¬ (1 + 1 : Nat) = 5 by decide)) (xk_k (show ¬ (2 : Nat) = 5 by decide) (Or.inl (show ¬ (2 + 1 : Nat) = 5 by decide)) (xk_k (show ¬ (3 : Nat) = 5 by decide) (Or.inl (show ¬ (3 + 1 : Nat) = 5 by decide)) (xk_k (show ¬ (4 : Nat) = 5 by decide) (Or.inr (xI_cat _)) xk_n))))) rfl ?_
                                              refine xe_alr (ins := .aload_n 2) (len := 1) (i := 2) (by decide +kernel) rfl rfl rfl rfl rfl ?_
                                              refine xe_ldn (ins := .aload_n 0) (len := 1) (by decide +kernel) rfl rfl rfl rfl ?_
                                              refine xe_ldn (ins := .iload 4) (len := 2) (by decide +kernel) rfl rfl rfl rfl ?_
                                              refine xe_iconst (n := 1) (by decide +kernel) rfl ?_
                                              refine xe_iadd (by decide +kernel) rfl ?_
                                              obtain ⟨v462, e463, h⟩ := xbnd h
                                              refine xe_sci (n := 0) rfl (by decide +kernel) (xin_wr _) e463 rfl ?_
                                              refine xe_ldn (ins := .aload_n 0) (len := 1) (by decide +kernel) rfl rfl rfl rfl ?_
                                              refine xe_ldn (ins := .iload 4) (len := 2) (by decide +kernel) rfl rfl rfl rfl ?_
                                              refine xe_iconst (n := 2) (by decide +kernel) rfl ?_
                                              refine xe_iadd (by decide +kernel) rfl ?_
                                              obtain ⟨v464, e465, h⟩ := xbnd h
                                              refine xe_sci (n := 0) rfl (by decide +kernel) (xin_wr _) e465 rfl ?_
                                              refine xe_ldn (ins := .aload_n 0) (len := 1) (by decide +kernel) rfl rfl rfl rfl ?_
                                              refine xe_ldn (ins := .iload 4) (len := 2) (by decide +kernel) rfl rfl rfl rfl ?_
                                              refine xe_iconst (n := 3) (by decide +kernel) rfl ?_
                                              refine xe_iadd (by decide +kernel) rfl ?_
                                              obtain ⟨v466, e467, h⟩ := xbnd h
                                              refine xe_sci (n := 0) rfl (by decide +kernel) (xin_wr _) e467 rfl ?_
                                              refine xe_ldn (ins := .aload_n 0) (len := 1) (by decide +kernel) rfl rfl rfl rfl ?_
                                              refine xe_ldn (ins := .iload 4) (len := 2) (by decide +kernel) rfl rfl rfl rfl ?_
                                              refine xe_iconst (n := 4) (by decide +kernel) rfl ?_
                                              refine xe_iadd (by decide +kernel) rfl ?_
                                              obtain ⟨v468, e469, h⟩ := xbnd h
                                              refine xe_sci (n := 0) rfl (by decide +kernel) (xin_wr _) e469 rfl ?_
                                              obtain ⟨_, e471, h⟩ := xbnd h
                                              obtain ⟨R472, e470, h⟩ := xbnd h
                                              refine xs_cv (i := 131) (j := 320) (ar := [xI (v468), xI (v466), xI (v464), xI (v462)]) (rest := []) (r2 := xr_320) (by decide +kernel) (by decide +kernel) (by decide +kernel) xr_320_e rfl (by decide) (by decide) e471 ?_
                                              refine xc_l (k320 (d := d + 146)  (xq_sci_in e463) (xq_sci_in e465) (xq_sci_in e467) (xq_sci_in e469) e470) rfl (fun hi473 => ?_)
                                              refine xe_lsr (ins := .lstore 6) (len := 2) (i := 6) (by decide +kernel) rfl rfl rfl (by decide) (xk2_k (show ¬ (5 : Nat) = 6 by decide) (show ¬ (5 : Nat) = 6 + 1 by decide) (Or.inr (xI_cat _)) (xk2_k (show ¬ (0 : Nat) = 6 by decide) (show ¬ (0 : Nat) = 6 + 1 by decide) (Or.inl (show ¬ (0 + 1 : Nat) = 6 by decide)) (xk2_k (show ¬ (1 : Nat) = 6 by decide) (show ¬ (1 : Nat) = 6 + 1 by decide) (Or.inl (show ¬ (1 + 1 : Nat) = 6 by decide)) (xk2_k (show ¬ (2 : Nat) = 6 by decide) (show ¬ (2 : Nat) = 6 + 1 by decide) (Or.inl (show ¬ (2 + 1 : Nat) = 6 by decide)) (xk2_k (show ¬ (3 : Nat) = 6 by decide) (show ¬ (3 : Nat) = 6 + 1 by decide) (Or.inl (show ¬ (3 + 1 : Nat) = 6 by decide)) (xk2_k (show ¬ (4 : Nat) = 6 by decide) (show ¬ (4 : Nat) = 6 + 1 by decide) (Or.inl (show ¬ (4 + 1 : Nat) = 6 by decide)) xk2_n)))))) rfl ?_
                                              refine xe_alr (ins := .aload_n 2) (len := 1) (i := 2) (by decide +kernel) rfl rfl rfl rfl rfl ?_
                                              obtain ⟨_, e475, h⟩ := xbnd h
                                              obtain ⟨R476, e474, h⟩ := xbnd h
                                              refine xs_cv (i := 94) (j := 358) (ar := []) (rest := []) (r2 := xr_358) (by decide +kernel) (by decide +kernel) (by decide +kernel) xr_358_e rfl (by decide) (by decide) e475 ?_
                                              refine xc_i (k358 (d := d + 259)   e474) rfl (fun hi477 => ?_)
                                              refine xe_ldn (ins := .iload 5) (len := 2) (by decide +kernel) rfl rfl rfl rfl ?_
                                              refine xe_icmpeq (off := 5) (t := 1000) (by decide +kernel) (by decide) rfl hi477 hi461 (fun c478 => ?_) (fun c478 => ?_)
                                              · rw [if_pos c478] at h
                                                refine xe_ldn (ins := .iload 5) (len := 2) (by decide +kernel) rfl rfl rfl rfl ?_
                                                refine xe_ifne (off := 14) (t := 1016) (by decide +kernel) (by decide) rfl hi461 (fun c479 => ?_) (fun c479 => ?_)
                                                · rw [if_pos c479] at h
                                                  refine xW_lv rfl (l := [(0, xS (x0)), (1, xR_ (x1)), (2, xR_ (x2)), (3, xR_ (x3)), (4, xI (x4))]) (xsb_of ⟨rfl, rfl, rfl, rfl, rfl, trivial⟩ (show [6, 5, 0, 1, 2, 3, 4].Nodup by decide)) ?_
                                                  exact k2000_1016  hr23 hx4 h
                                                · rw [if_neg c479] at h
                                                  refine xe_alr (ins := .aload_n 3) (len := 1) (i := 3) (by decide +kernel) rfl rfl rfl rfl rfl ?_
                                                  refine xe_iconst (n := 0) (by decide +kernel) rfl ?_
                                                  obtain ⟨v480, e481, h⟩ := xbnd h
                                                  refine xs_lald (by decide +kernel) (show xin (0) by decide) e481 rfl ?_
                                                  refine xe_ldn (ins := .lload 6) (len := 2) (by decide +kernel) rfl rfl rfl rfl ?_
                                                  refine xe_lcmp (by decide +kernel) rfl (xq_al_in e481) hi473 ?_
                                                  refine xe_ifeq (off := 5) (t := 1016) (by decide +kernel) (by decide) rfl (xin_cmp8 _ _) (fun c482 => ?_) (fun c482 => ?_)
                                                  · have c482 := xcmp8_eq.mp c482; rw [if_pos c482] at h
                                                    refine xW_lv rfl (l := [(0, xS (x0)), (1, xR_ (x1)), (2, xR_ (x2)), (3, xR_ (x3)), (4, xI (x4))]) (xsb_of ⟨rfl, rfl, rfl, rfl, rfl, trivial⟩ (show [6, 5, 0, 1, 2, 3, 4].Nodup by decide)) ?_
                                                    exact k2000_1016  hr23 hx4 h
                                                  · have c482 := (not_congr xcmp8_eq).mp c482; rw [if_neg c482] at h
                                                    refine xe_iconst (n := 0) (by decide +kernel) rfl ?_
                                                    cases h
                                                    exact xe_ret_i (ty := .boolean) (by decide +kernel) rfl (by decide) ⟨rfl, rfl, (show xin (0) by decide)⟩
                                              · rw [if_neg c478] at h
                                                refine xe_iconst (n := 0) (by decide +kernel) rfl ?_
                                                cases h
                                                exact xe_ret_i (ty := .boolean) (by decide +kernel) rfl (by decide) ⟨rfl, rfl, (show xin (0) by decide)⟩
                                            · rw [if_neg c450] at h
                                              by_cases c483 : (xand (v104) (31)) = 20
                                              · rw [if_pos c483] at h
                                                refine xe_ts (dd := 1146) (lo := 0) (hi := 24) (offs := #[116, 189, 214, 227, 240, 253, 266, 279, 292, 317, 385, 464, 477, 544, 557, 624, 692, 772, 851, 888, 979, 1004, 1041, 1066, 1091]) (len := 116) (off := 979) (t := 1019) (by decide +kernel) (xin_of _) (by rw [if_neg c106, c483]; rfl) (by decide) ?_
                                                refine xe_alr (ins := .aload_n 1) (len := 1) (i := 1) (by decide +kernel) rfl rfl rfl rfl rfl ?_
                                                refine xe_ldn (ins := .aload_n 0) (len := 1) (by decide +kernel) rfl rfl rfl rfl ?_
                                                refine xe_ldn (ins := .iload 4) (len := 2) (by decide +kernel) rfl rfl rfl rfl ?_
                                                refine xe_iconst (n := 1) (by decide +kernel) rfl ?_
                                                refine xe_iadd (by decide +kernel) rfl ?_
                                                obtain ⟨v484, e485, h⟩ := xbnd h
                                                refine xe_sci (n := 0) rfl (by decide +kernel) (xin_wr _) e485 rfl ?_
                                                obtain ⟨_, e487, h⟩ := xbnd h
                                                obtain ⟨R488, e486, h⟩ := xbnd h
                                                refine xs_cv (i := 132) (j := 186) (ar := [xI (v484)]) (rest := []) (r2 := xr_186) (by decide +kernel) (by decide +kernel) (by decide +kernel) xr_186_e rfl (by decide) (by decide) e487 ?_
                                                refine xc_i (k186 (d := d + 257)  (xq_sci_in e485) e486) rfl (fun hi489 => ?_)
                                                refine xe_alr (ins := .aload_n 2) (len := 1) (i := 2) (by decide +kernel) rfl rfl rfl rfl rfl ?_
                                                refine xe_ldn (ins := .aload_n 0) (len := 1) (by decide +kernel) rfl rfl rfl rfl ?_
                                                refine xe_ldn (ins := .iload 4) (len := 2) (by decide +kernel) rfl rfl rfl rfl ?_
                                                refine xe_iconst (n := 1) (by decide +kernel) rfl ?_
                                                refine xe_iadd (by decide +kernel) rfl ?_
                                                obtain ⟨v490, e491, h⟩ := xbnd h
                                                refine xe_sci (n := 0) rfl (by decide +kernel) (xin_wr _) e491 rfl ?_
                                                obtain ⟨_, e493, h⟩ := xbnd h
                                                obtain ⟨R494, e492, h⟩ := xbnd h
                                                refine xs_cv (i := 135) (j := 314) (ar := [xI (v490)]) (rest := [xI (R488.1)]) (r2 := xr_314) (by decide +kernel) (by decide +kernel) (by decide +kernel) xr_314_e rfl (by decide) (by simp only [List.map_cons, List.map_nil, List.sum_cons, List.sum_nil, xR_cat, xI_cat, xZ_cat]; decide) e493 ?_
                                                refine xc_i (k314 (d := d + 1)  (xq_sci_in e491) e492) rfl (fun hi495 => ?_)
                                                refine xe_icmpeq (off := 147) (t := 1186) (by decide +kernel) (by decide) rfl hi489 hi495 (fun c496 => ?_) (fun c496 => ?_)
                                                · rw [if_pos c496] at h
                                                  refine xW_lv rfl (l := [(0, xS (x0)), (1, xR_ (x1)), (2, xR_ (x2)), (3, xR_ (x3)), (4, xI (x4))]) (xsb_of ⟨rfl, rfl, rfl, rfl, rfl, trivial⟩ (show [0, 1, 2, 3, 4].Nodup by decide)) ?_
                                                  exact k2000_1186  hr23 hx4 h
                                                · rw [if_neg c496] at h
                                                  refine xe_iconst (n := 0) (by decide +kernel) rfl ?_
                                                  cases h
                                                  exact xe_ret_i (ty := .boolean) (by decide +kernel) rfl (by decide) ⟨rfl, rfl, (show xin (0) by decide)⟩
                                              · rw [if_neg c483] at h
                                                by_cases c497 : (xand (v104) (31)) = 21
                                                · rw [if_pos c497] at h
                                                  refine xe_ts (dd := 1146) (lo := 0) (hi := 24) (offs := #[116, 189, 214, 227, 240, 253, 266, 279, 292, 317, 385, 464, 477, 544, 557, 624, 692, 772, 851, 888, 979, 1004, 1041, 1066, 1091]) (len := 116) (off := 1004) (t := 1044) (by decide +kernel) (xin_of _) (by rw [if_neg c106, c497]; rfl) (by decide) ?_
                                                  refine xe_alr (ins := .aload_n 1) (len := 1) (i := 1) (by decide +kernel) rfl rfl rfl rfl rfl ?_
                                                  refine xe_ldn (ins := .aload_n 0) (len := 1) (by decide +kernel) rfl rfl rfl rfl ?_
                                                  refine xe_ldn (ins := .iload 4) (len := 2) (by decide +kernel) rfl rfl rfl rfl ?_
                                                  refine xe_iconst (n := 1) (by decide +kernel) rfl ?_
                                                  refine xe_iadd (by decide +kernel) rfl ?_
                                                  obtain ⟨v498, e499, h⟩ := xbnd h
                                                  refine xe_sci (n := 0) rfl (by decide +kernel) (xin_wr _) e499 rfl ?_
                                                  refine xe_ldn (ins := .aload_n 0) (len := 1) (by decide +kernel) rfl rfl rfl rfl ?_
                                                  refine xe_ldn (ins := .iload 4) (len := 2) (by decide +kernel) rfl rfl rfl rfl ?_
                                                  refine xe_iconst (n := 2) (by decide +kernel) rfl ?_
                                                  refine xe_iadd (by decide +kernel) rfl ?_
                                                  obtain ⟨v500, e501, h⟩ := xbnd h
                                                  refine xe_sci (n := 0) rfl (by decide +kernel) (xin_wr _) e501 rfl ?_
                                                  obtain ⟨_, e503, h⟩ := xbnd h
                                                  obtain ⟨R504, e502, h⟩ := xbnd h
                                                  refine xs_cv (i := 136) (j := 187) (ar := [xI (v500), xI (v498)]) (rest := []) (r2 := xr_187) (by decide +kernel) (by decide +kernel) (by decide +kernel) xr_187_e rfl (by decide) (by decide) e503 ?_
                                                  refine xc_i (k187 (d := d + 257)  (xq_sci_in e499) (xq_sci_in e501) e502) rfl (fun hi505 => ?_)
                                                  refine xe_alr (ins := .aload_n 2) (len := 1) (i := 2) (by decide +kernel) rfl rfl rfl rfl rfl ?_
                                                  refine xe_ldn (ins := .aload_n 0) (len := 1) (by decide +kernel) rfl rfl rfl rfl ?_
                                                  refine xe_ldn (ins := .iload 4) (len := 2) (by decide +kernel) rfl rfl rfl rfl ?_
                                                  refine xe_iconst (n := 1) (by decide +kernel) rfl ?_
                                                  refine xe_iadd (by decide +kernel) rfl ?_
                                                  obtain ⟨v506, e507, h⟩ := xbnd h
                                                  refine xe_sci (n := 0) rfl (by decide +kernel) (xin_wr _) e507 rfl ?_
                                                  refine xe_ldn (ins := .aload_n 0) (len := 1) (by decide +kernel) rfl rfl rfl rfl ?_
                                                  refine xe_ldn (ins := .iload 4) (len := 2) (by decide +kernel) rfl rfl rfl rfl ?_
                                                  refine xe_iconst (n := 2) (by decide +kernel) rfl ?_
                                                  refine xe_iadd (by decide +kernel) rfl ?_
                                                  obtain ⟨v508, e509, h⟩ := xbnd h
                                                  refine xe_sci (n := 0) rfl (by decide +kernel) (xin_wr _) e509 rfl ?_
                                                  obtain ⟨_, e511, h⟩ := xbnd h
                                                  obtain ⟨R512, e510, h⟩ := xbnd h
                                                  refine xs_cv (i := 139) (j := 315) (ar := [xI (v508), xI (v506)]) (rest := [xI (R504.1)]) (r2 := xr_315) (by decide +kernel) (by decide +kernel) (by decide +kernel) xr_315_e rfl (by decide) (by simp only [List.map_cons, List.map_nil, List.sum_cons, List.sum_nil, xR_cat, xI_cat, xZ_cat]; decide) e511 ?_
                                                  refine xc_i (k315 (d := d + 1)  (xq_sci_in e507) (xq_sci_in e509) e510) rfl (fun hi513 => ?_)
                                                  refine xe_icmpeq (off := 110) (t := 1186) (by decide +kernel) (by decide) rfl hi505 hi513 (fun c514 => ?_) (fun c514 => ?_)
                                                  · rw [if_pos c514] at h
                                                    refine xW_lv rfl (l := [(0, xS (x0)), (1, xR_ (x1)), (2, xR_ (x2)), (3, xR_ (x3)), (4, xI (x4))]) (xsb_of ⟨rfl, rfl, rfl, rfl, rfl, trivial⟩ (show [0, 1, 2, 3, 4].Nodup by decide)) ?_
                                                    exact k2000_1186  hr23 hx4 h
                                                  · rw [if_neg c514] at h
                                                    refine xe_iconst (n := 0) (by decide +kernel) rfl ?_
                                                    cases h
                                                    exact xe_ret_i (ty := .boolean) (by decide +kernel) rfl (by decide) ⟨rfl, rfl, (show xin (0) by decide)⟩
                                                · rw [if_neg c497] at h
                                                  by_cases c515 : (xand (v104) (31)) = 22
                                                  · rw [if_pos c515] at h
                                                    refine xe_ts (dd := 1146) (lo := 0) (hi := 24) (offs := #[116, 189, 214, 227, 240, 253, 266, 279, 292, 317, 385, 464, 477, 544, 557, 624, 692, 772, 851, 888, 979, 1004, 1041, 1066, 1091]) (len := 116) (off := 1041) (t := 1081) (by decide +kernel) (xin_of _) (by rw [if_neg c106, c515]; rfl) (by decide) ?_
                                                    refine xe_alr (ins := .aload_n 1) (len := 1) (i := 1) (by decide +kernel) rfl rfl rfl rfl rfl ?_
                                                    refine xe_ldn (ins := .aload_n 0) (len := 1) (by decide +kernel) rfl rfl rfl rfl ?_
                                                    refine xe_ldn (ins := .iload 4) (len := 2) (by decide +kernel) rfl rfl rfl rfl ?_
                                                    refine xe_iconst (n := 1) (by decide +kernel) rfl ?_
                                                    refine xe_iadd (by decide +kernel) rfl ?_
                                                    obtain ⟨v516, e517, h⟩ := xbnd h
                                                    refine xe_sci (n := 0) rfl (by decide +kernel) (xin_wr _) e517 rfl ?_
                                                    obtain ⟨_, e519, h⟩ := xbnd h
                                                    obtain ⟨R520, e518, h⟩ := xbnd h
                                                    refine xs_cv (i := 140) (j := 188) (ar := [xI (v516)]) (rest := []) (r2 := xr_188) (by decide +kernel) (by decide +kernel) (by decide +kernel) xr_188_e rfl (by decide) (by decide) e519 ?_
                                                    refine xc_i (k188 (d := d + 259)  (xq_sci_in e517) e518) rfl (fun hi521 => ?_)
                                                    refine xe_alr (ins := .aload_n 2) (len := 1) (i := 2) (by decide +kernel) rfl rfl rfl rfl rfl ?_
                                                    refine xe_ldn (ins := .aload_n 0) (len := 1) (by decide +kernel) rfl rfl rfl rfl ?_
                                                    refine xe_ldn (ins := .iload 4) (len := 2) (by decide +kernel) rfl rfl rfl rfl ?_
                                                    refine xe_iconst (n := 1) (by decide +kernel) rfl ?_
                                                    refine xe_iadd (by decide +kernel) rfl ?_
                                                    obtain ⟨v522, e523, h⟩ := xbnd h
                                                    refine xe_sci (n := 0) rfl (by decide +kernel) (xin_wr _) e523 rfl ?_
                                                    obtain ⟨_, e525, h⟩ := xbnd h
                                                    obtain ⟨R526, e524, h⟩ := xbnd h
                                                    refine xs_cv (i := 143) (j := 317) (ar := [xI (v522)]) (rest := [xI (R520.1)]) (r2 := xr_317) (by decide +kernel) (by decide +kernel) (by decide +kernel) xr_317_e rfl (by decide) (by simp only [List.map_cons, List.map_nil, List.sum_cons, List.sum_nil, xR_cat, xI_cat, xZ_cat]; decide) e525 ?_
                                                    refine xc_i (k317 (d := d + 258)  (xq_sci_in e523) e524) rfl (fun hi527 => ?_)
                                                    refine xe_icmpeq (off := 85) (t := 1186) (by decide +kernel) (by decide) rfl hi521 hi527 (fun c528 => ?_) (fun c528 => ?_)
                                                    · rw [if_pos c528] at h
                                                      refine xW_lv rfl (l := [(0, xS (x0)), (1, xR_ (x1)), (2, xR_ (x2)), (3, xR_ (x3)), (4, xI (x4))]) (xsb_of ⟨rfl, rfl, rfl, rfl, rfl, trivial⟩ (show [0, 1, 2, 3, 4].Nodup by decide)) ?_
                                                      exact k2000_1186  hr23 hx4 h
                                                    · rw [if_neg c528] at h
                                                      refine xe_iconst (n := 0) (by decide +kernel) rfl ?_
                                                      cases h
                                                      exact xe_ret_i (ty := .boolean) (by decide +kernel) rfl (by decide) ⟨rfl, rfl, (show xin (0) by decide)⟩
                                                  · rw [if_neg c515] at h
                                                    by_cases c529 : (xand (v104) (31)) = 23
                                                    · rw [if_pos c529] at h
                                                      refine xe_ts (dd := 1146) (lo := 0) (hi := 24) (offs := #[116, 189, 214, 227, 240, 253, 266, 279, 292, 317, 385, 464, 477, 544, 557, 624, 692, 772, 851, 888, 979, 1004, 1041, 1066, 1091]) (len := 116) (off := 1066) (t := 1106) (by decide +kernel) (xin_of _) (by rw [if_neg c106, c529]; rfl) (by decide) ?_
                                                      refine xe_alr (ins := .aload_n 1) (len := 1) (i := 1) (by decide +kernel) rfl rfl rfl rfl rfl ?_
                                                      refine xe_ldn (ins := .aload_n 0) (len := 1) (by decide +kernel) rfl rfl rfl rfl ?_
                                                      refine xe_ldn (ins := .iload 4) (len := 2) (by decide +kernel) rfl rfl rfl rfl ?_
                                                      refine xe_iconst (n := 1) (by decide +kernel) rfl ?_
                                                      refine xe_iadd (by decide +kernel) rfl ?_
                                                      obtain ⟨v530, e531, h⟩ := xbnd h
                                                      refine xe_sci (n := 0) rfl (by decide +kernel) (xin_wr _) e531 rfl ?_
                                                      obtain ⟨_, e533, h⟩ := xbnd h
                                                      obtain ⟨R534, e532, h⟩ := xbnd h
                                                      refine xs_cv (i := 144) (j := 189) (ar := [xI (v530)]) (rest := []) (r2 := xr_189) (by decide +kernel) (by decide +kernel) (by decide +kernel) xr_189_e rfl (by decide) (by decide) e533 ?_
                                                      refine xc_i (k189 (d := d + 254)  (xq_sci_in e531) e532) rfl (fun hi535 => ?_)
                                                      refine xe_alr (ins := .aload_n 2) (len := 1) (i := 2) (by decide +kernel) rfl rfl rfl rfl rfl ?_
                                                      refine xe_ldn (ins := .aload_n 0) (len := 1) (by decide +kernel) rfl rfl rfl rfl ?_
                                                      refine xe_ldn (ins := .iload 4) (len := 2) (by decide +kernel) rfl rfl rfl rfl ?_
                                                      refine xe_iconst (n := 1) (by decide +kernel) rfl ?_
                                                      refine xe_iadd (by decide +kernel) rfl ?_
                                                      obtain ⟨v536, e537, h⟩ := xbnd h
                                                      refine xe_sci (n := 0) rfl (by decide +kernel) (xin_wr _) e537 rfl ?_
                                                      obtain ⟨_, e539, h⟩ := xbnd h
                                                      obtain ⟨R540, e538, h⟩ := xbnd h
                                                      refine xs_cv (i := 147) (j := 326) (ar := [xI (v536)]) (rest := [xI (R534.1)]) (r2 := xr_326) (by decide +kernel) (by decide +kernel) (by decide +kernel) xr_326_e rfl (by decide) (by simp only [List.map_cons, List.map_nil, List.sum_cons, List.sum_nil, xR_cat, xI_cat, xZ_cat]; decide) e539 ?_
                                                      refine xc_i (k326 (d := d + 146)  (xq_sci_in e537) e538) rfl (fun hi541 => ?_)
                                                      refine xe_icmpeq (off := 60) (t := 1186) (by decide +kernel) (by decide) rfl hi535 hi541 (fun c542 => ?_) (fun c542 => ?_)
                                                      · rw [if_pos c542] at h
                                                        refine xW_lv rfl (l := [(0, xS (x0)), (1, xR_ (x1)), (2, xR_ (x2)), (3, xR_ (x3)), (4, xI (x4))]) (xsb_of ⟨rfl, rfl, rfl, rfl, rfl, trivial⟩ (show [0, 1, 2, 3, 4].Nodup by decide)) ?_
                                                        exact k2000_1186  hr23 hx4 h
                                                      · rw [if_neg c542] at h
                                                        refine xe_iconst (n := 0) (by decide +kernel) rfl ?_
                                                        cases h
                                                        exact xe_ret_i (ty := .boolean) (by decide +kernel) rfl (by decide) ⟨rfl, rfl, (show xin (0) by decide)⟩
                                                    · rw [if_neg c529] at h
                                                      have c543 : (xand (v104) (31)) = 24 := by omega
                                                      refine xe_ts (dd := 1146) (lo := 0) (hi := 24) (offs := #[116, 189, 214, 227, 240, 253, 266, 279, 292, 317, 385, 464, 477, 544, 557, 624, 692, 772, 851, 888, 979, 1004, 1041, 1066, 1091]) (len := 116) (off := 1091) (t := 1131) (by decide +kernel) (xin_of _) (by rw [if_neg c106, c543]; rfl) (by decide) ?_
                                                      refine xe_alr (ins := .aload_n 1) (len := 1) (i := 1) (by decide +kernel) rfl rfl rfl rfl rfl ?_
                                                      refine xe_ldn (ins := .aload_n 0) (len := 1) (by decide +kernel) rfl rfl rfl rfl ?_
                                                      refine xe_ldn (ins := .iload 4) (len := 2) (by decide +kernel) rfl rfl rfl rfl ?_
                                                      refine xe_iconst (n := 1) (by decide +kernel) rfl ?_
                                                      refine xe_iadd (by decide +kernel) rfl ?_
                                                      obtain ⟨v544, e545, h⟩ := xbnd h
                                                      refine xe_sci (n := 0) rfl (by decide +kernel) (xin_wr _) e545 rfl ?_
                                                      refine xe_alr (ins := .aload_n 3) (len := 1) (i := 3) (by decide +kernel) rfl rfl rfl rfl rfl ?_
                                                      obtain ⟨R547, e546, h⟩ := xbnd h
                                                      refine xs2_cs (kd := 11) (jj := 1012) (by decide) (i := 148) (j := 12) (ar := [xR_ (x3), xI (v544), xR_ (x1)]) (rest := []) (r2 := xr_1012) (by decide +kernel) (by decide +kernel) (by decide +kernel) xr_1012_e rfl (by decide) ?_
                                                      refine xc2_i (k1012 (d := d + 253)  (xq_sci_in e545) e546) rfl (fun hi548 => ?_)
                                                      refine xe_isr (ins := .istore 5) (len := 2) (i := 5) (by decide +kernel) rfl rfl rfl (by decide) (xk_k (show ¬ (0 : Nat) = 5 by decide) (Or.inl (show ¬ (0 + 1 : Nat) = 5 by decide)) (xk_k (show ¬ (1 : Nat) = 5 by decide) (Or.inl (show ¬ (1 + 1 : Nat) = 5 by decide)) (xk_k (show ¬ (2 : Nat) = 5 by decide) (Or.inl (show ¬ (2 + 1 : Nat) = 5 by decide)) (xk_k (show ¬ (3 : Nat) = 5 by decide) (Or.inl (show ¬ (3 + 1 : Nat) = 5 by decide)) (xk_k (show ¬ (4 : Nat) = 5 by decide) (Or.inr (xI_cat _)) xk_n))))) rfl ?_
                                                      refine xe_alr (ins := .aload_n 2) (len := 1) (i := 2) (by decide +kernel) rfl rfl rfl rfl rfl ?_
                                                      refine xe_ldn (ins := .aload_n 0) (len := 1) (by decide +kernel) rfl rfl rfl rfl ?_
                                                      refine xe_ldn (ins := .iload 4) (len := 2) (by decide +kernel) rfl rfl rfl rfl ?_
                                                      refine xe_iconst (n := 1) (by decide +kernel) rfl ?_
                                                      refine xe_iadd (by decide +kernel) rfl ?_
                                                      obtain ⟨v549, e550, h⟩ := xbnd h
                                                      refine xe_sci (n := 0) rfl (by decide +kernel) (xin_wr _) e550 rfl ?_
                                                      obtain ⟨_, e552, h⟩ := xbnd h
                                                      obtain ⟨R553, e551, h⟩ := xbnd h
                                                      refine xs_cv (i := 151) (j := 330) (ar := [xI (v549)]) (rest := []) (r2 := xr_330) (by decide +kernel) (by decide +kernel) (by decide +kernel) xr_330_e rfl (by decide) (by decide) e552 ?_
                                                      refine xc_l (k330 (d := d + 258)  (xq_sci_in e550) e551) rfl (fun hi554 => ?_)
                                                      refine xe_lsr (ins := .lstore 6) (len := 2) (i := 6) (by decide +kernel) rfl rfl rfl (by decide) (xk2_k (show ¬ (5 : Nat) = 6 by decide) (show ¬ (5 : Nat) = 6 + 1 by decide) (Or.inr (xI_cat _)) (xk2_k (show ¬ (0 : Nat) = 6 by decide) (show ¬ (0 : Nat) = 6 + 1 by decide) (Or.inl (show ¬ (0 + 1 : Nat) = 6 by decide)) (xk2_k (show ¬ (1 : Nat) = 6 by decide) (show ¬ (1 : Nat) = 6 + 1 by decide) (Or.inl (show ¬ (1 + 1 : Nat) = 6 by decide)) (xk2_k (show ¬ (2 : Nat) = 6 by decide) (show ¬ (2 : Nat) = 6 + 1 by decide) (Or.inl (show ¬ (2 + 1 : Nat) = 6 by decide)) (xk2_k (show ¬ (3 : Nat) = 6 by decide) (show ¬ (3 : Nat) = 6 + 1 by decide) (Or.inl (show ¬ (3 + 1 : Nat) = 6 by decide)) (xk2_k (show ¬ (4 : Nat) = 6 by decide) (show ¬ (4 : Nat) = 6 + 1 by decide) (Or.inl (show ¬ (4 + 1 : Nat) = 6 by decide)) xk2_n)))))) rfl ?_
                                                      refine xe_alr (ins := .aload_n 2) (len := 1) (i := 2) (by decide +kernel) rfl rfl rfl rfl rfl ?_
                                                      obtain ⟨_, e556, h⟩ := xbnd h
                                                      obtain ⟨R557, e555, h⟩ := xbnd h
                                                      refine xs_cv (i := 94) (j := 358) (ar := []) (rest := []) (r2 := xr_358) (by decide +kernel) (by decide +kernel) (by decide +kernel) xr_358_e rfl (by decide) (by decide) e556 ?_
                                                      refine xc_i (k358 (d := d + 259)   e555) rfl (fun hi558 => ?_)
                                                      refine xe_ldn (ins := .iload 5) (len := 2) (by decide +kernel) rfl rfl rfl rfl ?_
                                                      refine xe_icmpeq (off := 5) (t := 1167) (by decide +kernel) (by decide) rfl hi558 hi548 (fun c559 => ?_) (fun c559 => ?_)
                                                      · rw [if_pos c559] at h
                                                        refine xe_ldn (ins := .iload 5) (len := 2) (by decide +kernel) rfl rfl rfl rfl ?_
                                                        refine xe_ifne (off := 14) (t := 1183) (by decide +kernel) (by decide) rfl hi548 (fun c560 => ?_) (fun c560 => ?_)
                                                        · rw [if_pos c560] at h
                                                          refine xW_lv rfl (l := [(0, xS (x0)), (1, xR_ (x1)), (2, xR_ (x2)), (3, xR_ (x3)), (4, xI (x4))]) (xsb_of ⟨rfl, rfl, rfl, rfl, rfl, trivial⟩ (show [6, 5, 0, 1, 2, 3, 4].Nodup by decide)) ?_
                                                          exact k2000_1183  hr23 hx4 h
                                                        · rw [if_neg c560] at h
                                                          refine xe_alr (ins := .aload_n 3) (len := 1) (i := 3) (by decide +kernel) rfl rfl rfl rfl rfl ?_
                                                          refine xe_iconst (n := 0) (by decide +kernel) rfl ?_
                                                          obtain ⟨v561, e562, h⟩ := xbnd h
                                                          refine xs_lald (by decide +kernel) (show xin (0) by decide) e562 rfl ?_
                                                          refine xe_ldn (ins := .lload 6) (len := 2) (by decide +kernel) rfl rfl rfl rfl ?_
                                                          refine xe_lcmp (by decide +kernel) rfl (xq_al_in e562) hi554 ?_
                                                          refine xe_ifeq (off := 5) (t := 1183) (by decide +kernel) (by decide) rfl (xin_cmp8 _ _) (fun c563 => ?_) (fun c563 => ?_)
                                                          · have c563 := xcmp8_eq.mp c563; rw [if_pos c563] at h
                                                            refine xW_lv rfl (l := [(0, xS (x0)), (1, xR_ (x1)), (2, xR_ (x2)), (3, xR_ (x3)), (4, xI (x4))]) (xsb_of ⟨rfl, rfl, rfl, rfl, rfl, trivial⟩ (show [6, 5, 0, 1, 2, 3, 4].Nodup by decide)) ?_
                                                            exact k2000_1183  hr23 hx4 h
                                                          · have c563 := (not_congr xcmp8_eq).mp c563; rw [if_neg c563] at h
                                                            refine xe_iconst (n := 0) (by decide +kernel) rfl ?_
                                                            cases h
                                                            exact xe_ret_i (ty := .boolean) (by decide +kernel) rfl (by decide) ⟨rfl, rfl, (show xin (0) by decide)⟩
                                                      · rw [if_neg c559] at h
                                                        refine xe_iconst (n := 0) (by decide +kernel) rfl ?_
                                                        cases h
                                                        exact xe_ret_i (ty := .boolean) (by decide +kernel) rfl (by decide) ⟨rfl, rfl, (show xin (0) by decide)⟩
def f2000_23 (xs : List Int32)  (f : Nat) : Nat → Nat → Nat → Nat → Nat → Int → xj_M → Option (Int × xj_M)
  | 0, _, _, _, _, _, _ => none
  | n + 1, x0, x1, x2, x3, x4, M => f2000_23b xs  (f2000_23 xs  f n) f x0 x1 x2 x3 x4 M
theorem k2000_23 {d f : Nat} {xs : List Int32}    : ∀ {n : Nat} {x0 : Nat} {x1 : Nat} {x2 : Nat} {x3 : Nat} {x4 : Int} {M : xj_M} {R : Int × xj_M}, xin x4 → f2000_23 xs  f n x0 x1 x2 x3 x4 M = some R → xW (d + 260) (none, d + 260, some xs) xr_2000 (23, [(0, xS x0), (1, xR_ x1), (2, xR_ x2), (3, xR_ x3), (4, xI x4)], [], M) (xQi R) := by
  intro n
  induction n with
  | zero => intros; rename_i h; cases h
  | succ n ih => intros; rename_i h; exact k2000_23b   ih (by assumption) h
def f2000 (xs : List Int32) (f : Nat) (M : xj_M) : Option (Int × xj_M) := ((xq_nw 11 M).bind fun p564 => ((f168  f (p564.1) p564.2).bind fun M567 => ((xq_nw 15 M567).bind fun p569 => ((f357  f (p569.1) p569.2).bind fun M572 => ((xq_na 4 (1) M572).bind fun p574 => f2000_23 xs  f f (0) (p564.1) (p569.1) (p574.1) (0) p574.2)))))
theorem k2000 {d f : Nat} {xs : List Int32} {M : xj_M} {R : Int × xj_M} (h : f2000 xs f M = some R) : xW (d + 260) (none, d + 260, some xs) xr_2000 (0, [(0, Value.ref 0)], [], M) (xQi R) := by
  unfold f2000 at h
  obtain ⟨p564, e565, h⟩ := xbnd h
  refine xs_nw (i := 8) (ci := 11) (x := p564.1) (M1 := p564.2) (by decide +kernel) (by decide +kernel) e565 rfl ?_
  refine xe_dupr (by decide +kernel) rfl ?_
  obtain ⟨M567, e566, h⟩ := xbnd h
  refine xs_ci (kd := 1) (by decide) (i := 44) (j := 168) (ar := []) (rest := [xR_ (p564.1)]) (r2 := xr_168) (by decide +kernel) (by decide +kernel) xr_168_e rfl rfl (by simp only [List.map_cons, List.map_nil, List.sum_cons, List.sum_nil, xR_cat, xI_cat, xZ_cat]; decide) (xq_nw_ne e565) ?_
  refine xc_v (k168 (d := d + 257)   e566) rfl ?_
  refine xe_asr (ins := .astore_n 1) (len := 1) (i := 1) (by decide +kernel) rfl rfl rfl (by decide) (xk_k (show ¬ (0 : Nat) = 1 by decide) (Or.inr rfl) xk_n) rfl ?_
  obtain ⟨p569, e570, h⟩ := xbnd h
  refine xs_nw (i := 45) (ci := 15) (x := p569.1) (M1 := p569.2) (by decide +kernel) (by decide +kernel) e570 rfl ?_
  refine xe_dupr (by decide +kernel) rfl ?_
  obtain ⟨M572, e571, h⟩ := xbnd h
  refine xs_ci (kd := 1) (by decide) (i := 47) (j := 357) (ar := []) (rest := [xR_ (p569.1)]) (r2 := xr_357) (by decide +kernel) (by decide +kernel) xr_357_e rfl rfl (by simp only [List.map_cons, List.map_nil, List.sum_cons, List.sum_nil, xR_cat, xI_cat, xZ_cat]; decide) (xq_nw_ne e570) ?_
  refine xc_v (k357 (d := d + 254)   e571) rfl ?_
  refine xe_asr (ins := .astore_n 2) (len := 1) (i := 2) (by decide +kernel) rfl rfl rfl (by decide) (xk_k (show ¬ (1 : Nat) = 2 by decide) (Or.inr (xR_cat _)) (xk_k (show ¬ (0 : Nat) = 2 by decide) (Or.inl (show ¬ (0 + 1 : Nat) = 2 by decide)) xk_n)) rfl ?_
  refine xe_iconst (n := 1) (by decide +kernel) rfl ?_
  obtain ⟨p574, e575, h⟩ := xbnd h
  refine xs_na (kk := 4) (ty := .long) (x := p574.1) (M1 := p574.2) (by decide +kernel) rfl (show xin (1) by decide) e575 rfl ?_
  refine xe_asr (ins := .astore_n 3) (len := 1) (i := 3) (by decide +kernel) rfl rfl rfl (by decide) (xk_k (show ¬ (2 : Nat) = 3 by decide) (Or.inr (xR_cat _)) (xk_k (show ¬ (1 : Nat) = 3 by decide) (Or.inl (show ¬ (1 + 1 : Nat) = 3 by decide)) (xk_k (show ¬ (0 : Nat) = 3 by decide) (Or.inl (show ¬ (0 + 1 : Nat) = 3 by decide)) xk_n))) rfl ?_
  refine xe_iconst (n := 0) (by decide +kernel) rfl ?_
  refine xe_isr (ins := .istore 4) (len := 2) (i := 4) (by decide +kernel) rfl rfl rfl (by decide) (xk_k (show ¬ (3 : Nat) = 4 by decide) (Or.inr (xR_cat _)) (xk_k (show ¬ (2 : Nat) = 4 by decide) (Or.inl (show ¬ (2 + 1 : Nat) = 4 by decide)) (xk_k (show ¬ (1 : Nat) = 4 by decide) (Or.inl (show ¬ (1 + 1 : Nat) = 4 by decide)) (xk_k (show ¬ (0 : Nat) = 4 by decide) (Or.inl (show ¬ (0 + 1 : Nat) = 4 by decide)) xk_n)))) rfl ?_
  refine xW_lv rfl (l := [(0, xS (0)), (1, xR_ (p564.1)), (2, xR_ (p569.1)), (3, xR_ (p574.1)), (4, xI (0))]) (xsb_of ⟨rfl, rfl, rfl, rfl, rfl, trivial⟩ (show [4, 3, 2, 1, 0].Nodup by decide)) ?_
  exact k2000_23   (show xin (0) by decide) h
