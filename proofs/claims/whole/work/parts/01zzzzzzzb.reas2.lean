/-! Reasons: a rule that doesn't gather -/
section
variable {f nv np r c : Nat} {I : List pCd} {N : Nat → Nat} {R : Nat → List pRw} {K : Nat → Nat} {ra rb : Int} {l : List pLt} {as : List Int}
/-- the least WAY that gives the row as -/
theorem l_bst {G : xG_} (hf : 6300 < f) (hr : r < 25) (hnv : nv ≤ 8) (hnp : np ≤ 16) (hc : c ≤ 6200) (hat : pAtoms l ≤ 3) (hw : ∀ y ∈ l, wLt np nv y ∧ (y.1 ≠ 3 → 0 ≤ y.2.1)) (hsafe : ∀ k, k < nv → (qBd l).testBit k = true) (hL : rLs G 2 r c l)
    (hI : rHd G r c I (-1)) (hwI : ∀ k, k < I.length → wEx nv (I.getD k [])) (h22 : G 22 r = (nv : Int)) (h38 : G 0 38 = 4) (h39 : G 0 39 = (r : Int)) (h40 : G 0 40 = ra) (h41 : ra ≠ -1 → G 0 41 = rb) (hK : ra ≠ -1 → ∀ p, p < np → G 7 p = (K p : Int)) (hT : rTb G np N R) (hR : ∀ p, p < np → (R p).length ≤ 100 ∧ ∀ w ∈ R p, ∀ x ∈ w.1, vOk x) (h37 : G 0 37 = 0) (h43 : G 0 43 = 0) (h54 : G 0 54 = 0) (has : as.length = I.length) (h118 : ∀ k, k < I.length → G 118 k = as.getD k 0) :
    ∃ G', g275 f 0 G = some G' ∧ xE G G' ∧ ((G' 0 54 = 0 ∧ ∀ v, isW l nv R (qOp K ra rb) v → qMk I (-1) (vF v) I.length ≠ some as) ∨ (G' 0 54 = 1 ∧ ∃ v, isW l nv R (qOp K ra rb) v ∧ qMk I (-1) (vF v) I.length = some as ∧ (∀ k, k < nv → G' 117 k = v.getD k 0) ∧ ∀ x, isW l nv R (qOp K ra rb) x → qMk I (-1) (vF x) I.length = some as → vLe v x)) := by
  have hI4 := hI.2.1
  obtain ⟨G', V, u1, u2, u3, u4, u5, u6, u7, u8⟩ := l_275 (f := f) (K := K) (ra := ra) (rb := rb) (P := fun W Z => Z 0 43 = 0 ∧ (∀ x ∈ W, x.length = nv) ∧ rBs Z nv (fun v => qMk I (-1) (vF v) I.length = some as) W) hf hr hnv hnp hc hat hw hsafe hL h39 h40 h41 hK hT hR
    (fun W Z Z' h hz => by
      obtain ⟨a0, aw, a1⟩ := h
      refine ⟨by rw [hz _ _ (by omega) (by omega) (by omega)]; exact a0, aw, ?_⟩
      unfold rBs at a1 ⊢
      rw [hz _ _ (by omega) (by omega) (by omega)]
      rcases a1 with a | ⟨a2, v, v1, v2, v3, v4, v5⟩
      · exact .inl a
      · exact .inr ⟨a2, v, v1, v2, v3, fun k hk => by rw [hz _ _ (by omega) (by omega) (by omega)]; exact v4 k hk, v5⟩)
    (fun W G1 m hPW h43 hE hm hfull hs hWl => by
      have hI1 : rHd G1 r c I (-1) := hI.v (fun a j _ _ => hE _ _ (by omega) (by omega))
      have h391 : G1 0 39 = (r : Int) := by rw [hE _ _ (by omega) (by omega)]; exact h39
      obtain ⟨G2, b, k1, k2, k3⟩ := l_282 (f := f) hf hr hnv hc hI1 (fun k hk _ => hwI k hk) h391 hm hfull
      have h38' : G1 0 38 = 4 := by rw [hE _ _ (by omega) (by omega)]; exact h38
      have hrr : 0 ≤ (r : Int) ∧ (r : Int) < 25 := by omega
      have t39 : G2 0 39 = (r : Int) := by rw [k2 _ _ (by omega) (by omega) (by omega)]; exact h391
      have t17 : G2 17 r = (I.length : Int) := by rw [k2 _ _ (by omega) (by omega) (by omega), hE _ _ (by omega) (by omega)]; exact hI.1
      have t22 : G2 22 r = (nv : Int) := by rw [k2 _ _ (by omega) (by omega) (by omega), hE _ _ (by omega) (by omega)]; exact h22
      have e1 : g283 f G1 = if b = 0 then some G2 else (g262 f 112 0 118 0 (I.length : Int) G2).bind fun R109 => (if ¬ (R109.1) = 0 then some R109.2 else ((g286 f R109.2).bind fun R115 => some R115)) := by
        unfold g283 g283_118
        rw [h38', if_pos (by decide), k1, Option.bind_some]
        show (if b = 0 then _ else (if 0 ≤ G2 0 39 ∧ G2 0 39 < 25 then (g262 f 112 0 118 0 (G2 17 (G2 0 39).toNat) G2).bind _ else none)) = _
        rw [t39, if_pos hrr, Int.toNat_natCast, t17]
      have hmk : qMk I (-1) (vF (vOf G1 nv)) I.length = qMk I (-1) (G1 110) I.length := qMk_xt (nv := nv) (fun k hk _ => hwI k hk) (fun k hk => vOf_get hk) I.length (Nat.le_refl _)
      have ev : vOf G2 nv = vOf G1 nv := by
        unfold vOf
        refine List.map_congr_left (fun k hk => ?_)
        exact k2 _ _ (by omega) (by omega) (by omega)
      obtain ⟨a0, aw, a1⟩ := hPW
      have aw' : ∀ x ∈ W ++ [vOf G1 nv], x.length = nv := fun x hx => by
        rcases List.mem_append.mp hx with q | q
        · exact aw x q
        · rw [List.mem_singleton.mp q]; exact vOf_len _ _
      have hP2 : rBs G2 nv (fun v => qMk I (-1) (vF v) I.length = some as) W := by
        unfold rBs at a1 ⊢
        rw [k2 _ _ (by omega) (by omega) (by omega)]
        rcases a1 with a | ⟨a2, v, v1, v2, v3, v4, v5⟩
        · exact .inl a
        · exact .inr ⟨a2, v, v1, v2, v3, fun k hk => by rw [k2 _ _ (by omega) (by omega) (by omega)]; exact v4 k hk, v5⟩
      have no : ¬ qMk I (-1) (vF (vOf G1 nv)) I.length = some as → rBs G2 nv (fun v => qMk I (-1) (vF v) I.length = some as) (W ++ [vOf G1 nv]) := fun hn => by
        rcases hP2 with ⟨p1, p2⟩ | ⟨p1, v, v1, v2, v3, v4, v5⟩
        · refine .inl ⟨p1, fun x hx => ?_⟩
          rcases List.mem_append.mp hx with q | q
          · exact p2 x q
          · rw [List.mem_singleton.mp q]; exact hn
        · refine .inr ⟨p1, v, List.mem_append.mpr (.inl v1), v2, v3, v4, fun x hx hx2 => ?_⟩
          rcases List.mem_append.mp hx with q | q
          · exact v5 x q hx2
          · rw [List.mem_singleton.mp q] at hx2; exact absurd hx2 hn
      have f2 : xUs G1 G2 := fun o j y1 y2 => k2 o j (by omega) (by omega) (by omega)
      have z43 : G2 0 43 = 0 := by rw [k2 _ _ (by omega) (by omega) (by omega)]; exact h43
      rcases k3 with ⟨xs, b1, b2, b3, b4⟩ | ⟨b1, b2⟩
      · have hxl := qMk_len _ _ b2
        have ve1 : rVe G2 112 0 xs := ⟨by rw [xl112]; omega, by omega, by omega, fun k hk => by rw [Nat.zero_add]; exact b3 k (by omega) (by omega)⟩
        have ve2 : rVe G2 118 0 as := ⟨by rw [xl118]; omega, by omega, by omega, fun k hk => by rw [Nat.zero_add, k2 _ _ (by omega) (by omega) (by omega), hE _ _ (by omega) (by omega)]; exact h118 k (by omega)⟩
        have ec : g262 f 112 0 118 0 (I.length : Int) G2 = some (vCmp xs as, G2) := l_262 (by omega) ve1 ve2 hxl has
        have e2 : g283 f G1 = (if ¬ vCmp xs as = 0 then some G2 else ((g286 f G2).bind fun R115 => some R115)) := by
          rw [e1, if_neg (by omega), ec, Option.bind_some]
        by_cases cc : vCmp xs as = 0
        · have exs : xs = as := vCmp_eq (by omega) cc
          obtain ⟨G3, w1, w2, w3⟩ := l_286 (f := f) (Y := fun v => qMk I (-1) (vF v) I.length = some as) (W := W) (G := G2) (by omega) hnv hr t39 t22 (by show qMk I (-1) (vF (vOf G2 nv)) I.length = some as; rw [ev, hmk, b2, exs]) aw hP2
          rw [ev] at w2
          refine ⟨G3, by rw [e2, if_neg (fun q => q cc), w1]; rfl, ⟨by rw [w3 _ _ (by omega) (by omega)]; exact z43, aw', w2⟩, fun o j y1 y2 => by rw [w3 o j (by omega) (by omega), f2 o j y1 y2]⟩
        · refine ⟨G2, by rw [e2, if_pos cc], ⟨z43, aw', no (fun q => cc ?_)⟩, f2⟩
          rw [hmk, b2] at q
          injection q with q
          rw [q]; exact vCmp_self as
      · refine ⟨G2, by rw [e1, if_pos b1], ⟨z43, aw', no (fun q => ?_)⟩, f2⟩
        rw [hmk, b2] at q
        cases q)
    h37 h43 ⟨h43, fun x hx => absurd hx (by simp), .inl ⟨h54, fun x hx => absurd hx (by simp)⟩⟩
  obtain ⟨z43, zw, z⟩ := u4
  refine ⟨G', u1, u2, ?_⟩
  rcases z with ⟨z1, z2⟩ | ⟨z1, v, v1, v2, v3, v4, v5⟩
  · exact .inl ⟨z1, fun x hx => z2 x (u8 z43 x hx)⟩
  · exact .inr ⟨z1, v, (u7 v v1).1, v2, v4, fun x hx hx2 => v5 x (u8 z43 x hx) hx2⟩
end
