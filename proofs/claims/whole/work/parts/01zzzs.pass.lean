/-! GATHERING of the reference: one time over all WAYS; what comes of it -/
theorem qCo_comm (k a b : Int) : qCo k a b = qCo k b a := by
  unfold qCo
  repeat' split
  all_goals omega
theorem qCo_as (k a b c : Int) : qCo k (qCo k a b) c = qCo k (qCo k a c) b := by
  unfold qCo
  repeat' split
  all_goals omega
theorem gAg_perm {kk : Int} {l l' : List Int} (h : l.Perm l') : gAg kk l = gAg kk l' := by
  have ff : ∀ {l l' : List Int}, l.Perm l' → ∀ a, l.foldl (qCo kk) a = l'.foldl (qCo kk) a := by
    intro l l' h
    induction h with
    | nil => exact fun _ => rfl
    | cons x _ ih => exact fun a => ih _
    | swap x y l =>
      intro a
      show l.foldl (qCo kk) (qCo kk (qCo kk a y) x) = l.foldl (qCo kk) (qCo kk (qCo kk a x) y)
      rw [qCo_as]
    | trans _ _ i1 i2 => exact fun a => (i1 a).trans (i2 a)
  induction h with
  | nil => rfl
  | cons x h _ => exact ff h x
  | swap x y l =>
    show l.foldl (qCo kk) (qCo kk y x) = l.foldl (qCo kk) (qCo kk x y)
    rw [qCo_comm]
  | trans _ _ i1 i2 => exact i1.trans i2
/-- all WAYS, each once -/
def isAll (l : List pLt) (nv : Nat) (R : Nat → List pRw) (op : Nat → pRw → Prop) (V : List (List Int)) : Prop := V.Nodup ∧ ∀ v, v ∈ V ↔ isW l nv R op v
theorem isAll.perm {l : List pLt} {nv : Nat} {R : Nat → List pRw} {op : Nat → pRw → Prop} {V V' : List (List Int)} (h : isAll l nv R op V) (h' : isAll l nv R op V') : V.Perm V' := (List.perm_ext_iff_of_nodup h.1 h'.1).mpr (fun v => (h.2 v).trans (h'.2 v).symm)
theorem gVs_perm {α : Type} {key : α → Option (List Int)} {val : α → Int} {V V' : List α} (h : V.Perm V') (xs : List Int) : (gVs key val V xs).Perm (gVs key val V' xs) := h.filterMap _
/-- the row of a group -/
def gRo (kk : Int) (gA : Nat) (xs : List Int) (a : Int) : Option (List Int) := if kk = 2 ∧ (1000000000000 < a ∨ a < -1000000000000) then none else some (xs.set gA a)
/-- the group xs gives the row zs -/
def gDs (l : List pLt) (nv : Nat) (R : Nat → List pRw) (op : Nat → pRw → Prop) (kk gO : Int) (I : List pCd) (gA : Nat) (xs zs : List Int) : Prop := ∃ V, isAll l nv R op V ∧ gVs (fun v : List Int => gKy kk gO I (gA : Int) none (vF v)) (fun v => gXv kk gO (vF v)) V xs ≠ [] ∧ gRo kk gA xs (gAg kk (gVs (fun v : List Int => gKy kk gO I (gA : Int) none (vF v)) (fun v => gXv kk gO (vF v)) V xs)) = some zs
theorem gDs_of {l : List pLt} {nv : Nat} {R : Nat → List pRw} {op : Nat → pRw → Prop} {kk gO : Int} {I : List pCd} {gA : Nat} {xs zs : List Int} {V : List (List Int)} (hV : isAll l nv R op V) (h : gDs l nv R op kk gO I gA xs zs) : gVs (fun v : List Int => gKy kk gO I (gA : Int) none (vF v)) (fun v => gXv kk gO (vF v)) V xs ≠ [] ∧ gRo kk gA xs (gAg kk (gVs (fun v : List Int => gKy kk gO I (gA : Int) none (vF v)) (fun v => gXv kk gO (vF v)) V xs)) = some zs := by
  obtain ⟨V', h1, h2, h3⟩ := h
  have hp := gVs_perm (key := fun v : List Int => gKy kk gO I (gA : Int) none (vF v)) (val := fun v : List Int => gXv kk gO (vF v)) (h1.perm hV) xs
  refine ⟨fun q => h2 ?_, by rw [← gAg_perm hp]; exact h3⟩
  rw [q] at hp
  exact List.perm_nil.mp hp
theorem gKy_la (kk gO : Int) (I : List pCd) (gA : Int) (last : Option (List Int)) (v : Nat → Int) : gKy kk gO I gA last v = (gKy kk gO I gA none v).bind (gLa last) := by
  unfold gKy
  by_cases c : kk = 2 ∧ 2000000000000 ≤ gXv kk gO v
  · rw [if_pos c, if_pos c]; rfl
  · rw [if_neg c, if_neg c]
    cases qMk I gA v I.length <;> rfl
theorem gLa_in (last : Option (List Int)) (xs : List Int) : gLa last xs = some xs ∨ gLa last xs = none := by
  unfold gLa
  cases last with
  | none => exact .inl rfl
  | some ys =>
    show (if _ then _ else _) = _ ∨ (if _ then _ else _) = _
    by_cases c : fCmp (0, ys) (0, xs) < 0
    · rw [if_pos c]; exact .inl rfl
    · rw [if_neg c]; exact .inr rfl
theorem gKy_iff {kk gO : Int} {I : List pCd} {gA : Int} {last : Option (List Int)} {v : Nat → Int} {xs : List Int} : gKy kk gO I gA last v = some xs ↔ gKy kk gO I gA none v = some xs ∧ gLa last xs = some xs := by
  rw [gKy_la]
  constructor
  · intro h
    cases hk : gKy kk gO I gA none v with
    | none => rw [hk] at h; cases h
    | some ys =>
      rw [hk, Option.bind_some] at h
      rcases gLa_in last ys with e | e
      · rw [e] at h
        injection h with h
        rw [← h]
        exact ⟨rfl, e⟩
      · rw [e] at h; cases h
  · rintro ⟨h1, h2⟩
    rw [h1, Option.bind_some]
    exact h2
theorem gVs_la {kk gO : Int} {I : List pCd} {gA : Int} {last : Option (List Int)} {V : List (List Int)} {xs : List Int} (h : gLa last xs = some xs) : gVs (fun v : List Int => gKy kk gO I gA last (vF v)) (fun v => gXv kk gO (vF v)) V xs = gVs (fun v : List Int => gKy kk gO I gA none (vF v)) (fun v => gXv kk gO (vF v)) V xs := by
  unfold gVs
  congr 1
  funext v
  by_cases c : gKy kk gO I gA none (vF v) = some xs
  · rw [if_pos c, if_pos (gKy_iff.mpr ⟨c, h⟩)]
  · rw [if_neg c, if_neg (fun q => c (gKy_iff.mp q).1)]
/-- what one time over the WAYS leaves as it was -/
def xP (G G' : xG_) : Prop := ∀ o j, ¬ (o = 0 ∧ (j = 37 ∨ j = 42 ∨ j = 58 ∨ j = 60)) → ¬ (o = 110 ∨ o = 111 ∨ o = 112 ∨ o = 119 ∨ o = 120) → G' o j = G o j
section
variable {f nv np r c : Nat} {l : List pLt} {I : List pCd} {gA : Nat} {kk gO : Int} {last : Option (List Int)} {N : Nat → Nat} {R : Nat → List pRw} {K : Nat → Nat}
theorem rLa.ge {G G' : xG_} {n : Nat} (h : rLa G n last) (h59 : G' 0 59 = G 0 59) (h1 : ∀ k, G' 121 k = G 121 k) : rLa G' n last := by
  cases last with
  | none => show G' 0 59 = 0; rw [h59]; exact h
  | some ys =>
    obtain ⟨a, b, c⟩ := h
    exact ⟨by rw [h59]; exact a, b, fun k hk => by rw [h1]; exact c k hk⟩
/-- a gathering rule at r -/
def rGt (G : xG_) (r c nv : Nat) (l : List pLt) (I : List pCd) (gA : Nat) (kk gO : Int) : Prop := rLs G 2 r c l ∧ rHd G r c I (gA : Int) ∧ G 18 r = kk ∧ G 20 r = gO
theorem l_ps {G : xG_} (hf : 6300 < f) (hr : r < 25) (hnv : nv ≤ 8) (hnp : np ≤ 16) (hc : c ≤ 6200) (hat : pAtoms l ≤ 3) (hw : ∀ y ∈ l, wLt np nv y ∧ (y.1 ≠ 3 → 0 ≤ y.2.1)) (hsafe : ∀ k, k < nv → (qBd l).testBit k = true) (hg : rGt G r c nv l I gA kk gO)
    (hwI : ∀ k, k < I.length → (k : Int) ≠ (gA : Int) → wEx nv (I.getD k [])) (hgA : gA < I.length) (hkk : kk = 1 ∨ kk = 2 ∨ kk = 3 ∨ kk = 4) (hO : kk ≠ 1 → 0 ≤ gO ∧ gO < nv) (h38 : G 0 38 = 2) (h39 : G 0 39 = (r : Int)) (h40 : G 0 40 = -1) (hT : rTb G np N R) (hR : ∀ p, p < np → (R p).length ≤ 100 ∧ ∀ w ∈ R p, ∀ x ∈ w.1, vOk x) (h37 : G 0 37 = 0) (h43 : G 0 43 = 0) (h58 : G 0 58 = 0) (h60 : G 0 60 = 0) (hla : rLa G I.length last) :
    ∃ G' V S, g275 f 0 G = some G' ∧ xP G G' ∧ isAll l nv R (qOp K (-1) 0) V ∧ V.length ≤ 1000000 ∧ (∀ v ∈ V, ∀ x ∈ v, vOk x) ∧ rGr G' I.length S ∧ gIv kk (fun v : List Int => gKy kk gO I (gA : Int) last (vF v)) (fun v => gXv kk gO (vF v)) V S (G' 0 60) := by
  obtain ⟨hL, hI, h18, h20⟩ := hg
  obtain ⟨G', V, u1, u2, u3, u4, u5, u6, u7, u8⟩ := l_275 (f := f) (K := K) (ra := -1) (rb := 0) (P := fun W Z => (∀ v ∈ W, v.length = nv ∧ ∀ x ∈ v, vOk x) ∧ xP G Z ∧ ∃ S, rGr Z I.length S ∧ gIv kk (fun v : List Int => gKy kk gO I (gA : Int) last (vF v)) (fun v => gXv kk gO (vF v)) W S (Z 0 60)) hf hr hnv hnp hc hat hw hsafe hL h39 h40 (fun q => absurd rfl q) (fun q => absurd rfl q) hT hR
    (fun W Z Z' ⟨h1, h2, S, h3, h4⟩ hz => ⟨h1, fun o j y1 y2 => by rw [hz o j (by omega) (by omega) (by omega), h2 o j y1 y2], S, ⟨by rw [hz _ _ (by omega) (by omega) (by omega)]; exact h3.1, h3.2.1, fun i hi => by
      obtain ⟨a1, a2, a3⟩ := h3.2.2 i hi
      exact ⟨a1, fun j hj => by rw [hz _ _ (by omega) (by omega) (by omega)]; exact a2 j hj, by rw [hz _ _ (by omega) (by omega) (by omega)]; exact a3⟩⟩, by rw [hz _ _ (by omega) (by omega) (by omega)]; exact h4⟩)
    (fun W G1 m ⟨p1, p2, S, p3, p4⟩ h43 hE hm hfull hs hWl => by
      have e : ∀ a j, 2 ≤ a → a ≤ 36 → G1 a j = G a j := fun a j _ _ => hE _ _ (by omega) (by omega)
      obtain ⟨G2, S2, k1, k2, k3, k4⟩ := l_u2 (f := f) (W := W) hf hr hnv hc (hI.v e) hwI hgA hkk (by rw [e _ _ (by omega) (by omega)]; exact h18) (by rw [e _ _ (by omega) (by omega)]; exact h20) hO (by rw [hE _ _ (by omega) (by omega)]; exact h38) (by rw [hE _ _ (by omega) (by omega)]; exact h39) hm hfull (hla.ge (p2 _ _ (by omega) (by omega)) (fun k => p2 _ _ (by omega) (by omega))) p3 p4 p1 hWl
      refine ⟨G2, k1, ⟨fun v hv => ?_, fun o j y1 y2 => by rw [k2 o j (by omega) (by omega) (by omega) (by omega) (by omega), p2 o j y1 y2], S2, k3, k4⟩, fun o j y1 y2 => k2 o j (by omega) (by omega) (by omega) (by omega) (by omega)⟩
      rcases List.mem_append.mp hv with hv | hv
      · exact p1 v hv
      · rw [List.mem_singleton.mp hv]
        refine ⟨vOf_len _ _, fun x hx => ?_⟩
        unfold vOf at hx
        obtain ⟨k, hk, rfl⟩ := List.mem_map.mp hx
        exact (hm.2.2 k (hfull k (List.mem_range.mp hk))).2)
    h37 h43 ⟨fun v hv => absurd hv (by simp), fun _ _ _ _ => rfl, [], ⟨h58, by decide, fun i hi => absurd hi (Nat.not_lt_zero _)⟩, by rw [h60]; exact gIv_0 kk⟩
  obtain ⟨q1, q2, S, q3, q4⟩ := u4
  have z43 : G' 0 43 = 0 := by rw [q2 _ _ (by omega) (by omega)]; exact h43
  exact ⟨G', V, S, u1, q2, ⟨u6, fun v => ⟨fun hv => (u7 v hv).1, fun hv => u8 z43 v hv⟩⟩, u5, fun v hv => (u7 v hv).2, q3, q4⟩
end
