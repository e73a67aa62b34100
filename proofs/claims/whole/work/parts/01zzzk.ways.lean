/-! WAYS of the reference: all of a rule -/
def vF (v : List Int) : Nat → Int := fun k => v.getD k 0
def vOf (G : xG_) (nv : Nat) : List Int := (List.range nv).map (G 110)
theorem vOf_len (G : xG_) (nv : Nat) : (vOf G nv).length = nv := by unfold vOf; simp
theorem vOf_get {G : xG_} {nv k : Nat} (h : k < nv) : vF (vOf G nv) k = G 110 k := by
  unfold vF
  rw [getD_e (by rw [vOf_len]; exact h)]
  unfold vOf
  simp
/-- what WAYS leave as it was -/
def xE (G G' : xG_) : Prop := ∀ o j, ¬ (o = 0 ∧ (j = 37 ∨ 42 ≤ j ∧ j ≤ 61)) → ¬ (110 ≤ o ∧ o ≤ 121 ∧ o ≠ 118) → G' o j = G o j
/-- what the use of a WAY leaves as it was -/
def xUs (G G' : xG_) : Prop := ∀ o j, ¬ (o = 0 ∧ 42 ≤ j ∧ j ≤ 61) → ¬ (111 ≤ o ∧ o ≤ 121 ∧ o ≠ 118) → G' o j = G o j
/-- the ATOMS are rows that are open -/
def sAR (l : List pLt) (R : Nat → List pRw) (op : Nat → pRw → Prop) (v : Nat → Int) : Prop := ∀ y ∈ l, y.1 = 1 → ∃ w, w ∈ R y.2.1.toNat ∧ op y.2.1.toNat w ∧ sTs v y.2.2.2.1 w.1
/-- values of all VARIABLES that make a WAY -/
def isW (l : List pLt) (nv : Nat) (R : Nat → List pRw) (op : Nat → pRw → Prop) (v : List Int) : Prop := v.length = nv ∧ sAR l R op (vF v) ∧ sNC l R (vF v)
def qB3 : List pLt → Nat
  | [] => 1
  | y :: l => if y.1 = 1 then 100 * qB3 l else qB3 l
theorem sTs_al {v : Nat → Int} {T : pCd} {xs ys : List Int} (h1 : sTs v T xs) (h2 : sTs v T ys) (hT : ∀ k, k < T.length → (T.getD k (0, 0)).1 = 1 ∨ (T.getD k (0, 0)).1 = 2 ∨ (T.getD k (0, 0)).1 = 3) : aLk T xs ys := by
  intro k hk h
  obtain ⟨a1, a2⟩ := h1 k hk
  obtain ⟨b1, b2⟩ := h2 k hk
  rcases hT k hk with c | c | c
  · rw [← a1 c, ← b1 c]
  · exact absurd c h
  · rw [← a2 c, ← b2 c]
theorem aLk_s {v : Nat → Int} {T : pCd} {xs ys : List Int} (h1 : sTs v T xs) (h : aLk T xs ys) : sTs v T ys := by
  intro k hk
  obtain ⟨a1, a2⟩ := h1 k hk
  exact ⟨fun c => by rw [← h k hk (by omega)]; exact a1 c, fun c => by rw [← h k hk (by omega)]; exact a2 c⟩
theorem sTs_fit {m nv : Nat} {vl v : Nat → Int} {T : pCd} {xs : List Int} (hx : vXt m vl v) (h : sTs v T xs) : pFit m vl T xs := by
  intro k hk
  obtain ⟨a1, a2⟩ := h k hk
  refine ⟨a2, fun c b => by rw [← hx _ b]; exact a1 c, fun c j hj c1 c2 => ?_⟩
  have := (h j (by omega)).1 c1
  rw [c2, a1 c] at this
  exact this.symm
theorem least_i {Q : Nat → Prop} : ∀ (n : Nat), Q n → ∃ z, z ≤ n ∧ Q z ∧ ∀ j, j < z → ¬ Q j := by
  intro n
  induction n using Nat.strongRecOn with
  | _ n ih =>
    intro h
    by_cases c : ∃ j, j < n ∧ Q j
    · obtain ⟨j, h1, h2⟩ := c
      obtain ⟨z, k1, k2, k3⟩ := ih j h1 h2
      exact ⟨z, by omega, k2, k3⟩
    · exact ⟨n, Nat.le_refl _, h, fun j hj q => c ⟨j, hj, q⟩⟩
section
variable {f nv np r c : Nat} {l : List pLt} {N : Nat → Nat} {R : Nat → List pRw} {K : Nat → Nat} {ra rb : Int} {G0 : xG_} {P : List (List Int) → xG_ → Prop}
/-- ways -/
theorem l_275r (hf : 6300 < f) (hr : r < 25) (hnv : nv ≤ 8) (hnp : np ≤ 16) (hc : c ≤ 6200) (hw : ∀ y ∈ l, wLt np nv y ∧ (y.1 ≠ 3 → 0 ≤ y.2.1)) (hsafe : ∀ k, k < nv → (qBd l).testBit k = true)
    (hL : rLs G0 2 r c l) (h39 : G0 0 39 = (r : Int)) (h40 : G0 0 40 = ra) (h41 : G0 0 41 = rb) (hK : ra ≠ -1 → ∀ p, p < np → G0 7 p = (K p : Int)) (hT : rTb G0 np N R) (hR : ∀ p, p < np → (R p).length ≤ 100 ∧ ∀ w ∈ R p, ∀ x ∈ w.1, vOk x)
    (hP : ∀ W G G', P W G → (∀ o j, ¬ (o = 0 ∧ (j = 37 ∨ j = 42)) → o ≠ 110 → o ≠ 111 → G' o j = G o j) → P W G')
    (hU : ∀ W G m, P W G → G 0 43 = 0 → xE G0 G → rBn G m nv → (∀ k, k < nv → m.testBit k = true) → sNC l R (G 110) → W.length < 1000000 → ∃ G', g283 f G = some G' ∧ P (W ++ [vOf G nv]) G' ∧ xUs G G') :
    ∀ (rest : List pLt) (i n m : Nat) (G : xG_) (W : List (List Int)), l.drop i = rest → i ≤ l.length → rest.length < n → xE G0 G → rBn G m nv → (∀ k, (qA (l.take i)).testBit k = true → m.testBit k = true) → P W G → G 0 43 = 0 → W.length + qB3 rest ≤ 1000000 →
      ∃ G' V, g275r f n (i : Int) G = some G' ∧ xE G0 G' ∧ G' 0 37 = (m : Int) ∧ (∀ k, m.testBit k = true → G' 110 k = G 110 k) ∧ P (W ++ V) G' ∧ V.length ≤ qB3 rest ∧ V.Nodup ∧ (∀ v ∈ V, v.length = nv ∧ vXt m (G 110) (vF v) ∧ sAR rest R (qOp K ra rb) (vF v) ∧ sNC l R (vF v) ∧ ∀ x ∈ v, vOk x) ∧ (G' 0 43 = 0 → ∀ v : List Int, v.length = nv → vXt m (G 110) (vF v) → sAR rest R (qOp K ra rb) (vF v) → sNC l R (vF v) → v ∈ V) := by
  have hw1 : ∀ y ∈ l, wLt np nv y := fun y hy => (hw y hy).1
  have hl8 := hL.2.1
  intro rest
  induction rest with
  | nil =>
    intro i n m G W h1 h2 h3 hE hm hA hPW h43 hW
    obtain ⟨n, rfl⟩ : ∃ t, n = t + 1 := ⟨n - 1, by have : 0 < n := h3; omega⟩
    have hi : i = l.length := by
      have : (l.drop i).length = 0 := by rw [h1]; rfl
      rw [List.length_drop] at this
      omega
    have hLG : rLs G 2 r c l := hL.v (fun a j _ _ => hE _ _ (by omega) (by omega))
    have h39G : G 0 39 = (r : Int) := by rw [hE _ _ (by omega) (by omega)]; exact h39
    have hTG : rTb G np N R := hT.ge (fun a j _ _ => hE _ _ (by omega) (by omega))
    have h19 : G 21 r = (l.length : Int) := hLG.1
    have e1 : g275r f (n + 1) (i : Int) G = g276 f G := by
      have n1 : ¬ ¬ (i : Int) = (l.length : Int) := fun q => q (by omega)
      show g275b (g275r f n) f _ _ = _
      unfold g275b
      rw [if_pos h43, h39G, if_pos (by omega), Int.toNat_natCast]
      show (if ¬ (i : Int) = G 21 r then _ else _) = _
      rw [h19, if_neg n1]
      cases g276 f G <;> rfl
    obtain ⟨G1, k1, k2⟩ := l_fw (f := f) hf hr hnv hnp hc hw hsafe (fun k hk => hA k (by rw [hi, List.take_length]; exact hk)) hLG h39G hm hTG
    rw [e1]
    have xE1 : xE G0 G1 := fun o j y1 y2 => by rw [k1.1 o j (by omega) (by omega) (by omega), hE o j y1 y2]
    rcases k2 with ⟨k2, k3⟩ | ⟨m', k2, k3, k4, k5, k6⟩
    · refine ⟨xup2 G1 0 37 (m : Int), [], k2, fun o j y1 y2 => by rw [xup2_n (by omega), xE1 o j y1 y2], xup2_s _ _ _ _, fun k hk => by rw [xup2_n (by omega)]; exact k1.2 k hk, ?_, Nat.zero_le _, List.nodup_nil, fun v hv => absurd hv (by simp), fun _ v _ hv _ hs => absurd hs (k3 _ hv)⟩
      rw [List.append_nil]
      exact hP W G _ hPW (fun o j y1 y2 y3 => by rw [xup2_n (by omega), k1.1 o j y1 y2 y3])
    · obtain ⟨G2, u1, u2, u3⟩ := hU W G1 m' (hP W G G1 hPW k1.1) (by rw [k1.1 _ _ (by omega) (by omega) (by omega)]; exact h43) xE1 k2 k3 k4 (by have : W.length + 1 ≤ 1000000 := hW; omega)
      have hv : ∀ k, k < nv → vF (vOf G1 nv) k = G1 110 k := fun k hk => vOf_get hk
      refine ⟨xup2 G2 0 37 (m : Int), [vOf G1 nv], k6 G2 u1, fun o j y1 y2 => by rw [xup2_n (by omega), u3 o j (by omega) (by omega), xE1 o j y1 y2], xup2_s _ _ _ _, fun k hk => by rw [xup2_n (by omega), u3 _ _ (by omega) (by omega)]; exact k1.2 k hk, hP _ G2 _ u2 (fun o j y1 y2 y3 => xup2_n (by omega)), Nat.le_refl _, List.nodup_cons.mpr ⟨by simp, List.nodup_nil⟩, fun v hvm => ?_, fun _ v h4 h5 _ h7 => ?_⟩
      · rw [List.mem_singleton.mp hvm]
        refine ⟨vOf_len _ _, fun k hk => ?_, fun y hy => absurd hy (by simp), sNC_xt hw1 (fun k hk => (hv k hk).symm) k4, fun x hx => ?_⟩
        · rw [hv k (hm.2.2 k hk).1]
          exact k1.2 k hk
        · unfold vOf at hx
          obtain ⟨k, hk, rfl⟩ := List.mem_map.mp hx
          exact (k2.2.2 k (k3 k (List.mem_range.mp hk))).2
      · rw [List.mem_singleton]
        have h8 := k5 (vF v) h5 h7
        refine List.ext_getElem (by rw [h4, vOf_len]) (fun k q1 q2 => ?_)
        have h9 := h8 k (by omega)
        rw [← hv k (by omega)] at h9
        unfold vF at h9
        rw [getD_e q1, getD_e q2] at h9
        exact h9
  | cons y rest ih =>
    intro i n m G W h1 h2 h3 hE hm hA hPW h43 hW
    have h3' : rest.length + 1 < n := h3
    obtain ⟨n, rfl⟩ : ∃ t, n = t + 1 := ⟨n - 1, by omega⟩
    have hi : i < l.length := by
      have : (l.drop i).length = (y :: rest).length := by rw [h1]
      rw [List.length_drop, List.length_cons] at this
      omega
    have hy : l.getD i dLt = y ∧ l.drop (i + 1) = rest := by
      rw [List.drop_eq_getElem_cons hi] at h1
      injection h1 with e1 e2
      exact ⟨by rw [getD_e hi]; exact e1, e2⟩
    have hym : y ∈ l := by
      rw [← hy.1, getD_e hi]
      exact List.getElem_mem hi
    obtain ⟨hwy, hwy0⟩ := hw y hym
    have hLy0 := hL.2.2 i hi
    rw [hy.1] at hLy0
    have ex : xwr (xwr ((r : Int) * 8) + (i : Int)) = ((8 * r + i : Nat) : Int) := by
      rw [xwr_g ((r : Int) * 8) (by omega) (by omega), xwr_g _ (by omega) (by omega)]; omega
    have ei : xwr ((i : Int) + 1) = ((i + 1 : Nat) : Int) := by rw [xwr_g _ (by omega) (by omega)]; omega
    have hxx : 0 ≤ ((8 * r + i : Nat) : Int) ∧ ((8 * r + i : Nat) : Int) < 200 := by omega
    have env : ∀ {Z : xG_}, xE G0 Z → rLs Z 2 r c l ∧ Z 0 39 = (r : Int) ∧ Z 21 r = (l.length : Int) ∧ Z 27 (8 * r + i) = y.1 ∧ Z 28 (8 * r + i) = G0 28 (8 * r + i) ∧ rTb Z np N R := fun {Z} hZ => ⟨hL.v (fun a j _ _ => hZ _ _ (by omega) (by omega)), by rw [hZ _ _ (by omega) (by omega)]; exact h39, by rw [hZ _ _ (by omega) (by omega)]; exact hL.1, by rw [hZ _ _ (by omega) (by omega)]; exact hLy0.1, hZ _ _ (by omega) (by omega), hT.ge (fun a j _ _ => hZ _ _ (by omega) (by omega))⟩
    obtain ⟨_, v39, v21, v27, v28, _⟩ := env hE
    have n1 : ¬ (i : Int) = (l.length : Int) := by omega
    have e1 : g275r f (n + 1) (i : Int) G = if y.1 = 1 then g275_79 (g275r f n) f f (i : Int) ((8 * r + i : Nat) : Int) (G 28 (8 * r + i)) (G 0 37) 0 G else g275r f n ((i + 1 : Nat) : Int) G := by
      show g275b (g275r f n) f _ _ = _
      unfold g275b
      rw [if_pos h43, v39]
      simp only [Nat.reduceAdd, Int.toNat_natCast]
      rw [if_pos (by omega), v21, if_pos n1]
      simp only [ex, if_pos hxx, Int.toNat_natCast]
      rw [v27, ei]
      by_cases c1 : y.1 = 1
      · rw [if_pos c1, if_pos c1]
      · rw [if_neg c1, if_neg c1]
        cases g275r f n ((i + 1 : Nat) : Int) G <;> rfl
    have takes : l.take (i + 1) = l.take i ++ [y] := by
      rw [List.take_succ_eq_append_getElem hi, ← hy.1, getD_e hi]
    have qAs : qA (l.take (i + 1)) = qA (l.take i) ||| (if y.1 = 1 then qT y.2.2.2.1 else 0) := by
      rw [takes, qA_ap]
      show qA (l.take i) ||| ((if y.1 = 1 then qT y.2.2.2.1 else 0) ||| 0) = _
      rw [Nat.or_zero]
    by_cases c1 : y.1 = 1
    · have hB : qB3 (y :: rest) = 100 * qB3 rest := by
        show (if y.1 = 1 then 100 * qB3 rest else qB3 rest) = _
        rw [if_pos c1]
      obtain ⟨t1, t2⟩ := hLy0.tm (by omega) (by omega)
      obtain ⟨p, hp⟩ : ∃ p : Nat, y.2.1 = (p : Int) := ⟨y.2.1.toNat, by have := hwy0 (by omega); omega⟩
      have hwT : (∀ x ∈ y.2.2.2.1, wT1 nv x) ∧ y.2.1 < np := by
        rcases hwy with z | z
        · exact ⟨z.2.2.2.2.2, z.2.2.1⟩
        · omega
      have hTk : ∀ k, k < y.2.2.2.1.length → (y.2.2.2.1.getD k (0, 0)).1 = 1 ∨ (y.2.2.2.1.getD k (0, 0)).1 = 2 ∨ (y.2.2.2.1.getD k (0, 0)).1 = 3 := fun k hk => by
        have hwk : wT1 nv (y.2.2.2.1.getD k (0, 0)) := hwT.1 _ (by rw [getD_e hk]; exact List.getElem_mem hk)
        rcases hwk with z | z | z
        · exact .inl z.1
        · exact .inr (.inl z)
        · exact .inr (.inr z.1)
      have hpp : y.2.1.toNat = p := by omega
      obtain ⟨hR1, hR2⟩ := hR p (by omega)
      have hrow : ∀ j, ∀ k, vOk (((R p).getD j dRw).1.getD k 0) := fun j k => by
        by_cases cj : j < (R p).length
        · by_cases ck : k < ((R p).getD j dRw).1.length
          · rw [getD_e (l := ((R p).getD j dRw).1) ck]
            exact hR2 _ (by rw [getD_e cj]; exact List.getElem_mem cj) _ (List.getElem_mem ck)
          · rw [List.getD_eq_getElem?_getD, List.getElem?_eq_none (by omega)]
            exact vOk_0
        · have : (R p).getD j dRw = dRw := by rw [List.getD_eq_getElem?_getD, List.getElem?_eq_none (by omega)]; rfl
          rw [this]
          show vOk (([] : List Int).getD k 0)
          rw [show ([] : List Int).getD k 0 = 0 from by simp]
          exact vOk_0
      -- which rows come to WAYS
      let sel : Nat → (Nat → Int) → Prop := fun z v => z < (R p).length ∧ qOp K ra rb p ((R p).getD z dRw) ∧ sTs v y.2.2.2.1 ((R p).getD z dRw).1 ∧ ¬ ∃ j, j < z ∧ qOp K ra rb p ((R p).getD j dRw) ∧ aLk y.2.2.2.1 ((R p).getD z dRw).1 ((R p).getD j dRw).1
      have loop : ∀ (d j fu : Nat) (Z : xG_) (W : List (List Int)), j + d = (R p).length → d < fu → xE G0 Z → rBn Z m nv → P W Z → W.length + d * qB3 rest ≤ 1000000 →
          ∃ G' V, g275_79 (g275r f n) f fu (i : Int) ((8 * r + i : Nat) : Int) (p : Int) (m : Int) (j : Int) Z = some G' ∧ xE G0 G' ∧ G' 0 37 = (m : Int) ∧ (∀ k, m.testBit k = true → G' 110 k = Z 110 k) ∧ P (W ++ V) G' ∧ V.length ≤ d * qB3 rest ∧ V.Nodup ∧ (∀ v ∈ V, v.length = nv ∧ vXt m (Z 110) (vF v) ∧ sAR rest R (qOp K ra rb) (vF v) ∧ sNC l R (vF v) ∧ (∀ x ∈ v, vOk x) ∧ ∃ z, j ≤ z ∧ sel z (vF v)) ∧ (G' 0 43 = 0 → ∀ v : List Int, v.length = nv → vXt m (Z 110) (vF v) → sAR rest R (qOp K ra rb) (vF v) → sNC l R (vF v) → (∃ z, j ≤ z ∧ sel z (vF v)) → v ∈ V) := by
        intro d
        induction d with
        | zero =>
          intro j fu Z W q1 q2 hZ hmZ hPZ hWZ
          obtain ⟨fu, rfl⟩ : ∃ t, fu = t + 1 := ⟨fu - 1, by omega⟩
          have h108 : Z 108 p = ((R p).length : Int) := ((env hZ).2.2.2.2.2 p (by omega)).1.1
          refine ⟨Z, [], ?_, hZ, hmZ.1, fun _ _ => rfl, by rw [List.append_nil]; exact hPZ, Nat.zero_le _, List.nodup_nil, fun v hv => absurd hv (by simp), fun _ v _ _ _ _ ⟨z, z1, z2⟩ => ?_⟩
          · show g275_79b (g275r f n) (g275_79 (g275r f n) f fu) f _ _ _ _ _ _ = _
            unfold g275_79b g275_247
            rw [if_pos (by omega), Int.toNat_natCast, h108, if_pos (by omega)]
          · have := z2.1
            omega
        | succ d ihd =>
          intro j fu Z W q1 q2 hZ hmZ hPZ hWZ
          obtain ⟨fu, rfl⟩ : ∃ t, fu = t + 1 := ⟨fu - 1, by omega⟩
          obtain ⟨eL, e39, e21, e27, e28, eT⟩ := env hZ
          have hRZ : rRw Z p (N p) (R p) := (eT p (by omega)).1
          have hj : j < (R p).length := by omega
          have ej : xwr ((j : Int) + 1) = ((j + 1 : Nat) : Int) := by rw [xwr_g _ (by omega) (by omega)]; omega
          by_cases c43 : Z 0 43 = 0
          · have tZ : rTm Z (8 * r + i) y.2.2.2.1 := by
              have := (eL.2.2 i hi)
              rw [hy.1] at this
              exact (this.tm (by omega) (by omega)).2
            have z40 : Z 0 40 = ra := by rw [hZ _ _ (by omega) (by omega)]; exact h40
            have z41 : Z 0 41 = rb := by rw [hZ _ _ (by omega) (by omega)]; exact h41
            have zK : ra ≠ -1 → Z 7 p = (K p : Int) := fun q => by rw [hZ _ _ (by omega) (by omega)]; exact hK q p (by omega)
            obtain ⟨b1, o1, o2⟩ := l_271 (f := f) (by omega) hRZ hj z40 z41 zK
            obtain ⟨b2, f1, f2⟩ := l_272 (f := f) (by omega) (by omega) tZ hwT.1 hnv hRZ hj hmZ.2.1 hmZ.1
            obtain ⟨b3, a1, a2⟩ := l_274 (f := f) (K := K) (by omega) (by omega) tZ hRZ hj z40 z41 zK
            have step : g275_79 (g275r f n) f (fu + 1) (i : Int) ((8 * r + i : Nat) : Int) (p : Int) (m : Int) (j : Int) Z = if b1 = 0 then g275_79 (g275r f n) f fu (i : Int) ((8 * r + i : Nat) : Int) (p : Int) (m : Int) ((j + 1 : Nat) : Int) Z else if b2 = 0 then g275_79 (g275r f n) f fu (i : Int) ((8 * r + i : Nat) : Int) (p : Int) (m : Int) ((j + 1 : Nat) : Int) Z else if b3 = 0 then g275_135 (g275r f n) (g275_79 (g275r f n) f fu) f f (i : Int) ((8 * r + i : Nat) : Int) (p : Int) (m : Int) (j : Int) 0 Z else g275_79 (g275r f n) f fu (i : Int) ((8 * r + i : Nat) : Int) (p : Int) (m : Int) ((j + 1 : Nat) : Int) Z := by
              have n43 : ¬ ¬ Z 0 43 = 0 := fun q => q c43
              show g275_79b (g275r f n) (g275_79 (g275r f n) f fu) f _ _ _ _ _ _ = _
              unfold g275_79b g275_241
              rw [if_pos (by omega), Int.toNat_natCast, hRZ.1, if_neg (by omega), if_neg n43, o1, Option.bind_some, ej]
              show (if b1 = 0 then _ else Option.bind (g272 f _ _ _ Z) _) = _
              rw [f1, Option.bind_some]
              show (if b1 = 0 then _ else (if b2 = 0 then _ else Option.bind (g274 f _ _ _ Z) _)) = _
              rw [a1, Option.bind_some]
            rw [step]
            have skip : (∀ v, vXt m (Z 110) v → ¬ sel j v) → ∃ G' V, g275_79 (g275r f n) f fu (i : Int) ((8 * r + i : Nat) : Int) (p : Int) (m : Int) ((j + 1 : Nat) : Int) Z = some G' ∧ xE G0 G' ∧ G' 0 37 = (m : Int) ∧ (∀ k, m.testBit k = true → G' 110 k = Z 110 k) ∧ P (W ++ V) G' ∧ V.length ≤ (d + 1) * qB3 rest ∧ V.Nodup ∧ (∀ v ∈ V, v.length = nv ∧ vXt m (Z 110) (vF v) ∧ sAR rest R (qOp K ra rb) (vF v) ∧ sNC l R (vF v) ∧ (∀ x ∈ v, vOk x) ∧ ∃ z, j ≤ z ∧ sel z (vF v)) ∧ (G' 0 43 = 0 → ∀ v : List Int, v.length = nv → vXt m (Z 110) (vF v) → sAR rest R (qOp K ra rb) (vF v) → sNC l R (vF v) → (∃ z, j ≤ z ∧ sel z (vF v)) → v ∈ V) := by
              intro hn
              have hdm : (d + 1) * qB3 rest = d * qB3 rest + qB3 rest := Nat.succ_mul _ _
              obtain ⟨G', V, u1, u2, u3, u4, u5, u6, u7, u8, u9⟩ := ihd (j + 1) fu Z W (by omega) (by omega) hZ hmZ hPZ (by omega)
              refine ⟨G', V, u1, u2, u3, u4, u5, by omega, u7, fun v hv => ?_, fun h v w1 w2 w3 w4 ⟨z, w5, w6⟩ => u9 h v w1 w2 w3 w4 ⟨z, ?_, w6⟩⟩
              · obtain ⟨w1, w2, w3, w4, w5, z, w6, w7⟩ := u8 v hv
                exact ⟨w1, w2, w3, w4, w5, z, by omega, w7⟩
              · by_cases cz : z = j
                · rw [cz] at w6; exact absurd w6 (hn _ w2)
                · omega
            rcases o2 with ⟨o2, o3⟩ | ⟨o2, o3⟩
            · rw [if_neg (by omega)]
              rcases f2 with ⟨f2, f3⟩ | ⟨f2, f3⟩
              · rw [if_neg (by omega)]
                rcases a2 with ⟨a2, a3⟩ | ⟨a2, a3⟩
                · rw [if_neg (by omega)]
                  exact skip (fun v _ hs => hs.2.2.2 a3)
                · rw [if_pos a2]
                  obtain ⟨G1, g1, g2, g3, g4, g5⟩ := l_275_135 (f := f) (q := g275r f n) (r79 := g275_79 (g275r f n) f fu) (m := m) (z := i) (j := j) (xs := ((R p).getD j dRw).1) (by omega : p < 16) (by omega) (by omega : 8 * r + i < 200) (by omega) hwT.1 hnv tZ.2.2.1 (hrow j) y.2.2.2.1.length 0 f m Z (by omega) (by have := tZ.2.2.1; omega) tZ (hRZ.2.2 j hj).2.1 hmZ f3
                  have g1' : g275_135 (g275r f n) (g275_79 (g275r f n) f fu) f f (i : Int) ((8 * r + i : Nat) : Int) (p : Int) (m : Int) (j : Int) 0 Z = _ := g1
                  rw [List.drop_zero] at g2
                  have xE1 : xE G0 G1 := fun o b y1 y2 => by rw [g5 o b (by omega) (by omega)]; exact hZ o b y1 y2
                  have ext1 : ∀ v, vXt (m ||| qT y.2.2.2.1) (G1 110) v → vXt m (Z 110) v ∧ sTs v y.2.2.2.1 ((R p).getD j dRw).1 := fun v hv => by
                    refine ⟨fun k hk => ?_, fun k hk => ⟨fun ck => ?_, fun ck => (f3 k hk).1 ck⟩⟩
                    · rw [hv k (by rw [Nat.testBit_or, hk, Bool.true_or])]
                      exact g4 k hk
                    · rw [hv _ (by rw [Nat.testBit_or, qT_get.mpr ⟨k, hk, ck, rfl⟩, Bool.or_true])]
                      exact g3 k (Nat.zero_le _) hk ck
                  have ext2 : ∀ v, vXt m (Z 110) v → sTs v y.2.2.2.1 ((R p).getD j dRw).1 → vXt (m ||| qT y.2.2.2.1) (G1 110) v := fun v hv hs k hk => by
                    rw [Nat.testBit_or, Bool.or_eq_true] at hk
                    rcases hk with hk | hk
                    · rw [g4 k hk]; exact hv k hk
                    · obtain ⟨j', w1, w2, w3⟩ := qT_get.mp hk
                      rw [← w3, g3 j' (Nat.zero_le _) w1 w2]
                      exact (hs j' w1).1 w2
                  have hdm : (d + 1) * qB3 rest = d * qB3 rest + qB3 rest := Nat.succ_mul _ _
                  obtain ⟨G2, V1, u1, u2, u3, u4, u5, u6, u7, u8, u9⟩ := ih (i + 1) n (m ||| qT y.2.2.2.1) G1 W hy.2 (by omega) (by omega) xE1 g2 (fun k hk => by
                    rw [qAs, if_pos c1, Nat.testBit_or, Bool.or_eq_true] at hk
                    rw [Nat.testBit_or, Bool.or_eq_true]
                    exact hk.imp (hA k) id) (hP W Z G1 hPZ (fun o b y1 y2 _ => g5 o b (by omega) y2)) (by rw [g5 _ _ (by omega) (by omega)]; exact c43) (by omega)
                  have m110 : ∀ k, m.testBit k = true → xup2 G2 0 37 (m : Int) 110 k = Z 110 k := fun k hk => by
                    rw [xup2_n (by omega), u4 k (by rw [Nat.testBit_or, hk, Bool.true_or])]
                    exact g4 k hk
                  obtain ⟨G3, V2, t1, t2, t3, t4, t5, t6, t7, t8, t9⟩ := ihd (j + 1) fu (xup2 G2 0 37 (m : Int)) (W ++ V1) (by omega) (by omega) (fun o b y1 y2 => by rw [xup2_n (by omega)]; exact u2 o b y1 y2) ⟨xup2_s _ _ _ _, hmZ.2.1, fun k hk => by rw [m110 k hk]; exact hmZ.2.2 k hk⟩ (hP _ G2 _ u5 (fun o b y1 y2 y3 => xup2_n (by omega))) (by rw [List.length_append]; omega)
                  have xm : ∀ v, vXt m (xup2 G2 0 37 (m : Int) 110) v ↔ vXt m (Z 110) v := fun v => ⟨fun q k hk => by rw [q k hk]; exact m110 k hk, fun q k hk => by rw [q k hk]; exact (m110 k hk).symm⟩
                  refine ⟨G3, V1 ++ V2, ?_, t2, t3, fun k hk => by rw [t4 k hk]; exact m110 k hk, by rw [← List.append_assoc]; exact t5, by rw [List.length_append]; omega, ?_, fun v hv => ?_, fun h v w1 w2 w3 w4 ⟨z, w5, w6⟩ => ?_⟩
                  · rw [g1', u1, Option.bind_some]
                    exact t1
                  · rw [List.nodup_append]
                    refine ⟨u7, t7, fun a ha b hb hab => ?_⟩
                    rw [← hab] at hb
                    obtain ⟨_, w2, _, _, _⟩ := u8 a ha
                    obtain ⟨_, _, _, _, _, z, w6, w7⟩ := t8 a hb
                    exact w7.2.2.2 ⟨j, by omega, o3, sTs_al w7.2.2.1 (ext1 _ w2).2 hTk⟩
                  · rcases List.mem_append.mp hv with hv | hv
                    · obtain ⟨w1, w2, w3, w4, w5⟩ := u8 v hv
                      obtain ⟨w6, w7⟩ := ext1 _ w2
                      exact ⟨w1, w6, w3, w4, w5, j, Nat.le_refl _, hj, o3, w7, a3⟩
                    · obtain ⟨w1, w2, w3, w4, w5, z, w6, w7⟩ := t8 v hv
                      exact ⟨w1, (xm _).mp w2, w3, w4, w5, z, by omega, w7⟩
                  · rw [List.mem_append]
                    by_cases c2 : xup2 G2 0 37 (m : Int) 0 43 = 0
                    · by_cases cz : z = j
                      · rw [cz] at w6
                        exact .inl (u9 (by rw [xup2_n (by omega)] at c2; exact c2) v w1 (ext2 _ w2 w6.2.2.1) w3 w4)
                      · exact .inr (t9 h v w1 ((xm _).mpr w2) w3 w4 ⟨z, by omega, w6⟩)
                    · exfalso
                      have same : G3 = xup2 G2 0 37 (m : Int) := by
                        obtain ⟨fu, rfl⟩ : ∃ t, fu = t + 1 := ⟨fu - 1, by omega⟩
                        have hRR : xup2 G2 0 37 (m : Int) 108 p = ((R p).length : Int) := by
                          rw [xup2_n (by omega), u2 _ _ (by omega) (by omega)]
                          exact (hT p (by omega)).1.1
                        have e9 : g275_79b (g275r f n) (g275_79 (g275r f n) f fu) f (i : Int) ((8 * r + i : Nat) : Int) (p : Int) (m : Int) ((j + 1 : Nat) : Int) (xup2 G2 0 37 (m : Int)) = some G3 := t1
                        unfold g275_79b g275_247 at e9
                        rw [if_pos (by omega), Int.toNat_natCast, hRR] at e9
                        by_cases c5 : ((R p).length : Int) ≤ ((j + 1 : Nat) : Int)
                        · rw [if_pos c5] at e9
                          injection e9 with e9
                          exact e9.symm
                        · rw [if_neg c5, if_pos c2] at e9
                          injection e9 with e9
                          exact e9.symm
                      rw [same] at h
                      exact c2 h
              · rw [if_pos f2]
                exact skip (fun v hv hs => f3 (sTs_fit (nv := nv) hv hs.2.2.1))
            · rw [if_pos o2]
              exact skip (fun v _ hs => o3 hs.2.1)
          · refine ⟨Z, [], ?_, hZ, hmZ.1, fun _ _ => rfl, by rw [List.append_nil]; exact hPZ, Nat.zero_le _, List.nodup_nil, fun v hv => absurd hv (by simp), fun h => absurd h c43⟩
            show g275_79b (g275r f n) (g275_79 (g275r f n) f fu) f _ _ _ _ _ _ = _
            unfold g275_79b g275_247
            rw [if_pos (by omega), Int.toNat_natCast, hRZ.1, if_neg (by omega), if_pos c43]
      rw [hB] at hW
      have hmul : (R p).length * qB3 rest ≤ 100 * qB3 rest := Nat.mul_le_mul_right _ hR1
      obtain ⟨G', V, u1, u2, u3, u4, u5, u6, u7, u8, u9⟩ := loop (R p).length 0 f G W (by omega) (by omega) hE hm hPW (by omega)
      have t1' : G0 28 (8 * r + i) = (p : Int) := by rw [t1]; exact hp
      refine ⟨G', V, ?_, u2, u3, u4, u5, by rw [hB]; omega, u7, fun v hv => ?_, fun h v w1 w2 w3 w4 => ?_⟩
      · rw [e1, if_pos c1, v28, t1', hm.1]
        exact u1
      · obtain ⟨w1, w2, w3, w4, w5, z, w6, w7⟩ := u8 v hv
        refine ⟨w1, w2, fun y' hy' c' => ?_, w4, w5⟩
        rcases List.mem_cons.mp hy' with e | e
        · rw [e, hpp]
          exact ⟨(R p).getD z dRw, by rw [getD_e w7.1]; exact List.getElem_mem w7.1, w7.2.1, w7.2.2.1⟩
        · exact w3 y' e c'
      · obtain ⟨w, k1, k2, k3⟩ := w3 y List.mem_cons_self c1
        rw [hpp] at k1 k2
        obtain ⟨z0, hz0, rfl⟩ := List.getElem_of_mem k1
        obtain ⟨z, z1, z2, z3⟩ := least_i (Q := fun z => z < (R p).length ∧ qOp K ra rb p ((R p).getD z dRw) ∧ sTs (vF v) y.2.2.2.1 ((R p).getD z dRw).1) z0 ⟨hz0, by rw [getD_e hz0]; exact k2, by rw [getD_e hz0]; exact k3⟩
        refine u9 h v w1 w2 (fun y' hy' => w3 y' (List.mem_cons_of_mem _ hy')) w4 ⟨z, Nat.zero_le _, z2.1, z2.2.1, z2.2.2, ?_⟩
        rintro ⟨j, q1, q2, q3⟩
        exact z3 j q1 ⟨by have := z2.1; omega, q2, aLk_s z2.2.2 q3⟩
    · have hB : qB3 (y :: rest) = qB3 rest := by
        show (if y.1 = 1 then 100 * qB3 rest else qB3 rest) = _
        rw [if_neg c1]
      rw [hB] at hW ⊢
      obtain ⟨G', V, u1, u2, u3, u4, u5, u6, u7, u8, u9⟩ := ih (i + 1) n m G W hy.2 (by omega) (by omega) hE hm (fun k hk => hA k (by rw [qAs, if_neg c1, Nat.or_zero] at hk; exact hk)) hPW h43 hW
      refine ⟨G', V, by rw [e1, if_neg c1]; exact u1, u2, u3, u4, u5, u6, u7, fun v hv => ?_, fun h v w1 w2 w3 w4 => u9 h v w1 w2 (fun y' hy' => w3 y' (List.mem_cons_of_mem _ hy')) w4⟩
      obtain ⟨w1, w2, w3, w4⟩ := u8 v hv
      refine ⟨w1, w2, fun y' hy' c' => ?_, w4⟩
      rcases List.mem_cons.mp hy' with e | e
      · rw [e] at c'; exact absurd c' c1
      · exact w3 y' e c'
end
