/-! THE CLASS: makePlan() -/
/-- the VARIABLES that a HEAD asks for -/
def qIm : List pCd → Nat
  | [] => 0
  | E :: r => qVm E ||| qIm r
def qAs (g : Int × Int × Int) (I : List pCd) : Nat := (if g.1 = 0 ∨ g.1 = 10 then 0 else 2 ^ g.2.2.toNat) ||| qIm I
/-- what is asked for behind LITERALS in this order -/
def plA (Ls : List pLt) (a : Nat) : List Nat → Nat
  | [] => a
  | p :: r => plA Ls a r ||| qLv (Ls.getD p dLt)
/-- the plan of a rule -/
def cPl (G : xG_) (u nv : Nat) (Ls : List pLt) (a : Nat) : Prop := ∃ pl : List Nat, pl.length = Ls.length ∧ (∀ k, k < Ls.length → G (u + 9) k = ((pl.getD k 0 : Nat) : Int) ∧ pl.getD k 0 < Ls.length ∧ G (u + 10) k = ((plA Ls a (pl.drop (k + 1)) : Nat) : Int)) ∧ (sfe Ls nv → pl.Nodup ∧ ∃ b, plB Ls pl 0 = some b)
theorem qIm_ap (I : List pCd) (E : pCd) : qIm (I ++ [E]) = qIm I ||| qVm E := by
  induction I with
  | nil => show qVm E ||| 0 = 0 ||| qVm E; rw [Nat.or_zero, Nat.zero_or]
  | cons x q ih => show qVm x ||| qIm (q ++ [E]) = qVm x ||| qIm q ||| qVm E; rw [ih, Nat.or_assoc]
theorem qIm_8 {nv : Nat} (hnv : nv ≤ 8) : ∀ {I : List pCd}, (∀ E ∈ I, wC nv E) → qIm I < 2 ^ 8
  | [], _ => by decide
  | E :: r, h => Nat.or_lt_two_pow (qVm_8 hnv (h E (List.mem_cons_self ..))) (qIm_8 hnv (fun y hy => h y (List.mem_cons_of_mem _ hy)))
theorem plA_8 {Ls : List pLt} {a nv : Nat} (ha : a < 2 ^ 8) (hw : ∀ y ∈ Ls, wLv nv y) (hnv : nv ≤ 8) : ∀ (pl : List Nat), (∀ p ∈ pl, p < Ls.length) → plA Ls a pl < 2 ^ 8
  | [], _ => ha
  | p :: r, h => Nat.or_lt_two_pow (plA_8 ha hw hnv r (fun q hq => h q (List.mem_cons_of_mem _ hq))) (by
      have hp := h p (List.mem_cons_self ..)
      exact qLv_8 (by rw [getD_e hp]; exact hw _ (List.getElem_mem hp)) hnv)
section
variable {f u s nv l pm b st : Nat} {S : Nat → Nat × Nat × Nat} {G G' : xG_} {m : Nat × Nat} {K E : pCd} {Ls : List pLt} {x : pLt} {g : Int × Int × Int} {I : List pCd}
theorem st_196 {k p : Nat} {a v : Int} {r : Nat → Int → Int → xT_ → Option (xT_)} (u2 : 278 < u) (hk : k < 8) (us : S u = (1, 6, 20)) (us9 : S (u + 9) = (2, 3, 8)) (us10 : S (u + 10) = (2, 3, 8)) (w18 : G u 18 = ((u + 9 : Nat) : Int)) (w19 : G u 19 = ((u + 10 : Nat) : Int)) (hp : G (u + 9) k = (p : Int)) (e93 : c93 f u (p : Int) (S, xup2 G (u + 10) k a, m) = some (v, (S, xup2 G (u + 10) k a, m))) : c96_196b r f u a (k : Int) (S, G, m) = r u (xor_ a v) (xwr ((k : Int) + (-1))) (S, xup2 G (u + 10) k a, m) := by
  unfold c96_196b
  simp (disch := omega) only [cq_gi, cq_gr, cq_a, cq_s, cq_p, cq_pr, cq_is, cq_ar, cq_ab, cq_ln, xq_nz, Option.bind_some, xup2_n, xup2_s, Int.toNat_natCast, Int.reduceToNat, if_pos, if_neg, true_and, and_true, and_self, eq_self, if_true, reduceIte, not_true_eq_false, not_false_eq_true, or_true, true_or, us, us9, us10, w18, w19, hp, e93]
theorem k_196 (hf : 3010 < f) (hw : ∀ y ∈ Ls, wLv nv y) (hnv : nv ≤ 8) {a : Nat} (ha : a < 2 ^ 8) {pl : List Nat} (hpl : pl.length = Ls.length) (hpm : ∀ k, k < Ls.length → pl.getD k 0 < Ls.length) : ∀ (k fu : Nat) (G : xG_), k ≤ Ls.length → k < fu → cRq S G u K Ls → (∀ j, j < Ls.length → G (u + 9) j = ((pl.getD j 0 : Nat) : Int)) → ∃ G', c96_196 f fu u ((plA Ls a (pl.drop k) : Nat) : Int) ((k : Int) - 1) (S, G, m) = some (S, G', m) ∧ (∀ b j, b ≠ u + 10 → G' b j = G b j) ∧ (∀ j, k ≤ j → G' (u + 10) j = G (u + 10) j) ∧ ∀ j, j < k → G' (u + 10) j = ((plA Ls a (pl.drop (j + 1)) : Nat) : Int) := by
  intro k
  induction k with
  | zero =>
    intro fu G h1 h2 hR hr
    obtain ⟨fu, rfl⟩ : ∃ t, fu = t + 1 := ⟨fu - 1, by omega⟩
    refine ⟨G, ?_, fun _ _ _ => rfl, fun _ _ => rfl, fun j hj => absurd hj (Nat.not_lt_zero j)⟩
    show c96_196b (c96_196 f fu) f u _ _ _ = _
    unfold c96_196b
    rw [if_pos (by omega)]
  | succ k ih =>
    intro fu G h1 h2 hR hr
    obtain ⟨fu, rfl⟩ : ∃ t, fu = t + 1 := ⟨fu - 1, by omega⟩
    have us := hR.1.1
    have us9 := hR.1.2.2.2.2.2.2.2.2.2.1
    have us10 := hR.1.2.2.2.2.2.2.2.2.2.2
    have w18 := hR.2.1.2.2.2.2.2.2.2.2.1
    have w19 := hR.2.1.2.2.2.2.2.2.2.2.2
    have u2 := hR.2.2.2.2.1
    have hl8 := hR.2.2.2.1.2.1
    have hp := hr k (by omega)
    have hpk := hpm k (by omega)
    have hR' : cRq S (xup2 G (u + 10) k ((plA Ls a (pl.drop (k + 1)) : Nat) : Int)) u K Ls := hR.pl (fun b j z1 z2 => xup2_n (fun y => z2 y.1))
    have hwp : wLv nv (Ls.getD (pl.getD k 0) dLt) := by rw [getD_e hpk]; exact hw _ (List.getElem_mem hpk)
    have e93 := k_93 (f := f) (m := m) hf hR' (by omega) (hR'.2.2.2.1.2.2 _ hpk) hwp hnv
    have e1 := st_196 (f := f) (m := m) (r := c96_196 f fu) u2 (by omega) us us9 us10 w18 w19 hp e93
    have ea : plA Ls a (pl.drop k) = plA Ls a (pl.drop (k + 1)) ||| qLv (Ls.getD (pl.getD k 0) dLt) := by
      rw [List.drop_eq_getElem_cons (by omega : k < pl.length), getD_e (by omega : k < pl.length)]
      rfl
    have hall : ∀ p ∈ pl, p < Ls.length := fun p hp => by
      obtain ⟨j, hj, e⟩ := List.mem_iff_getElem.mp hp
      have := hpm j (by omega)
      rw [getD_e hj, e] at this
      exact this
    have b1 := plA_8 ha hw hnv (pl.drop (k + 1)) (fun p hp => hall p (List.mem_of_mem_drop hp))
    have b2 := qLv_8 hwp hnv
    rw [show Ls.getD (pl.getD k 0) (0, 0, 0, [], [], []) = Ls.getD (pl.getD k 0) dLt from rfl, xor_nat (by omega) (by omega), ← ea] at e1
    have ek : xwr ((k : Int) + (-1)) = (k : Int) - 1 := by rw [xwr_g _ (by omega) (by omega)]; omega
    rw [ek] at e1
    obtain ⟨G', j1, j2, j3, j4⟩ := ih fu _ (by omega) (by omega) hR' (fun j hj => by rw [xup2_n (fun y => by have := y.1; omega)]; exact hr j hj)
    refine ⟨G', ?_, fun b j z => by rw [j2 b j z, xup2_n (fun y => z y.1)], fun j hj => by rw [j3 j (by omega), xup2_n (fun y => by have := y.2; omega)], fun j hj => ?_⟩
    · have ek' : ((k + 1 : Nat) : Int) - 1 = (k : Int) := by omega
      rw [ek']
      show c96_196b (c96_196 f fu) f u _ _ _ = _
      rw [e1]
      exact j1
    · by_cases cj : j = k
      · rw [cj, j3 k (Nat.le_refl _), xup2_s]
      · exact j4 j (by omega)
theorem st_164 {c a v : Int} {n : Nat} {k : Nat} {r : Nat → Int → Int → xT_ → Option (xT_)} (us : S u = (1, 6, 20)) (h2 : G u 2 = (n : Int)) (hk : k < n) (e92 : c92 f u (k : Int) (S, G, m) = some (v, (S, G, m))) : c96_164b r f u a (k : Int) (S, G, m) = r u (xor_ a v) (xwr ((k : Int) + 1)) (S, G, m) := by
  unfold c96_164b
  simp (disch := omega) only [cq_gi, cq_gr, cq_a, cq_s, cq_p, cq_pr, cq_is, cq_ar, cq_ab, cq_ln, xq_nz, Option.bind_some, xup2_n, xup2_s, Int.toNat_natCast, Int.reduceToNat, if_pos, if_neg, true_and, and_true, and_self, eq_self, if_true, reduceIte, not_true_eq_false, not_false_eq_true, or_true, true_or, us, h2, e92]
theorem st_164e {a : Int} {n k : Nat} {r : Nat → Int → Int → xT_ → Option (xT_)} (us : S u = (1, 6, 20)) (h2 : G u 2 = (n : Int)) (h8 : G u 8 = (k : Int)) : c96_164b r f u a (n : Int) (S, G, m) = c96_196 f f u a (xwr ((k : Int) - 1)) (S, G, m) := by
  unfold c96_164b
  simp (disch := omega) only [cq_gi, cq_gr, cq_a, cq_s, cq_p, cq_pr, cq_is, cq_ar, cq_ab, cq_ln, xq_nz, Option.bind_some, xup2_n, xup2_s, Int.toNat_natCast, Int.reduceToNat, if_pos, if_neg, true_and, and_true, and_self, eq_self, if_true, reduceIte, not_true_eq_false, not_false_eq_true, or_true, true_or, us, h2, h8]
theorem k_164 (hf : 3010 < f) (hR : cRq S G u K Ls) (hI : cIt G u K g I) (hwI : ∀ E ∈ I, wC nv E) (hnv : nv ≤ 8) {a : Nat} (ha : a < 2 ^ 8) : ∀ (d c fu : Nat), c + d = I.length → d < fu → c96_164 f fu u ((a ||| qIm (I.take c) : Nat) : Int) (c : Int) (S, G, m) = c96_196 f f u ((a ||| qIm I : Nat) : Int) ((Ls.length : Int) - 1) (S, G, m) := by
  have us := hR.1.1
  have h8 := hR.2.2.2.1.1
  have hl8 := hR.2.2.2.1.2.1
  have h4 := hI.2.1
  intro d
  induction d with
  | zero =>
    intro c fu h1 h2
    obtain ⟨fu, rfl⟩ : ∃ t, fu = t + 1 := ⟨fu - 1, by omega⟩
    have hc : c = I.length := by omega
    have ek : xwr ((Ls.length : Int) - 1) = (Ls.length : Int) - 1 := xwr_g _ (by omega) (by omega)
    rw [hc, List.take_length]
    show c96_164b (c96_164 f fu) f u _ _ _ = _
    rw [st_164e us hI.1 h8, ek]
  | succ d ih =>
    intro c fu h1 h2
    obtain ⟨fu, rfl⟩ : ∃ t, fu = t + 1 := ⟨fu - 1, by omega⟩
    have hc : c < I.length := by omega
    have hwc : wC nv (I.getD c []) := by rw [getD_e hc]; exact hwI _ (List.getElem_mem hc)
    have e92 := k_92 (f := f) (m := m) hf hR (by omega) (hI.2.2.1 c hc) hwc hnv
    have ek : xwr ((c : Int) + 1) = ((c + 1 : Nat) : Int) := by rw [xwr_g _ (by omega) (by omega)]; omega
    have b1 := Nat.or_lt_two_pow ha (qIm_8 hnv (I := I.take c) (fun E hE => hwI E (List.mem_of_mem_take hE)))
    have b2 := qVm_8 hnv hwc
    have et : qIm (I.take (c + 1)) = qIm (I.take c) ||| qVm (I.getD c []) := by
      rw [List.take_add_one, List.getElem?_eq_getElem hc, getD_e hc]
      exact qIm_ap _ _
    have step := ih (c + 1) fu (by omega) (by omega)
    rw [et, ← Nat.or_assoc] at step
    rw [← step]
    show c96_164b (c96_164 f fu) f u _ _ _ = _
    rw [st_164 (c := 0) us hI.1 hc e92, ek, xor_nat (by omega) (by omega)]
end
