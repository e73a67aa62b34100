/-! THE CLASS: what LITERALS bind -/
def qBh (x : pLt) (b : Nat) : Option Nat := if x.1 = 1 ∨ qSub (qLv x) b then some (b ||| qLv x) else if x.1 = 3 ∧ x.2.1 = 61 ∧ (qAl2 x.2.2.2.2.1 ∧ qSub (qVm x.2.2.2.2.2) b ∨ qAl2 x.2.2.2.2.2 ∧ qSub (qVm x.2.2.2.2.1) b) then some (b ||| qLv x) else none
/-- a LITERAL's VARIABLES are below nv -/
def wLv (nv : Nat) (x : pLt) : Prop := (x.1 = 1 ∨ x.1 = 2) ∧ (∀ y ∈ x.2.2.2.1, wT1 nv y) ∨ x.1 = 3 ∧ wC nv x.2.2.2.2.1 ∧ wC nv x.2.2.2.2.2
theorem qLv_8 {nv : Nat} {x : pLt} (h : wLv nv x) (hv : nv ≤ 8) : qLv x < 2 ^ 8 := by
  unfold qLv
  rcases h with ⟨a1, a2⟩ | ⟨a1, a2, a3⟩
  · rw [if_neg (by omega)]; exact qT_lt a2 hv
  · rw [if_pos a1]; exact Nat.or_lt_two_pow (qVm_8 hv a2) (qVm_8 hv a3)
theorem qT_ap (Q R : pCd) : qT (Q ++ R) = qT Q ||| qT R := by
  induction Q with
  | nil => simp [qT]
  | cons x q ih =>
    show (if x.1 = 1 then 2 ^ x.2.toNat else 0) ||| qT (q ++ R) = ((if x.1 = 1 then 2 ^ x.2.toNat else 0) ||| qT q) ||| qT R
    rw [ih, Nat.or_assoc]
theorem qT_tk {E : pCd} {i : Nat} (hi : i < E.length) : qT (E.take (i + 1)) = qT (E.take i) ||| (if (E.getD i (0, 0)).1 = 1 then 2 ^ (E.getD i (0, 0)).2.toNat else 0) := by
  rw [List.take_add_one, List.getElem?_eq_getElem hi, getD_e hi, qT_ap]
  show _ ||| qT [E[i]] = _
  congr 1
  show (if E[i].1 = 1 then 2 ^ E[i].2.toNat else 0) ||| 0 = _
  rw [Nat.or_zero]
section
variable {f u s nv l : Nat} {S : Nat → Nat × Nat × Nat} {G : xG_} {m : Nat × Nat} {K E : pCd} {Ls : List pLt} {x : pLt}
/-- isAtom() -/
theorem k_90 (hR : cRq S G u K Ls) (hl : l < 8) (hx : cLt G u K l x) : c90 f u (l : Int) (S, G, m) = some (if x.1 = 3 then 0 else 1, (S, G, m)) := by
  have us := hR.1.1
  have us2 := hR.1.2.2.1
  have w9 := hR.2.1.2.1
  have u2 := hR.2.2.2.2.1
  rcases hx with ⟨a1, a2, _⟩ | ⟨a1, a2, a3, _⟩
  · rw [if_neg (by omega)]
    by_cases c : x.1 = 1
    · rw [if_pos c] at a2
      clear a1 c
      unfold c90 c90_22 c90_27
      simp (disch := omega) only [cq_gi, cq_gr, cq_a, cq_s, cq_p, cq_pr, cq_is, cq_ar, cq_ab, cq_ln, xq_nz, Option.bind_some, xup2_n, xup2_s, Int.toNat_natCast, Int.reduceToNat, if_pos, if_neg, true_and, and_true, and_self, eq_self, if_true, reduceIte, not_true_eq_false, not_false_eq_true, or_true, true_or, us, us2, w9, a2]
    · rw [if_neg c] at a2
      clear a1 c
      unfold c90 c90_22 c90_27
      simp (disch := omega) only [cq_gi, cq_gr, cq_a, cq_s, cq_p, cq_pr, cq_is, cq_ar, cq_ab, cq_ln, xq_nz, Option.bind_some, xup2_n, xup2_s, Int.toNat_natCast, Int.reduceToNat, if_pos, if_neg, true_and, and_true, and_self, eq_self, if_true, reduceIte, not_true_eq_false, not_false_eq_true, or_true, true_or, us, us2, w9, a2]
  · rw [if_pos a1]
    have h1 : ¬ G (u + 2) l = 15 := by rw [a2]; omega
    have h2 : ¬ G (u + 2) l = 9 := by rw [a2]; omega
    clear a1 a2 a3
    unfold c90 c90_27
    simp (disch := omega) only [cq_gi, cq_gr, cq_a, cq_s, cq_p, cq_pr, cq_is, cq_ar, cq_ab, cq_ln, xq_nz, Option.bind_some, xup2_n, xup2_s, Int.toNat_natCast, Int.reduceToNat, if_pos, if_neg, true_and, and_true, and_self, eq_self, if_true, reduceIte, not_true_eq_false, not_false_eq_true, or_true, true_or, us, us2, w9, h1, h2]
theorem st_93 {a wd : Nat} {o v x2 : Int} {r : Nat → Int → Int → Int → xT_ → Option (Int × xT_)} (u2 : 278 < u) (us : S u = (1, 6, 20)) (us4 : S (u + 4) = (2, 3, 8)) (us5 : S (u + 5) = (2, 3, 32)) (us6 : S (u + 6) = (2, 4, 32)) (w11 : G u 11 = ((u + 4 : Nat) : Int)) (w12 : G u 12 = ((u + 5 : Nat) : Int)) (w13 : G u 13 = ((u + 6 : Nat) : Int)) (hl : l < 8) (h4 : G (u + 4) l = (wd : Int)) (ha : a < wd) (hb : wd ≤ 4) (ho : G (u + 5) (4 * l + a) = o) (hv : G (u + 6) (4 * l + a) = v) (e1 : xwr ((a : Int) + 1) = ((a + 1 : Nat) : Int)) (e2 : xwr (xwr (4 * (l : Int)) + (a : Int)) = ((4 * l + a : Nat) : Int)) : c93_34b r f u (l : Int) x2 (a : Int) (S, G, m) = if o = 2 then r u (l : Int) (xor_ x2 (xshl 1 (xwr v))) ((a + 1 : Nat) : Int) (S, G, m) else r u (l : Int) x2 ((a + 1 : Nat) : Int) (S, G, m) := by
  by_cases c : o = 2
  · rw [if_pos c]
    rw [c] at ho
    unfold c93_34b c93_74
    simp (disch := omega) only [cq_gi, cq_gr, cq_a, cq_s, cq_p, cq_pr, cq_is, cq_ar, cq_ab, cq_ln, xq_nz, Option.bind_some, xup2_n, xup2_s, Int.toNat_natCast, Int.reduceToNat, if_pos, if_neg, true_and, and_true, and_self, eq_self, if_true, reduceIte, not_true_eq_false, not_false_eq_true, or_true, true_or, us, us4, us5, us6, w11, w12, w13, h4, ho, hv, e1, e2]
  · rw [if_neg c]
    unfold c93_34b c93_74
    simp (disch := omega) only [cq_gi, cq_gr, cq_a, cq_s, cq_p, cq_pr, cq_is, cq_ar, cq_ab, cq_ln, xq_nz, Option.bind_some, xup2_n, xup2_s, Int.toNat_natCast, Int.reduceToNat, if_pos, if_neg, true_and, and_true, and_self, eq_self, if_true, reduceIte, not_true_eq_false, not_false_eq_true, or_true, true_or, us, us4, us5, w11, w12, h4, ho, e1, e2]
theorem k_93_34 {ts : pCd} (hR : cRq S G u K Ls) (hl : l < 8) (h4 : G (u + 4) l = (ts.length : Int)) (ht4 : ts.length ≤ 4) (hT : cTs G u l ts) (hE : ∀ y ∈ ts, wT1 nv y) (hnv : nv ≤ 8) : ∀ (d i fu : Nat), i + d = ts.length → d < fu → c93_34 f fu u (l : Int) ((qT (ts.take i) : Nat) : Int) (i : Int) (S, G, m) = some ((qT ts : Int), (S, G, m)) := by
  obtain ⟨⟨us, us1, us2, us3, us4, us5, us6, us7, us8, _⟩, ⟨w7, w9, w10, w11, w12, w13, w14, w15, _⟩, _, _, u2, hk⟩ := hR
  intro d
  induction d with
  | zero =>
    intro i fu h1 h2
    obtain ⟨fu, rfl⟩ : ∃ t, fu = t + 1 := ⟨fu - 1, by omega⟩
    have hi : i = ts.length := by omega
    rw [hi, List.take_length]
    show c93_34b (c93_34 f fu) f u _ _ _ _ = _
    unfold c93_34b
    simp (disch := omega) only [cq_gi, cq_gr, cq_a, cq_s, cq_p, cq_pr, cq_is, cq_ar, cq_ab, cq_ln, xq_nz, Option.bind_some, xup2_n, xup2_s, Int.toNat_natCast, Int.reduceToNat, if_pos, if_neg, true_and, and_true, and_self, eq_self, if_true, reduceIte, not_true_eq_false, not_false_eq_true, or_true, true_or, us, us4, w11, h4]
  | succ d ih =>
    intro i fu h1 h2
    obtain ⟨fu, rfl⟩ : ∃ t, fu = t + 1 := ⟨fu - 1, by omega⟩
    have hi : i < ts.length := by omega
    have ek : xwr ((i : Int) + 1) = ((i + 1 : Nat) : Int) := by rw [xwr_g _ (by omega) (by omega)]; omega
    have e4 : xwr (xwr (4 * (l : Int)) + (i : Int)) = ((4 * l + i : Nat) : Int) := by rw [xwr_g (4 * (l : Int)) (by omega) (by omega), xwr_g _ (by omega) (by omega)]; omega
    have e1 := st_93 (f := f) (m := m) (r := c93_34 f fu) (x2 := ((qT (ts.take i) : Nat) : Int)) u2 us us4 us5 us6 w11 w12 w13 hl h4 hi ht4 rfl rfl ek e4
    have hw := hE (ts.getD i (0, 0)) (by rw [getD_e hi]; exact List.getElem_mem hi)
    have hb := qT_lt (T := ts.take i) (fun y hy => hE y (List.mem_of_mem_take hy)) hnv
    have step := ih (i + 1) fu (by omega) (by omega)
    rw [qT_tk hi] at step
    show c93_34b (c93_34 f fu) f u _ _ _ _ = _
    rw [e1]
    rcases hT i hi with ⟨t1, t2, t3⟩ | ⟨t1, t2⟩ | ⟨t1, t2, t3⟩
    · rw [if_pos t1] at step
      rw [t2, if_pos rfl, t3]
      have hvv : 0 ≤ (ts.getD i (0, 0)).2 ∧ (ts.getD i (0, 0)).2 < nv := by rcases hw with a | a | a <;> omega
      have ev : xwr (ts.getD i (0, 0)).2 = ((ts.getD i (0, 0)).2.toNat : Int) := by rw [xwr_g _ (by omega) (by omega)]; omega
      rw [ev, xorb (by omega) (by omega)]
      exact step
    · rw [if_neg (by omega), Nat.or_zero] at step
      rw [t2, if_neg (by decide)]
      exact step
    · rw [if_neg (by omega), Nat.or_zero] at step
      rw [t2, if_neg (by decide)]
      exact step
/-- variablesIn() -/
theorem k_93 (hf : 3010 < f) (hR : cRq S G u K Ls) (hl : l < 8) (hx : cLt G u K l x) (hw : wLv nv x) (hnv : nv ≤ 8) : c93 f u (l : Int) (S, G, m) = some ((qLv x : Int), (S, G, m)) := by
  have e90 := k_90 (f := f) (m := m) hR hl hx
  have us := hR.1.1
  have u2 := hR.2.2.2.2.1
  unfold qLv
  rcases hx with ⟨a1, a2, a3, a4, a5, a6⟩ | ⟨a1, a2, a3, a4, a5⟩
  · have hw' : ∀ y ∈ x.2.2.2.1, wT1 nv y := by rcases hw with ⟨_, b⟩ | ⟨b, _⟩; exact b; omega
    have h3 : ¬ x.1 = 3 := by omega
    rw [if_neg h3] at e90 ⊢
    have := k_93_34 (f := f) (m := m) hR hl a4 a5 a6 hw' hnv x.2.2.2.1.length 0 f (by omega) (by omega)
    rw [← this]
    clear this hw hw' a1 a2 a3 a4 a5 a6
    unfold c93
    simp (disch := omega) only [cq_gi, cq_gr, cq_a, cq_s, cq_p, cq_pr, cq_is, cq_ar, cq_ab, cq_ln, xq_nz, Option.bind_some, xup2_n, xup2_s, Int.toNat_natCast, Int.reduceToNat, if_pos, if_neg, true_and, and_true, and_self, eq_self, if_true, reduceIte, not_true_eq_false, not_false_eq_true, or_true, true_or, us, e90]
    rfl
  · have hw' : wC nv x.2.2.2.2.1 ∧ wC nv x.2.2.2.2.2 := by rcases hw with ⟨b, _⟩ | ⟨_, b⟩; omega; exact b
    rw [if_pos a1] at e90 ⊢
    have e1 : xwr (4 + xwr (2 * (l : Int))) = ((4 + 2 * l : Nat) : Int) := by rw [xwr_g (2 * (l : Int)) (by omega) (by omega), xwr_g _ (by omega) (by omega)]; omega
    have e2 : xwr (((4 + 2 * l : Nat) : Int) + 1) = ((5 + 2 * l : Nat) : Int) := by rw [xwr_g _ (by omega) (by omega)]; omega
    have v1 := k_92 (f := f) (m := m) hf hR (by omega) a4 hw'.1 hnv
    have v2 := k_92 (f := f) (m := m) hf hR (by omega) a5 hw'.2 hnv
    have b1 := qVm_8 hnv hw'.1
    have b2 := qVm_8 hnv hw'.2
    rw [← xor_nat (by omega) (by omega)]
    clear a1 a2 a3 a4 a5 hw hw' b1 b2
    unfold c93
    simp (disch := omega) only [cq_gi, cq_gr, cq_a, cq_s, cq_p, cq_pr, cq_is, cq_ar, cq_ab, cq_ln, xq_nz, Option.bind_some, xup2_n, xup2_s, Int.toNat_natCast, Int.reduceToNat, if_pos, if_neg, true_and, and_true, and_self, eq_self, if_true, reduceIte, not_true_eq_false, not_false_eq_true, or_true, true_or, us, e90, e1, e2, v1, v2]
def oNI : Option Nat → Int
  | none => -1
  | some y => (y : Int)
theorem st_94a {all b v1 v2 : Int} (us : S u = (1, 6, 20)) {y : Nat} (e91 : c91 f u v1 (S, G, m) = some (v2, (S, G, m))) {v3 v4 : Int} (e92 : c92 f u v3 (S, G, m) = some (v4, (S, G, m))) : c94_78 f u b all v3 v1 (S, G, m) = some (if v2 ≠ -1 ∧ xand v4 (xxor b (-1)) = 0 then xor_ b all else -1, (S, G, m)) := by
  by_cases c1 : v2 = -1
  · rw [if_neg (fun q => q.1 c1)]
    unfold c94_78 c94_105 c94_106 c94_120
    simp (disch := omega) only [cq_gi, cq_gr, cq_a, cq_s, cq_p, cq_pr, cq_is, cq_ar, cq_ab, cq_ln, xq_nz, Option.bind_some, xup2_n, xup2_s, Int.toNat_natCast, Int.reduceToNat, if_pos, if_neg, true_and, and_true, and_self, eq_self, if_true, reduceIte, not_true_eq_false, not_false_eq_true, or_true, true_or, us, e91, c1]
  · by_cases c2 : xand v4 (xxor b (-1)) = 0
    · rw [if_pos ⟨c1, c2⟩]
      unfold c94_78 c94_101 c94_106 c94_120
      simp (disch := omega) only [cq_gi, cq_gr, cq_a, cq_s, cq_p, cq_pr, cq_is, cq_ar, cq_ab, cq_ln, xq_nz, Option.bind_some, xup2_n, xup2_s, Int.toNat_natCast, Int.reduceToNat, if_pos, if_neg, true_and, and_true, and_self, eq_self, if_true, reduceIte, not_true_eq_false, not_false_eq_true, or_true, true_or, us, e91, c1, e92, c2]
    · rw [if_neg (fun q => c2 q.2)]
      unfold c94_78 c94_105 c94_106 c94_120
      simp (disch := omega) only [cq_gi, cq_gr, cq_a, cq_s, cq_p, cq_pr, cq_is, cq_ar, cq_ab, cq_ln, xq_nz, Option.bind_some, xup2_n, xup2_s, Int.toNat_natCast, Int.reduceToNat, if_pos, if_neg, true_and, and_true, and_self, eq_self, if_true, reduceIte, not_true_eq_false, not_false_eq_true, or_true, true_or, us, e91, c1, e92, c2]
/-- boundBehind() -/
theorem k_94 {b : Nat} (hf : 3010 < f) (hR : cRq S G u K Ls) (hl : l < 8) (hx : cLt G u K l x) (hw : wLv nv x) (hnv : nv ≤ 8) (hb : b < 2 ^ 8) : c94 f u (l : Int) (b : Int) (S, G, m) = some (oNI (qBh x b), (S, G, m)) := by
  have e93 := k_93 (f := f) (m := m) hf hR hl hx hw hnv
  have us := hR.1.1
  have us2 := hR.1.2.2.1
  have w9 := hR.2.1.2.1
  have u2 := hR.2.2.2.2.1
  have hv8 := qLv_8 hw hnv
  have eor : xor_ (b : Int) (qLv x : Int) = ((b ||| qLv x : Nat) : Int) := xor_nat (by omega) (by omega)
  have hsub := xsubq hv8 hb
  unfold qBh
  rcases hx with ⟨a1, a2, a3, a4, a5, a6⟩ | ⟨a1, a2, a3, a4, a5⟩
  · by_cases c1 : x.1 = 1
    · rw [if_pos (.inl c1)]
      rw [if_pos c1] at a2
      show _ = some (((b ||| qLv x : Nat) : Int), _)
      rw [← eor]
      clear hsub eor hv8 a1 a3 a4 a5 a6 c1 hw
      unfold c94 c94_25
      simp (disch := omega) only [cq_gi, cq_gr, cq_a, cq_s, cq_p, cq_pr, cq_is, cq_ar, cq_ab, cq_ln, xq_nz, Option.bind_some, xup2_n, xup2_s, Int.toNat_natCast, Int.reduceToNat, if_pos, if_neg, true_and, and_true, and_self, eq_self, if_true, reduceIte, not_true_eq_false, not_false_eq_true, or_true, true_or, us, us2, w9, e93, a2]
    · rw [if_neg c1] at a2
      by_cases cs : qSub (qLv x) b
      · rw [if_pos (.inr cs)]
        show _ = some (((b ||| qLv x : Nat) : Int), _)
        rw [← eor]
        have c0 := hsub.mpr cs
        clear hsub eor hv8 a1 a3 a4 a5 a6 c1 hw
        unfold c94 c94_25
        simp (disch := omega) only [cq_gi, cq_gr, cq_a, cq_s, cq_p, cq_pr, cq_is, cq_ar, cq_ab, cq_ln, xq_nz, Option.bind_some, xup2_n, xup2_s, Int.toNat_natCast, Int.reduceToNat, if_pos, if_neg, true_and, and_true, and_self, eq_self, if_true, reduceIte, not_true_eq_false, not_false_eq_true, or_true, true_or, us, us2, w9, e93, a2, c0]
      · rw [if_neg (fun q => by rcases q with q | q; exact c1 q; exact cs q), if_neg (fun q => by omega)]
        show _ = some (-1, _)
        have c0 : ¬ xand (qLv x : Int) (xxor (b : Int) (-1)) = 0 := fun q => cs (hsub.mp q)
        clear hsub eor hv8 a1 a3 a4 a5 a6 c1 hw
        unfold c94
        simp (disch := omega) only [cq_gi, cq_gr, cq_a, cq_s, cq_p, cq_pr, cq_is, cq_ar, cq_ab, cq_ln, xq_nz, Option.bind_some, xup2_n, xup2_s, Int.toNat_natCast, Int.reduceToNat, if_pos, if_neg, true_and, and_true, and_self, eq_self, if_true, reduceIte, not_true_eq_false, not_false_eq_true, or_true, true_or, us, us2, w9, e93, a2, c0]
  · have n15 : ¬ G (u + 2) l = 15 := by rw [a2]; omega
    have hw' : wC nv x.2.2.2.2.1 ∧ wC nv x.2.2.2.2.2 := by rcases hw with ⟨q, _⟩ | ⟨_, q⟩; omega; exact q
    by_cases cs : qSub (qLv x) b
    · rw [if_pos (.inr cs)]
      show _ = some (((b ||| qLv x : Nat) : Int), _)
      rw [← eor]
      have c0 := hsub.mpr cs
      clear hsub eor hv8 a1 a2 a3 a4 a5 hw hw'
      unfold c94 c94_25
      simp (disch := omega) only [cq_gi, cq_gr, cq_a, cq_s, cq_p, cq_pr, cq_is, cq_ar, cq_ab, cq_ln, xq_nz, Option.bind_some, xup2_n, xup2_s, Int.toNat_natCast, Int.reduceToNat, if_pos, if_neg, true_and, and_true, and_self, eq_self, if_true, reduceIte, not_true_eq_false, not_false_eq_true, or_true, true_or, us, us2, w9, e93, n15, c0]
    · rw [if_neg (fun q => by rcases q with q | q; omega; exact cs q)]
      have c0 : ¬ xand (qLv x : Int) (xxor (b : Int) (-1)) = 0 := fun q => cs (hsub.mp q)
      by_cases c61 : x.2.1 = 61
      · have g61 : G (u + 2) l = 61 := by rw [a2]; exact c61
        have e1 : xwr (4 + xwr (2 * (l : Int))) = ((4 + 2 * l : Nat) : Int) := by rw [xwr_g (2 * (l : Int)) (by omega) (by omega), xwr_g _ (by omega) (by omega)]; omega
        have e2 : xwr (((4 + 2 * l : Nat) : Int) + 1) = ((5 + 2 * l : Nat) : Int) := by rw [xwr_g _ (by omega) (by omega)]; omega
        obtain ⟨v1, p1, p2⟩ := k_91 (f := f) (m := m) hR (by omega) a4 hw'.1 hnv
        obtain ⟨v2, q1, q2⟩ := k_91 (f := f) (m := m) hR (by omega) a5 hw'.2 hnv
        have r1 := k_92 (f := f) (m := m) hf hR (by omega) a4 hw'.1 hnv
        have r2 := k_92 (f := f) (m := m) hf hR (by omega) a5 hw'.2 hnv
        have s1 := xsubq (qVm_8 hnv hw'.1) hb
        have s2 := xsubq (qVm_8 hnv hw'.2) hb
        have e78 := st_94a (f := f) (m := m) (all := (qLv x : Int)) (b := (b : Int)) us (y := 0) q1 r1
        have e0 : c94 f u (l : Int) (b : Int) (S, G, m) = if v1 ≠ -1 ∧ xand (qVm x.2.2.2.2.2 : Int) (xxor (b : Int) (-1)) = 0 then some (xor_ (b : Int) (qLv x : Int), (S, G, m)) else c94_78 f u (b : Int) (qLv x : Int) ((4 + 2 * l : Nat) : Int) ((5 + 2 * l : Nat) : Int) (S, G, m) := by
          clear hsub eor hv8 a1 a2 a3 a4 a5 hw hw' q1 q2 p2 s1 s2 e78 r1 cs
          by_cases d1 : v1 = -1
          · rw [if_neg (fun q => q.1 d1)]
            unfold c94
            simp (disch := omega) only [cq_gi, cq_gr, cq_a, cq_s, cq_p, cq_pr, cq_is, cq_ar, cq_ab, cq_ln, xq_nz, Option.bind_some, xup2_n, xup2_s, Int.toNat_natCast, Int.reduceToNat, if_pos, if_neg, true_and, and_true, and_self, eq_self, if_true, reduceIte, not_true_eq_false, not_false_eq_true, or_true, true_or, us, us2, w9, e93, g61, c0, e1, e2, p1, d1]
          · by_cases d2 : xand (qVm x.2.2.2.2.2 : Int) (xxor (b : Int) (-1)) = 0
            · rw [if_pos ⟨d1, d2⟩]
              unfold c94 c94_101 c94_106 c94_120
              simp (disch := omega) only [cq_gi, cq_gr, cq_a, cq_s, cq_p, cq_pr, cq_is, cq_ar, cq_ab, cq_ln, xq_nz, Option.bind_some, xup2_n, xup2_s, Int.toNat_natCast, Int.reduceToNat, if_pos, if_neg, true_and, and_true, and_self, eq_self, if_true, reduceIte, not_true_eq_false, not_false_eq_true, or_true, true_or, us, us2, w9, e93, g61, c0, e1, e2, p1, d1, r2, d2]
            · rw [if_neg (fun q => d2 q.2)]
              unfold c94
              simp (disch := omega) only [cq_gi, cq_gr, cq_a, cq_s, cq_p, cq_pr, cq_is, cq_ar, cq_ab, cq_ln, xq_nz, Option.bind_some, xup2_n, xup2_s, Int.toNat_natCast, Int.reduceToNat, if_pos, if_neg, true_and, and_true, and_self, eq_self, if_true, reduceIte, not_true_eq_false, not_false_eq_true, or_true, true_or, us, us2, w9, e93, g61, c0, e1, e2, p1, d1, r2, d2]
        have i1 : (v1 ≠ -1 ∧ xand (qVm x.2.2.2.2.2 : Int) (xxor (b : Int) (-1)) = 0) ↔ (qAl2 x.2.2.2.2.1 ∧ qSub (qVm x.2.2.2.2.2) b) := by
          rw [s2]
          exact ⟨fun q => ⟨Classical.not_not.mp (fun z => q.1 (p2.mpr z)), q.2⟩, fun q => ⟨fun z => p2.mp z q.1, q.2⟩⟩
        have i2 : (v2 ≠ -1 ∧ xand (qVm x.2.2.2.2.1 : Int) (xxor (b : Int) (-1)) = 0) ↔ (qAl2 x.2.2.2.2.2 ∧ qSub (qVm x.2.2.2.2.1) b) := by
          rw [s1]
          exact ⟨fun q => ⟨Classical.not_not.mp (fun z => q.1 (q2.mpr z)), q.2⟩, fun q => ⟨fun z => q2.mp z q.1, q.2⟩⟩
        rw [e0, e78, eor]
        by_cases d1 : qAl2 x.2.2.2.2.1 ∧ qSub (qVm x.2.2.2.2.2) b
        · rw [if_pos (i1.mpr d1), if_pos ⟨a1, c61, .inl d1⟩]
          rfl
        · rw [if_neg (fun q => d1 (i1.mp q))]
          by_cases d2 : qAl2 x.2.2.2.2.2 ∧ qSub (qVm x.2.2.2.2.1) b
          · rw [if_pos (i2.mpr d2), if_pos ⟨a1, c61, .inr d2⟩]
            rfl
          · rw [if_neg (fun q => d2 (i2.mp q)), if_neg (fun q => by rcases q.2.2 with z | z; exact d1 z; exact d2 z)]
            rfl
      · rw [if_neg (fun q => c61 q.2.1)]
        show _ = some (-1, _)
        have g61 : ¬ G (u + 2) l = 61 := by rw [a2]; exact c61
        clear hsub eor hv8 a1 a2 a3 a4 a5 hw hw'
        unfold c94
        simp (disch := omega) only [cq_gi, cq_gr, cq_a, cq_s, cq_p, cq_pr, cq_is, cq_ar, cq_ab, cq_ln, xq_nz, Option.bind_some, xup2_n, xup2_s, Int.toNat_natCast, Int.reduceToNat, if_pos, if_neg, true_and, and_true, and_self, eq_self, if_true, reduceIte, not_true_eq_false, not_false_eq_true, or_true, true_or, us, us2, w9, e93, n15, g61, c0]
end
