/-! THE CLASS: rows that are given at a level (as a set D), and giveGroups() -/
def gvO (S : Nat → Nat × Nat × Nat) (G : xG_) (p n : Nat) (M F : List pRw) (cm : Int) (D : List Int → Prop) (v : Int) : Prop :=
  (v = 1 ∧ ∃ F', cRw S G (111 + 6 * p) n 100 F' ∧ F'.Pairwise rwLt ∧ (∀ r ∈ F', r.2 = 0) ∧ (F.length ≤ F'.length ∧ (M.length + F.length ≤ 100 → M.length + F'.length ≤ 100)) ∧ G 93 15 = cm + ((F'.length - F.length : Nat) : Int) ∧ ∀ xs, (∃ r ∈ F', r.1 = xs) ↔ (∃ r ∈ F, r.1 = xs) ∨ ((∀ r ∈ M, r.1 ≠ xs) ∧ D xs)) ∨
  (v = 0 ∧ ∃ W : List (List Int), W.Nodup ∧ 100 < M.length + W.length ∧ ∀ xs ∈ W, (∃ r ∈ F, r.1 = xs) ∨ ((∀ r ∈ M, r.1 ≠ xs) ∧ D xs))
section
variable {f u n p i sl gA W kz a : Nat} {S : Nat → Nat × Nat × Nat} {G G1 G2 : xG_} {m : Nat × Nat} {L M F F1 : List pRw} {kk x cm cm1 v w : Int} {kl xs : List Int} {D D1 D2 : List Int → Prop} {r2 : Nat → Nat → Int → xT_ → Option (Int × xT_)}
theorem gvO.cg (h : gvO S G p n M F cm D v) (e : ∀ xs, (∀ r ∈ M, r.1 ≠ xs) → (D xs ↔ D1 xs)) : gvO S G p n M F cm D1 v := by
  rcases h with ⟨a1, F', a2, a3, a4, a5, a6, a7⟩ | ⟨a1, W, a2, a3, a4⟩
  · exact .inl ⟨a1, F', a2, a3, a4, a5, a6, fun xs => (a7 xs).trans (or_congr Iff.rfl ⟨fun q => ⟨q.1, (e xs q.1).mp q.2⟩, fun q => ⟨q.1, (e xs q.1).mpr q.2⟩⟩)⟩
  · exact .inr ⟨a1, W, a2, a3, fun xs hx => (a4 xs hx).imp id (fun q => ⟨q.1, (e xs q.1).mp q.2⟩)⟩
theorem gvO.add (h1 : F.length ≤ F1.length ∧ (M.length + F.length ≤ 100 → M.length + F1.length ≤ 100)) (h2 : cm1 = cm + ((F1.length - F.length : Nat) : Int)) (h3 : ∀ xs, (∃ r ∈ F1, r.1 = xs) ↔ (∃ r ∈ F, r.1 = xs) ∨ ((∀ r ∈ M, r.1 ≠ xs) ∧ D1 xs)) (h : gvO S G p n M F1 cm1 D2 v) : gvO S G p n M F cm (fun z => D1 z ∨ D2 z) v := by
  rcases h with ⟨a1, F', a2, a3, a4, a5, a6, a7⟩ | ⟨a1, W, a2, a3, a4⟩
  · refine .inl ⟨a1, F', a2, a3, a4, by omega, by omega, fun xs => (a7 xs).trans ?_⟩
    rw [h3]
    constructor
    · rintro ((q | ⟨q1, q2⟩) | ⟨q1, q2⟩)
      · exact .inl q
      · exact .inr ⟨q1, .inl q2⟩
      · exact .inr ⟨q1, .inr q2⟩
    · rintro (q | ⟨q1, q2 | q2⟩)
      · exact .inl (.inl q)
      · exact .inl (.inr ⟨q1, q2⟩)
      · exact .inr ⟨q1, q2⟩
  · refine .inr ⟨a1, W, a2, a3, fun xs hx => ?_⟩
    rcases a4 xs hx with q | ⟨q1, q2⟩
    · rcases (h3 xs).mp q with q | ⟨q1, q2⟩
      · exact .inl q
      · exact .inr ⟨q1, .inl q2⟩
    · exact .inr ⟨q1, .inr q2⟩
theorem gvO.no (hF : cRw S G (111 + 6 * p) n 100 F) (hFs : F.Pairwise rwLt) (hF0 : ∀ r ∈ F, r.2 = 0) (hcm : G 93 15 = cm) (hD : ∀ xs, D xs → (∀ r ∈ M, r.1 ≠ xs) → ∃ r ∈ F, r.1 = xs) : gvO S G p n M F cm D 1 :=
  .inl ⟨rfl, F, hF, hFs, hF0, ⟨Nat.le_refl _, id⟩, by rw [hcm, Nat.sub_self]; show cm = cm + 0; omega, fun xs => ⟨.inl, fun q => q.elim id (fun y => hD xs y.2 y.1)⟩⟩
/-- give() -/
theorem k_156g (hf : 600 < f) (hs : cSs S) (hp : cPs G) (hp16 : p < 16) (hM : cRw S G (108 + 6 * p) W 100 M) (hF : cRw S G (111 + 6 * p) W 100 F) (hMs : M.Pairwise rwLt) (hFs : F.Pairwise rwLt) (hF0 : ∀ r ∈ F, r.2 = 0) (hk : kl.length = W) (hK : cKl S G a kl) (has : S a = (2, 4, kz)) (hkz : W ≤ kz) (ha : a < 108) (hcm : G 93 15 = cm) (hcr : 0 ≤ cm ∧ cm ≤ 10000000) : ∃ v G', c156 f 93 (p : Int) a (S, G, m) = some (v, (S, G', m)) ∧ (∀ b j, ¬ (b = 93 ∧ j = 15) → ¬ (111 + 6 * p ≤ b ∧ b ≤ 113 + 6 * p) → G' b j = G b j) ∧ cPs G' ∧ gvO S G' p W M F cm (fun z => z = kl) v := by
  obtain ⟨v, G3, k1, k2, k3, k4⟩ := k_156 (f := f) (m := m) (kl := kl) (a := a) (cm := cm) hf hs hp hp16 hM hF hMs hFs hk hK has hkz ha hcm hcr
  refine ⟨v, G3, k1, fun b j w2 w4 => k2 b j w2 (by omega) (by omega) (by omega), k3, ?_⟩
  rcases k4 with ⟨rfl, rfl, q⟩ | ⟨rfl, rfl, q1, q2, q3⟩ | ⟨rfl, q1, q2, q3, F1, q4, q5, q6, q7⟩
  · refine gvO.no hF hFs hF0 hcm (fun xs e hn => ?_)
    have e' : xs = kl := e
    subst e'
    rcases q with q | ⟨r, r1, r2⟩
    · exact q
    · exact absurd r2 (hn r r1)
  · refine .inr ⟨rfl, kl :: F.map (·.1), ?_, by rw [List.length_cons, List.length_map]; omega, fun xs hx => ?_⟩
    · refine List.nodup_cons.mpr ⟨fun q => ?_, ?_⟩
      · obtain ⟨r, r1, r2⟩ := List.mem_map.mp q
        exact q2 r r1 r2
      · rw [List.nodup_iff_pairwise_ne, List.pairwise_map]
        exact hFs.imp (fun {r1 r2} hab => fun (e : r1.1 = r2.1) => vLt_irr r2.1 (by have hab' : vLt r1.1 r2.1 := hab; rw [e] at hab'; exact hab'))
    · rcases List.mem_cons.mp hx with e | e
      · subst e; exact .inr ⟨q3, rfl⟩
      · obtain ⟨r, r1, r2⟩ := List.mem_map.mp e
        exact .inl ⟨r, r1, r2⟩
  · refine .inl ⟨rfl, F1, q4, q5, fun r hr => ?_, by omega, by rw [q3, q6.1]; omega, fun xs => ?_⟩
    · rcases (q7 r).mp hr with e | e
      · exact hF0 r e
      · rw [e]
    · constructor
      · rintro ⟨r, r1, r2⟩
        rcases (q7 r).mp r1 with e | e
        · exact .inl ⟨r, e, r2⟩
        · rw [e] at r2; subst r2; exact .inr ⟨q2, rfl⟩
      · rintro (⟨r, r1, r2⟩ | ⟨_, e⟩)
        · exact ⟨r, (q7 r).mpr (.inl r1), r2⟩
        · exact ⟨_, (q7 _).mpr (.inr rfl), e.symm⟩
end
def c161a (r2 : Nat → Nat → Int → xT_ → Option (Int × xT_)) (f : Nat) (x0 : Nat) (x1 : Nat) (x2 : Int) (R110 : (xT_)) : Option (Int × xT_) := ((cq_gr 10 7 18 (x0) R110).bind fun v116 => ((cq_gr 10 11 18 (x0) R110).bind fun v118 => ((cq_is 5 4 (v116) R110).bind fun _ => ((c78 f (v116) (x2) (v118) R110).bind fun R120 => ((cq_gr 10 11 18 (x0) R120).bind fun v126 => ((cq_gi 6 3 20 (x1) R120).bind fun v128 => ((cq_gr 10 8 18 (x0) R120).bind fun v130 => ((cq_gr 10 7 18 (x0) R120).bind fun v132 => ((cq_gr 5 3 4 (v132) R120).bind fun v134 => ((cq_a 3 (v134) (x2) R120).bind fun v136 => ((cq_a 4 (v130) (v136) R120).bind fun v138 => ((cq_s 4 (v126) (v128) (v138) R120).bind fun T141 => ((cq_gr 10 11 18 (x0) T141).bind fun v145 => ((cq_gi 6 3 20 (x1) T141).bind fun v147 => ((cq_a 4 (v145) (v147) T141).bind fun v149 => ((c397 f (x1) (v149) T141).bind fun R151 => (if (R151.1) = 0 then c161_93 r2 f (x0) (x1) (x2) R151.2 else ((cq_gi 6 0 20 (x1) R151.2).bind fun v157 => ((cq_gr 10 11 18 (x0) R151.2).bind fun v159 => ((cq_is 10 18 (x0) R151.2).bind fun _ => ((c156 f (x0) (v157) (v159) R151.2).bind fun R161 => (if ¬ (R161.1) = 0 then c161_93 r2 f (x0) (x1) (x2) R161.2 else (some (0, R161.2))))))))))))))))))))))))
theorem c161a_e (r2 : Nat → Nat → Int → xT_ → Option (Int × xT_)) (f : Nat) (x0 : Nat) (x1 : Nat) (x2 : Int) (T : xT_) : c161_2b r2 f x0 x1 x2 T = ((cq_gr 10 7 18 (x0) T).bind fun v101 => ((cq_gi 5 1 4 (v101) T).bind fun v103 => (if (v103) ≤ (x2) then (some (1, T)) else ((cq_gr 10 7 18 (x0) T).bind fun v106 => ((cq_gr 10 10 18 (x0) T).bind fun v108 => ((cq_is 5 4 (v106) T).bind fun _ => ((c78 f (v106) (x2) (v108) T).bind fun R110 => c161a r2 f x0 x1 x2 R110))))))) := rfl
def c161b (r2 : Nat → Nat → Int → xT_ → Option (Int × xT_)) (f : Nat) (x0 : Nat) (x1 : Nat) (x2 : Int) (R120 : (xT_)) : Option (Int × xT_) := ((cq_gr 10 11 18 (x0) R120).bind fun v126 => ((cq_gi 6 3 20 (x1) R120).bind fun v128 => ((cq_gr 10 8 18 (x0) R120).bind fun v130 => ((cq_gr 10 7 18 (x0) R120).bind fun v132 => ((cq_gr 5 3 4 (v132) R120).bind fun v134 => ((cq_a 3 (v134) (x2) R120).bind fun v136 => ((cq_a 4 (v130) (v136) R120).bind fun v138 => ((cq_s 4 (v126) (v128) (v138) R120).bind fun T141 => ((cq_gr 10 11 18 (x0) T141).bind fun v145 => ((cq_gi 6 3 20 (x1) T141).bind fun v147 => ((cq_a 4 (v145) (v147) T141).bind fun v149 => ((c397 f (x1) (v149) T141).bind fun R151 => (if (R151.1) = 0 then c161_93 r2 f (x0) (x1) (x2) R151.2 else ((cq_gi 6 0 20 (x1) R151.2).bind fun v157 => ((cq_gr 10 11 18 (x0) R151.2).bind fun v159 => ((cq_is 10 18 (x0) R151.2).bind fun _ => ((c156 f (x0) (v157) (v159) R151.2).bind fun R161 => (if ¬ (R161.1) = 0 then c161_93 r2 f (x0) (x1) (x2) R161.2 else (some (0, R161.2))))))))))))))))))))
theorem c161b_e (r2 : Nat → Nat → Int → xT_ → Option (Int × xT_)) (f : Nat) (x0 : Nat) (x1 : Nat) (x2 : Int) (R110 : (xT_)) : c161a r2 f x0 x1 x2 R110 = ((cq_gr 10 7 18 (x0) R110).bind fun v116 => ((cq_gr 10 11 18 (x0) R110).bind fun v118 => ((cq_is 5 4 (v116) R110).bind fun _ => ((c78 f (v116) (x2) (v118) R110).bind fun R120 => c161b r2 f x0 x1 x2 R120)))) := rfl
def c161c (r2 : Nat → Nat → Int → xT_ → Option (Int × xT_)) (f : Nat) (x0 : Nat) (x1 : Nat) (x2 : Int) (R151 : (Int × xT_)) : Option (Int × xT_) := (if (R151.1) = 0 then c161_93 r2 f (x0) (x1) (x2) R151.2 else ((cq_gi 6 0 20 (x1) R151.2).bind fun v157 => ((cq_gr 10 11 18 (x0) R151.2).bind fun v159 => ((cq_is 10 18 (x0) R151.2).bind fun _ => ((c156 f (x0) (v157) (v159) R151.2).bind fun R161 => (if ¬ (R161.1) = 0 then c161_93 r2 f (x0) (x1) (x2) R161.2 else (some (0, R161.2))))))))
theorem c161c_e (r2 : Nat → Nat → Int → xT_ → Option (Int × xT_)) (f : Nat) (x0 : Nat) (x1 : Nat) (x2 : Int) (R120 : (xT_)) : c161b r2 f x0 x1 x2 R120 = ((cq_gr 10 11 18 (x0) R120).bind fun v126 => ((cq_gi 6 3 20 (x1) R120).bind fun v128 => ((cq_gr 10 8 18 (x0) R120).bind fun v130 => ((cq_gr 10 7 18 (x0) R120).bind fun v132 => ((cq_gr 5 3 4 (v132) R120).bind fun v134 => ((cq_a 3 (v134) (x2) R120).bind fun v136 => ((cq_a 4 (v130) (v136) R120).bind fun v138 => ((cq_s 4 (v126) (v128) (v138) R120).bind fun T141 => ((cq_gr 10 11 18 (x0) T141).bind fun v145 => ((cq_gi 6 3 20 (x1) T141).bind fun v147 => ((cq_a 4 (v145) (v147) T141).bind fun v149 => ((c397 f (x1) (v149) T141).bind fun R151 => c161c r2 f x0 x1 x2 R151)))))))))))) := rfl
section
variable {f u n p i sl gA W kz a : Nat} {S : Nat → Nat × Nat × Nat} {G G1 G2 : xG_} {m : Nat × Nat} {L M F F1 : List pRw} {kk x cm cm1 v w : Int} {r2 : Nat → Nat → Int → xT_ → Option (Int × xT_)} {T : xT_}
theorem st_161z (hs : cSs S) (hp : cPs G) (h1 : G 99 1 = (n : Int)) : c161_2b r2 f 93 u (n : Int) (S, G, m) = some (1, (S, G, m)) := by
  unfold c161_2b
  simp (disch := omega) only [cq_gi, cq_gr, cq_a, cq_s, cq_p, cq_pr, cq_is, cq_ar, cq_ab, cq_ln, xq_nz, Option.bind_some, xup2_n, xup2_s, Int.toNat_natCast, Int.reduceToNat, if_pos, if_neg, true_and, and_true, and_self, eq_self, if_true, reduceIte, not_true_eq_false, not_false_eq_true, or_true, true_or, s93 hs, s99 hs, p93_7 hp, h1]
theorem st_161a (hs : cSs S) (hp : cPs G) (h1 : G 99 1 = (n : Int)) (hi : i < n) (e : c78 f 99 (i : Int) 104 (S, G, m) = some T) : c161_2b r2 f 93 u (i : Int) (S, G, m) = c161a r2 f 93 u (i : Int) T := by
  rw [c161a_e]
  simp (disch := omega) only [cq_gi, cq_gr, cq_a, cq_s, cq_p, cq_pr, cq_is, cq_ar, cq_ab, cq_ln, xq_nz, Option.bind_some, xup2_n, xup2_s, Int.toNat_natCast, Int.reduceToNat, if_pos, if_neg, true_and, and_true, and_self, eq_self, if_true, reduceIte, not_true_eq_false, not_false_eq_true, or_true, true_or, s93 hs, s99 hs, p93_7 hp, p93_10 hp, h1, e]
theorem st_161b (hs : cSs S) (hp : cPs G) (e : c78 f 99 (i : Int) 105 (S, G, m) = some T) : c161a r2 f 93 u (i : Int) (S, G, m) = c161b r2 f 93 u (i : Int) T := by
  rw [c161b_e]
  simp (disch := omega) only [cq_gi, cq_gr, cq_a, cq_s, cq_p, cq_pr, cq_is, cq_ar, cq_ab, cq_ln, xq_nz, Option.bind_some, xup2_n, xup2_s, Int.toNat_natCast, Int.reduceToNat, if_pos, if_neg, true_and, and_true, and_self, eq_self, if_true, reduceIte, not_true_eq_false, not_false_eq_true, or_true, true_or, s93 hs, s99 hs, p93_7 hp, p93_11 hp, e]
theorem st_397 (us : S u = (1, 6, 20)) (h4 : G u 4 = kk + 9) : c397 f u x (S, G, m) = some ((if kk = 2 ∧ (1000000000000 < x ∨ x < -1000000000000) then 0 else 1), (S, G, m)) := by
  by_cases c : kk = 2
  · have c' : kk + 9 = 11 := by omega
    by_cases d : x < -1000000000000
    · rw [if_pos ⟨c, .inr d⟩]
      unfold c397 c397_29 c397_30
      simp (disch := omega) only [cq_gi, cq_gr, cq_a, cq_s, cq_p, cq_pr, cq_is, cq_ar, cq_ab, cq_ln, xq_nz, Option.bind_some, xup2_n, xup2_s, Int.toNat_natCast, Int.reduceToNat, if_pos, if_neg, true_and, and_true, and_self, eq_self, if_true, reduceIte, not_true_eq_false, not_false_eq_true, or_true, true_or, us, h4, c', d]
    · by_cases e : 1000000000000 < x
      · rw [if_pos ⟨c, .inl e⟩]
        unfold c397 c397_29 c397_30
        simp (disch := omega) only [cq_gi, cq_gr, cq_a, cq_s, cq_p, cq_pr, cq_is, cq_ar, cq_ab, cq_ln, xq_nz, Option.bind_some, xup2_n, xup2_s, Int.toNat_natCast, Int.reduceToNat, if_pos, if_neg, true_and, and_true, and_self, eq_self, if_true, reduceIte, not_true_eq_false, not_false_eq_true, or_true, true_or, us, h4, c', d, e]
      · rw [if_neg (by omega)]
        unfold c397 c397_25 c397_30
        simp (disch := omega) only [cq_gi, cq_gr, cq_a, cq_s, cq_p, cq_pr, cq_is, cq_ar, cq_ab, cq_ln, xq_nz, Option.bind_some, xup2_n, xup2_s, Int.toNat_natCast, Int.reduceToNat, if_pos, if_neg, true_and, and_true, and_self, eq_self, if_true, reduceIte, not_true_eq_false, not_false_eq_true, or_true, true_or, us, h4, c', d, e]
  · have c' : ¬ kk + 9 = 11 := by omega
    rw [if_neg (fun y => c y.1)]
    unfold c397 c397_25 c397_30
    simp (disch := omega) only [cq_gi, cq_gr, cq_a, cq_s, cq_p, cq_pr, cq_is, cq_ar, cq_ab, cq_ln, xq_nz, Option.bind_some, xup2_n, xup2_s, Int.toNat_natCast, Int.reduceToNat, if_pos, if_neg, true_and, and_true, and_self, eq_self, if_true, reduceIte, not_true_eq_false, not_false_eq_true, or_true, true_or, us, h4, c']
theorem st_161c (hs : cSs S) (hp : cPs G) (us : S u = (1, 6, 20)) (hu : 278 < u) (h3 : G 99 3 = 101) (hi : i < 512) (h1 : G 101 i = (sl : Int)) (hsl : sl < 512) (h2 : G 102 sl = x) (h5 : G u 3 = (gA : Int)) (hg : gA < 4) (e : c397 f u x (S, xup2 G 105 gA x, m) = some (w, (S, xup2 G 105 gA x, m))) : c161b r2 f 93 u (i : Int) (S, G, m) = c161c r2 f 93 u (i : Int) (w, (S, xup2 G 105 gA x, m)) := by
  rw [c161c_e]
  simp (disch := omega) only [cq_gi, cq_gr, cq_a, cq_s, cq_p, cq_pr, cq_is, cq_ar, cq_ab, cq_ln, xq_nz, Option.bind_some, xup2_n, xup2_s, Int.toNat_natCast, Int.reduceToNat, if_pos, if_neg, true_and, and_true, and_self, eq_self, if_true, reduceIte, not_true_eq_false, not_false_eq_true, or_true, true_or, s93 hs, s99 hs, s101 hs, s102 hs, s105 hs, p93_7 hp, p93_8 hp, p93_11 hp, us, h3, h1, h2, h5, e]
theorem st_161o (ei : xwr ((i : Int) + 1) = ((i + 1 : Nat) : Int)) : c161c r2 f 93 u (i : Int) (0, (S, G, m)) = r2 93 u ((i + 1 : Nat) : Int) (S, G, m) := by
  unfold c161c c161_93
  simp (disch := omega) only [cq_gi, cq_gr, cq_a, cq_s, cq_p, cq_pr, cq_is, cq_ar, cq_ab, cq_ln, xq_nz, Option.bind_some, xup2_n, xup2_s, Int.toNat_natCast, Int.reduceToNat, if_pos, if_neg, true_and, and_true, and_self, eq_self, if_true, reduceIte, not_true_eq_false, not_false_eq_true, or_true, true_or, ei]
theorem st_161g (hs : cSs S) (hp : cPs G) (us : S u = (1, 6, 20)) (h0 : G u 0 = (p : Int)) (ei : xwr ((i : Int) + 1) = ((i + 1 : Nat) : Int)) (e : c156 f 93 (p : Int) 105 (S, G, m) = some (v, (S, G1, m))) : c161c r2 f 93 u (i : Int) (1, (S, G, m)) = if v = 0 then some (0, (S, G1, m)) else r2 93 u ((i + 1 : Nat) : Int) (S, G1, m) := by
  have h10 : ¬ (1 : Int) = 0 := by decide
  by_cases c : v = 0
  · rw [if_pos c]
    unfold c161c c161_93
    simp (disch := omega) only [cq_gi, cq_gr, cq_a, cq_s, cq_p, cq_pr, cq_is, cq_ar, cq_ab, cq_ln, xq_nz, Option.bind_some, xup2_n, xup2_s, Int.toNat_natCast, Int.reduceToNat, if_pos, if_neg, true_and, and_true, and_self, eq_self, if_true, reduceIte, not_true_eq_false, not_false_eq_true, or_true, true_or, s93 hs, p93_11 hp, us, h0, e, ei, c, h10]
  · rw [if_neg c]
    unfold c161c c161_93
    simp (disch := omega) only [cq_gi, cq_gr, cq_a, cq_s, cq_p, cq_pr, cq_is, cq_ar, cq_ab, cq_ln, xq_nz, Option.bind_some, xup2_n, xup2_s, Int.toNat_natCast, Int.reduceToNat, if_pos, if_neg, true_and, and_true, and_self, eq_self, if_true, reduceIte, not_true_eq_false, not_false_eq_true, or_true, true_or, s93 hs, p93_11 hp, us, h0, e, ei, c, h10]
end
