/-! THE CLASS reads ITEMS -/
def c44_25t (f : Nat) (x0 : Nat) (R116 : ((Nat ⊕ Unit) × xT_)) : Option ((Nat ⊕ Unit) × xT_) := cth R116 (fun _ => ((cq_gr 4 5 20 (x0) R116.2).bind fun v124 => ((cq_gr 6 15 20 (v124) R116.2).bind fun v126 => ((cq_gr 4 5 20 (x0) R116.2).bind fun v128 => ((cq_gi 6 2 20 (v128) R116.2).bind fun v130 => ((cq_gi 4 9 20 (x0) R116.2).bind fun v132 => ((cq_s 3 (v126) (v130) (v132) R116.2).bind fun T135 => (some (.inr (), T135)))))))))
theorem c44_25t_e (f : Nat) (x0 : Nat) (T : xT_) : c44_25 f x0 T = ((cq_gr 4 5 20 (x0) T).bind fun v101 => ((cq_gr 6 14 20 (v101) T).bind fun v103 => ((cq_gr 4 5 20 (x0) T).bind fun v105 => ((cq_gi 6 2 20 (v105) T).bind fun v107 => ((cq_gi 4 9 20 (x0) T).bind fun v109 => ((cq_s 3 (v103) (v107) (v109) T).bind fun T112 => ((cq_is 4 20 (x0) T112).bind fun _ => ((c53 f (x0) (0) T112).bind fun R116 => c44_25t f x0 R116)))))))) := rfl
def c44_96t (f : Nat) (x0 : Nat) (x1 : Int) (R171 : ((Nat ⊕ Unit) × xT_)) : Option ((Nat ⊕ Unit) × xT_) := cth R171 (fun _ => (if (x1) = (10) then c44_145  f (x0) R171.2 else ((cq_gr 4 5 20 (x0) R171.2).bind fun v180 => ((cq_is 4 20 (x0) R171.2).bind fun _ => ((c49 f (x0) R171.2).bind fun R182 => cth R182 (fun v188 => ((cq_p 6 5 20 (v180) (v188) R182.2).bind fun T191 => c44_145  f (x0) T191)))))))
theorem c44_96t_e (f : Nat) (x0 : Nat) (x1 : Int) (T : xT_) : c44_96 f x0 x1 T = ((cq_gr 4 5 20 (x0) T).bind fun v147 => ((cq_gr 4 5 20 (x0) T).bind fun v149 => ((cq_gi 6 2 20 (v149) T).bind fun v151 => ((cq_p 6 3 20 (v147) (v151) T).bind fun T154 => ((cq_gr 4 5 20 (x0) T154).bind fun v158 => ((cq_p 6 4 20 (v158) (x1) T154).bind fun T161 => ((cq_is 4 20 (x0) T161).bind fun _ => ((c37 f (x0) T161).bind fun R165 => ((cq_is 4 20 (x0) R165).bind fun _ => ((c38 f (x0) (40) R165).bind fun R171 => c44_96t f x0 x1 R171)))))))))) := rfl
def c44_96u (f : Nat) (x0 : Nat) (v180 : Nat) (R182 : ((Nat ⊕ Int) × xT_)) : Option ((Nat ⊕ Unit) × xT_) := cth R182 (fun v188 => ((cq_p 6 5 20 (v180) (v188) R182.2).bind fun T191 => c44_145  f (x0) T191))
theorem c44_96u_e (f : Nat) (x0 : Nat) (x1 : Int) (R171 : ((Nat ⊕ Unit) × xT_)) : c44_96t f x0 x1 R171 = cth R171 (fun _ => (if (x1) = (10) then c44_145  f (x0) R171.2 else ((cq_gr 4 5 20 (x0) R171.2).bind fun v180 => ((cq_is 4 20 (x0) R171.2).bind fun _ => ((c49 f (x0) R171.2).bind fun R182 => c44_96u f x0 v180 R182))))) := rfl
def cGa (G : xG_) (u : Nat) (g : Int × Int × Int) : Prop := g.1 = 0 ∧ G u 3 = -1 ∨ (10 ≤ g.1 ∧ g.1 ≤ 13) ∧ G u 3 = g.2.1 ∧ 0 ≤ g.2.1 ∧ G u 4 = g.1 ∧ (g.1 ≠ 10 → G u 5 = g.2.2)
/-- ITEMS -/
def cIt (G : xG_) (u : Nat) (K : pCd) (g : Int × Int × Int) (I : List pCd) : Prop := G u 2 = (I.length : Int) ∧ I.length ≤ 4 ∧ (∀ c, c < I.length → cSg G u K c (I.getD c [])) ∧ (∀ c, I.length ≤ c → c < 4 → G (u + 7) c = 0 ∧ G (u + 8) c = 0) ∧ cGa G u g
def xFi (u : Nat) (G G' : xG_) : Prop := ∀ a j, ¬ (a = 72 ∧ (j = 1 ∨ j = 2 ∨ j = 9 ∨ j = 12)) → ¬ (73 ≤ a ∧ a ≤ 77) → ¬ (a = u ∧ (2 ≤ j ∧ j ≤ 6)) → a ≠ u + 1 → ¬ ((a = u + 7 ∨ a = u + 8) ∧ j < 4) → G' a j = G a j
section
variable {f n N w i i' u q l F : Nat} {S : Nat → Nat × Nat × Nat} {G G1 G' G'' : xG_} {m : Nat × Nat} {B : Nat → Int} {t : tStr} {V V' : List (Int × Nat)} {K K' : pCd} {I : List pCd} {g : Int × Int × Int} {k sp : Int} {x : Nat}
theorem xFi.id : xFi u G G := fun _ _ _ _ _ _ _ => rfl
theorem xFi.tr (h : xFi u G G') (h' : xFi u G' G'') : xFi u G G'' := fun a j z1 z2 z3 z4 z5 => by rw [h' a j z1 z2 z3 z4 z5, h a j z1 z2 z3 z4 z5]
theorem xFs.fi {sl : Nat} (h : xFs u sl G G') (h4 : sl < 4) : xFi u G G' := fun a j p1 p2 p3 p4 p5 => h a j p1 p2 (by omega) p4 (by omega)
theorem xF0.fi (h : xF0 u G G') : xFi u G G' := fun a j p1 p2 p3 p4 p5 => h a j (by omega) (by omega) (by omega) p4
theorem xFi.up {v : Int} {k : Nat} (h : 2 ≤ k ∧ k ≤ 6) : xFi u G (xup2 G u k v) := fun a j p1 p2 p3 p4 p5 => xup2_n (by omega)
theorem cIt.add {E : pCd} (h : cIt G u K g I) (hl : I.length < 4) (h2 : G' u 2 = ((I.length + 1 : Nat) : Int)) (hg : cGa G' u g) (h7 : ∀ j, j ≠ I.length → j < 4 → G' (u + 7) j = G (u + 7) j ∧ G' (u + 8) j = G (u + 8) j) (hE : cSg G' u (K ++ K') I.length E) : cIt G' u (K ++ K') g (I ++ [E]) := by
  refine ⟨by rw [h2, len1], by rw [len1]; omega, fun c hc => ?_, fun c h1 h2 => ?_, hg⟩
  · rw [len1] at hc
    rw [getD_1]
    by_cases cc : c = I.length
    · rw [if_pos cc, cc]; exact hE
    · rw [if_neg cc]
      exact (h.2.2.1 c (by omega)).ge (h7 c cc (by omega)).1 (h7 c cc (by omega)).2
  · rw [len1] at h1
    rw [(h7 c (by omega) h2).1, (h7 c (by omega) h2).2]
    exact h.2.2.2.1 c (by omega) h2
theorem cGa.ge (h : cGa G u g) (h3 : ∀ j, 3 ≤ j → j ≤ 5 → G' u j = G u j) : cGa G' u g := by
  unfold cGa at h ⊢
  rw [h3 3 (by decide) (by decide), h3 4 (by decide) (by decide), h3 5 (by decide) (by decide)]
  exact h
theorem st_44 (hs : cSs S) (hp : cPs G) (hx : x ≤ 3000) (u2 : 278 < u) (us : S u = (1, 6, 20)) (u1 : G 72 5 = (u : Int)) (k1 : G 67 x = k) (k2 : G 68 x = sp) (k3 : G 72 1 = (x : Int)) : (¬ (10 ≤ k ∧ k ≤ 13) → c44 f 72 (S, G, m) = c44_25 f 72 (S, G, m)) ∧ (10 ≤ k ∧ k ≤ 13 → G u 3 = -1 → c44 f 72 (S, G, m) = c44_96 f 72 k (S, G, m)) ∧ (10 ≤ k ∧ k ≤ 13 → G u 3 ≠ -1 → c44 f 72 (S, G, m) = some (.inl 0, cWr S G m sp)) := by
  refine ⟨fun c => ?_, fun c c' => ?_, fun c c' => ?_⟩
  · unfold c44
    by_cases c1 : k < 10
    · simp (disch := omega) only [cq_gi, cq_gr, cq_a, cq_s, cq_p, cq_pr, cq_is, cq_ar, cq_ab, cq_ln, xq_nz, Option.bind_some, xup2_n, xup2_s, Int.toNat_natCast, Int.reduceToNat, if_pos, if_neg, true_and, and_true, and_self, eq_self, if_true, reduceIte, not_true_eq_false, not_false_eq_true, or_true, true_or, s72 hs, s65 hs, s67 hs, p72_0 hp, p65_3 hp, k1, k3]
    · simp (disch := omega) only [cq_gi, cq_gr, cq_a, cq_s, cq_p, cq_pr, cq_is, cq_ar, cq_ab, cq_ln, xq_nz, Option.bind_some, xup2_n, xup2_s, Int.toNat_natCast, Int.reduceToNat, if_pos, if_neg, true_and, and_true, and_self, eq_self, if_true, reduceIte, not_true_eq_false, not_false_eq_true, or_true, true_or, s72 hs, s65 hs, s67 hs, p72_0 hp, p65_3 hp, k1, k3]
  · unfold c44
    simp (disch := omega) only [cq_gi, cq_gr, cq_a, cq_s, cq_p, cq_pr, cq_is, cq_ar, cq_ab, cq_ln, xq_nz, Option.bind_some, xup2_n, xup2_s, Int.toNat_natCast, Int.reduceToNat, if_pos, if_neg, true_and, and_true, and_self, eq_self, if_true, reduceIte, not_true_eq_false, not_false_eq_true, or_true, true_or, s72 hs, s65 hs, s67 hs, p72_0 hp, p65_3 hp, k1, k3, us, u1, c']
  · unfold c44
    simp (disch := omega) only [cq_gi, cq_gr, cq_a, cq_s, cq_p, cq_pr, cq_is, cq_ar, cq_ab, cq_ln, xq_nz, Option.bind_some, xup2_n, xup2_s, Int.toNat_natCast, Int.reduceToNat, if_pos, if_neg, true_and, and_true, and_self, eq_self, if_true, reduceIte, not_true_eq_false, not_false_eq_true, or_true, true_or, s72 hs, s65 hs, s67 hs, s68 hs, p72_0 hp, p65_3 hp, p65_4 hp, k1, k2, k3, us, u1, k_36 hs, cth]
theorem st_44_25 {lK : Int} (hs : cSs S) (hl : l < 4) (u2 : 278 < u) (us : S u = (1, 6, 20)) (us7 : S (u + 7) = (2, 3, 20)) (u1 : G 72 5 = (u : Int)) (w14 : G u 14 = ((u + 7 : Nat) : Int)) (h9 : G 72 9 = lK) (hl2 : G u 2 = (l : Int)) : c44_25 f 72 (S, G, m) = ((c53 f 72 0 (S, xup2 G (u + 7) l lK, m)).bind fun R => c44_25t f 72 R) := by
  rw [c44_25t_e]
  simp (disch := omega) only [cq_gi, cq_gr, cq_a, cq_s, cq_p, cq_pr, cq_is, cq_ar, cq_ab, cq_ln, xq_nz, Option.bind_some, xup2_n, xup2_s, Int.toNat_natCast, Int.reduceToNat, if_pos, if_neg, true_and, and_true, and_self, eq_self, if_true, reduceIte, not_true_eq_false, not_false_eq_true, or_true, true_or, s72 hs, us, us7, u1, w14, h9, hl2]
theorem st_44_25t {lK : Int} (hs : cSs S) (hl : l < 4) (u2 : 278 < u) (us : S u = (1, 6, 20)) (us8 : S (u + 8) = (2, 3, 20)) (a3 : G1 72 9 = lK) (a4 : G1 72 5 = (u : Int)) (v15 : G1 u 15 = ((u + 8 : Nat) : Int)) (q2 : G1 u 2 = (l : Int)) : c44_25t f 72 (.inr (), (S, G1, m)) = some (.inr (), (S, xup2 G1 (u + 8) l lK, m)) := by
  unfold c44_25t
  simp (disch := omega) only [cq_gi, cq_gr, cq_a, cq_s, cq_p, cq_pr, cq_is, cq_ar, cq_ab, cq_ln, xq_nz, Option.bind_some, xup2_n, xup2_s, Int.toNat_natCast, Int.reduceToNat, if_pos, if_neg, true_and, and_true, and_self, eq_self, if_true, reduceIte, not_true_eq_false, not_false_eq_true, or_true, true_or, s72 hs, us, us8, cth, a3, a4, v15, q2]
theorem xFs.u2 {sl : Nat} (hu : 278 < u) (h : xFs u sl G G') : G' u 2 = G u 2 ∧ (∀ j, 3 ≤ j → j ≤ 5 → G' u j = G u j) ∧ ∀ j, j ≠ sl → G' (u + 7) j = G (u + 7) j ∧ G' (u + 8) j = G (u + 8) j :=
  ⟨h u 2 (by omega) (by omega) (by omega) (by omega) (by omega), fun j h1 h2 => h u j (by omega) (by omega) (by omega) (by omega) (by omega), fun j hj => ⟨h _ j (by omega) (by omega) (by omega) (by omega) (by omega), h _ j (by omega) (by omega) (by omega) (by omega) (by omega)⟩⟩
/-- what is read of an ITEM -/
def cI1 (f : Nat) (S : Nat → Nat × Nat × Nat) (m : Nat × Nat) (B : Nat → Int) (n : Nat) (t : tStr) (N w u : Nat) (G : xG_) (i l i0 : Nat) (T : Option ((Nat ⊕ Unit) × xT_)) (s' : pIt) : Prop := ∃ G' K', T = some (.inr (), (S, G', m)) ∧ xFi u G G' ∧ cXr S G' B n t N w u s'.1 K' s'.2.2.2 ∧ K'.length + i0 ≤ s'.2.2.2 ∧ i < s'.2.2.2 ∧ G' u 2 = (l : Int) ∧ cIt (xup2 G' u 2 ((l + 1 : Nat) : Int)) u K' s'.2.1 s'.2.2.1
theorem cSg.u2 {v : Int} {E : pCd} {sl k : Nat} (h : cSg G u K sl E) : cSg (xup2 G u k v) u K sl E := by
  have := cSg.ge (D := []) (G' := xup2 G u k v) h (by rw [xup2_n (by omega)]) (by rw [xup2_n (by omega)])
  rw [List.append_nil] at this
  exact this
theorem cIt_ex {lK : Int} {E : pCd} (hu : 278 < u) (h : cIt G u K g I) (hl : I.length < 4) (hx : xFs u I.length G (xup2 G1 (u + 8) I.length lK)) (hE : cSg (xup2 G1 (u + 8) I.length lK) u (K ++ K') I.length E) : xup2 G1 (u + 8) I.length lK u 2 = (I.length : Int) ∧ cIt (xup2 (xup2 G1 (u + 8) I.length lK) u 2 ((I.length + 1 : Nat) : Int)) u (K ++ K') g (I ++ [E]) := by
  obtain ⟨a1, a2, a3⟩ := hx.u2 hu
  refine ⟨by rw [a1]; exact h.1, h.add hl (xup2_s _ _ _ _) (h.2.2.2.2.ge (fun j z1 z2 => by rw [xup2_n (by omega)]; exact a2 j z1 z2)) (fun j z1 z2 => ?_) hE.u2⟩
  rw [xup2_n (show ¬ (u + 7 = u ∧ j = 2) by omega), xup2_n (show ¬ (u + 8 = u ∧ j = 2) by omega)]
  exact a3 j z1
/-- an ITEM that is an EXPRESSION -/
theorem k_44x {i0 : Nat} (hf : 3010 < f) (hok : tOk t) (hvi : vIn t B n) (hF : 4 * N + 2 ≤ F) (h : cXr S G B n t N w u V K i) (hK : K.length + i0 ≤ i) (hI : cIt G u K g I) (hl : I.length < 4) :
    pok (pbind (pX t F 1 0 (V, [], i)) fun e => .inr (e.1, g, I ++ [e.2.1], e.2.2)) (fun x => ∃ G', c44_25 f 72 (S, G, m) = some (.inl 0, cWr S G' m (x : Int)) ∧ xFi u G G') (cI1 f S m B n t N w u G i I.length i0 (c44_25 f 72 (S, G, m))) := by
  have hs := h.1.1
  obtain ⟨u1, u2, ⟨us, us1, us2, us3, us4, us5, us6, us7, us8, _⟩, w7, w9, w10, w11, w12, w13, w14, w15, _⟩ := h.2.2.2.1
  have p := k_seg (f := f) (m := m) (F := F) (sl := I.length) hf hok hvi hF h hK
  have e0 := st_44_25 (f := f) (m := m) hs hl u2 us us7 u1 w14 h.2.2.2.2.2.2.1 hI.1
  cases hp : pX t F 1 0 (V, [], i) with
  | inl x =>
    rw [hp] at p
    obtain ⟨G1, a1, a2⟩ := p
    exact ⟨G1, by rw [e0, a1]; rfl, a2.fi hl⟩
  | inr e =>
    rw [hp] at p
    obtain ⟨G1, a1, a3, a4, a5, a6, a7, a8, a9, a10, a11⟩ := p
    have q2 : G1 u 2 = (I.length : Int) := by rw [(a6.u2 u2).1]; exact hI.1
    have e1 := st_44_25t (f := f) (m := m) hs hl u2 us us8 a3 a4 a5.2.2.2.2.2.2.2.1 q2
    obtain ⟨b1, b2⟩ := cIt_ex (K' := e.2.1.map cOp) u2 hI hl a9 a11
    exact ⟨_, _, by rw [e0, a1]; exact e1, a9.fi hl, a10, a8, a7, b1, b2⟩
def gUp (G : xG_) (u l : Nat) (k : Int) : xG_ := xup2 (xup2 G u 3 (l : Int)) u 4 k
theorem gUp_x (h : cXr S G B n t N w u V K i) : cXr S (gUp G u l k) B n t N w u V K i := by
  have hu := h.2.2.2.1.2.1
  have h1 : cXr S (xup2 G u 3 (l : Int)) B n t N w u V K i := h.st1 hu (by omega) (by omega)
  exact h1.st1 hu (by omega) (by omega)
theorem gUp_f : xFi u G (gUp G u l k) := xFi.tr (xFi.up (k := 3) (by omega)) (xFi.up (k := 4) (by omega))
theorem gUp_n (a j : Nat) (h : ¬ (a = u ∧ (j = 3 ∨ j = 4))) : gUp G u l k a j = G a j := by
  unfold gUp
  rw [xup2_n (fun y => h ⟨y.1, .inr y.2⟩), xup2_n (fun y => h ⟨y.1, .inl y.2⟩)]
theorem gUp_s : gUp G u l k u 3 = (l : Int) ∧ gUp G u l k u 4 = k := by
  unfold gUp
  exact ⟨by rw [xup2_n (by omega), xup2_s], xup2_s _ _ _ _⟩
theorem st_44_96 {G2 : xG_} (hs : cSs S) (u2 : 278 < u) (us : S u = (1, 6, 20)) (u1 : G 72 5 = (u : Int)) (hl2 : G u 2 = (l : Int)) (d1 : c37 f 72 (S, gUp G u l k, m) = some (S, G2, m)) : c44_96 f 72 k (S, G, m) = ((c38 f 72 40 (S, G2, m)).bind fun R => c44_96t f 72 k R) := by
  rw [c44_96t_e]
  unfold gUp at d1
  simp (disch := omega) only [cq_gi, cq_gr, cq_a, cq_s, cq_p, cq_pr, cq_is, cq_ar, cq_ab, cq_ln, xq_nz, Option.bind_some, xup2_n, xup2_s, Int.toNat_natCast, Int.reduceToNat, if_pos, if_neg, true_and, and_true, and_self, eq_self, if_true, reduceIte, not_true_eq_false, not_false_eq_true, or_true, true_or, s72 hs, us, u1, hl2, d1]
theorem st_44_96t (hs : cSs S) (u2 : 278 < u) (us : S u = (1, 6, 20)) (u1 : G 72 5 = (u : Int)) : c44_96t f 72 k (.inr (), (S, G, m)) = if k = 10 then c44_145 f 72 (S, G, m) else ((c49 f 72 (S, G, m)).bind fun R => c44_96u f 72 u R) := by
  rw [c44_96u_e]
  by_cases c : k = 10
  · rw [if_pos c]
    simp (disch := omega) only [cq_gi, cq_gr, cq_a, cq_s, cq_p, cq_pr, cq_is, cq_ar, cq_ab, cq_ln, xq_nz, Option.bind_some, xup2_n, xup2_s, Int.toNat_natCast, Int.reduceToNat, if_pos, if_neg, true_and, and_true, and_self, eq_self, if_true, reduceIte, not_true_eq_false, not_false_eq_true, or_true, true_or, s72 hs, us, u1, cth]
  · rw [if_neg c]
    simp (disch := omega) only [cq_gi, cq_gr, cq_a, cq_s, cq_p, cq_pr, cq_is, cq_ar, cq_ab, cq_ln, xq_nz, Option.bind_some, xup2_n, xup2_s, Int.toNat_natCast, Int.reduceToNat, if_pos, if_neg, true_and, and_true, and_self, eq_self, if_true, reduceIte, not_true_eq_false, not_false_eq_true, or_true, true_or, s72 hs, us, u1, cth]
theorem st_44_96u {v : Int} (us : S u = (1, 6, 20)) : c44_96u f 72 u (.inr v, (S, G, m)) = c44_145 f 72 (S, xup2 G u 5 v, m) := by
  unfold c44_96u
  simp (disch := omega) only [cq_gi, cq_gr, cq_a, cq_s, cq_p, cq_pr, cq_is, cq_ar, cq_ab, cq_ln, xq_nz, Option.bind_some, xup2_n, xup2_s, Int.toNat_natCast, Int.reduceToNat, if_pos, if_neg, true_and, and_true, and_self, eq_self, if_true, reduceIte, not_true_eq_false, not_false_eq_true, or_true, true_or, us, cth]
/-- what the gathering's ITEM is at last -/
theorem cIt_ga (hu : 278 < u) (h : cIt G u K g I) (hl : I.length < 4) {g' : Int × Int × Int} (hg : (10 ≤ g'.1 ∧ g'.1 ≤ 13) ∧ G1 u 3 = g'.2.1 ∧ 0 ≤ g'.2.1 ∧ G1 u 4 = g'.1 ∧ (g'.1 ≠ 10 → G1 u 5 = g'.2.2)) (h2 : G1 u 2 = G u 2) (h7 : ∀ j, j < 4 → G1 (u + 7) j = G (u + 7) j ∧ G1 (u + 8) j = G (u + 8) j) : G1 u 2 = (I.length : Int) ∧ cIt (xup2 G1 u 2 ((I.length + 1 : Nat) : Int)) u K g' (I ++ [[]]) := by
  have z7 : ∀ j, j < 4 → xup2 G1 u 2 ((I.length + 1 : Nat) : Int) (u + 7) j = G (u + 7) j ∧ xup2 G1 u 2 ((I.length + 1 : Nat) : Int) (u + 8) j = G (u + 8) j := fun j hj => by
    rw [xup2_n (show ¬ (u + 7 = u ∧ j = 2) by omega), xup2_n (show ¬ (u + 8 = u ∧ j = 2) by omega)]; exact h7 j hj
  refine ⟨by rw [h2]; exact h.1, by rw [xup2_s, len1], by rw [len1]; omega, fun c hc => ?_, fun c h1 h2 => ?_, .inr ?_⟩
  · rw [len1] at hc
    rw [getD_1]
    by_cases cc : c = I.length
    · rw [if_pos cc, cc]
      obtain ⟨e1, e2⟩ := h.2.2.2.1 I.length (Nat.le_refl _) hl
      exact ⟨[], K, rfl, by rw [(z7 _ hl).1]; exact e1, by rw [(z7 _ hl).2]; exact e2⟩
    · rw [if_neg cc]
      have := cSg.ge (D := []) (G' := xup2 G1 u 2 ((I.length + 1 : Nat) : Int)) (h.2.2.1 c (by omega)) (z7 c (by omega)).1 (z7 c (by omega)).2
      rw [List.append_nil] at this
      exact this
  · rw [len1] at h1
    rw [(z7 c h2).1, (z7 c h2).2]
    exact h.2.2.2.1 c (by omega) h2
  · rw [xup2_n (by omega), xup2_n (by omega), xup2_n (by omega)]
    exact hg
theorem k_44g {i0 : Nat} (hf : 3010 < f) (hvi : vIn t B n) (h : cXr S G B n t N w u V K i) (hK : K.length + i0 ≤ i) (hI : cIt G u K g I) (hl : I.length < 4) (hk : 10 ≤ kK t i ∧ kK t i ≤ 13) :
    pok (pbind (pNeed t 40 (i + 1)) fun j => if kK t i = 10 then pbind (pNeed t 41 j) fun j => .inr (V, ((10 : Int), (I.length : Int), (-1 : Int)), I ++ [[]], j) else pbind (pVar t V j) fun r => pbind (pNeed t 41 r.2.2) fun j => .inr (r.2.1, (kK t i, (I.length : Int), r.1), I ++ [[]], j)) (fun x => ∃ G', c44_96 f 72 (kK t i) (S, G, m) = some (.inl 0, cWr S G' m (x : Int)) ∧ xFi u G G') (cI1 f S m B n t N w u G i I.length i0 (c44_96 f 72 (kK t i) (S, G, m))) := by
  have hs := h.1.1
  obtain ⟨u1, u2, ⟨us, _⟩, _⟩ := h.2.2.2.1
  have h1 := gUp_x (l := I.length) (k := kK t i) h
  obtain ⟨l1, l2⟩ := h1.1.lt h1.2.1 (by omega)
  obtain ⟨d1, d2⟩ := k_37 (f := f) (m := m) h1.1 h1.2.1 (by omega)
  obtain ⟨y1, y2⟩ := h1.at d2 (by omega)
  have e0 := st_44_96 (m := m) hs u2 us u1 hI.1 d1
  have p38 := k_38 (f := f) (m := m) (c := 40) (by decide) y2.1 y2.2.1
  cases hn : pNeed t 40 (i + 1) with
  | inl x =>
    rw [hn] at p38
    have p38' : c38 f 72 40 (S, _, m) = _ := p38
    exact ⟨_, by rw [e0, p38']; rfl, gUp_f.tr y1.fi⟩
  | inr j =>
    rw [hn] at p38
    obtain ⟨a1, a2, a3, a4⟩ := p38
    have hlt := (y2.1.lt y2.2.1 (by omega)).1
    obtain ⟨b1, b2⟩ := y2.at a4 (by omega)
    have e1 := st_44_96t (f := f) (m := m) (k := kK t i) hs u2 us b2.2.2.2.1.1
    have e2 : c44_96 f 72 (kK t i) (S, G, m) = c44_96t f 72 (kK t i) (.inr (), (S, xup2 (xup2 (gUp G u I.length (kK t i)) 72 1 ((min (i + 1) N : Nat) : Int)) 72 1 ((min j N : Nat) : Int), m)) := by rw [e0, a1]; rfl
    rw [e1] at e2
    have f2 := (gUp_f (G := G) (l := I.length) (k := kK t i)).tr (y1.fi.tr b1.fi)
    have z2 : ∀ a k, u ≤ a → xup2 (xup2 (gUp G u I.length (kK t i)) 72 1 ((min (i + 1) N : Nat) : Int)) 72 1 ((min j N : Nat) : Int) a k = gUp G u I.length (kK t i) a k := fun a k ha => by
      rw [xup2_n (show ¬ (a = 72 ∧ k = 1) by omega), xup2_n (show ¬ (a = 72 ∧ k = 1) by omega)]
    show pok (if kK t i = 10 then pbind (pNeed t 41 j) fun j => .inr (V, ((10 : Int), (I.length : Int), (-1 : Int)), I ++ [[]], j) else pbind (pVar t V j) fun r => pbind (pNeed t 41 r.2.2) fun j => .inr (r.2.1, (kK t i, (I.length : Int), r.1), I ++ [[]], j)) _ _
    obtain ⟨G2, hG2⟩ : ∃ G2, G2 = xup2 (xup2 (gUp G u I.length (kK t i)) 72 1 ((min (i + 1) N : Nat) : Int)) 72 1 ((min j N : Nat) : Int) := ⟨_, rfl⟩
    rw [← hG2] at e2 b2 f2 z2
    clear e0 e1 a1 d1 hG2
    by_cases c : kK t i = 10
    · rw [if_pos c] at e2 ⊢
      have q38 := k_38 (f := f) (m := m) (c := 41) (by decide) b2.1 b2.2.1
      cases hq : pNeed t 41 j with
      | inl x =>
        rw [hq] at q38
        have q38' : c38 f 72 41 (S, G2, m) = _ := q38
        refine ⟨G2, ?_, f2⟩
        rw [e2]
        unfold c44_145
        simp (disch := omega) only [cq_gi, cq_gr, cq_a, cq_s, cq_p, cq_pr, cq_is, cq_ar, cq_ab, cq_ln, xq_nz, Option.bind_some, xup2_n, xup2_s, Int.toNat_natCast, Int.reduceToNat, if_pos, if_neg, true_and, and_true, and_self, eq_self, if_true, reduceIte, not_true_eq_false, not_false_eq_true, or_true, true_or, s72 hs, q38', cth]
      | inr j' =>
        rw [hq] at q38
        obtain ⟨r1, r2, r3, r4⟩ := q38
        have hlt' := (b2.1.lt b2.2.1 (by omega)).1
        obtain ⟨s1, s2⟩ := b2.at r4 (by omega)
        obtain ⟨v1, v2⟩ := cIt_ga (G1 := xup2 G2 72 1 ((min j' N : Nat) : Int)) (g' := ((10 : Int), (I.length : Int), (-1 : Int))) u2 hI hl (by
          rw [xup2_n (show ¬ (u = 72 ∧ 3 = 1) by omega), xup2_n (show ¬ (u = 72 ∧ 4 = 1) by omega), z2 _ _ (by omega), z2 _ _ (by omega), gUp_s.1, gUp_s.2]
          exact ⟨⟨show (10 : Int) ≤ 10 by decide, show (10 : Int) ≤ 13 by decide⟩, rfl, Int.natCast_nonneg _, c, fun y => absurd rfl y⟩) (by rw [xup2_n (by omega), z2 _ _ (by omega), gUp_n _ _ (by omega)]) (fun k hk => by
            rw [xup2_n (show ¬ (u + 7 = 72 ∧ k = 1) by omega), xup2_n (show ¬ (u + 8 = 72 ∧ k = 1) by omega), z2 _ _ (by omega), z2 _ _ (by omega), gUp_n _ _ (by omega), gUp_n _ _ (by omega)]
            exact ⟨rfl, rfl⟩)
        refine ⟨_, K, ?_, f2.tr s1.fi, s2, by show K.length + i0 ≤ j'; omega, by show i < j'; omega, v1, v2⟩
        rw [e2]
        unfold c44_145
        simp (disch := omega) only [cq_gi, cq_gr, cq_a, cq_s, cq_p, cq_pr, cq_is, cq_ar, cq_ab, cq_ln, xq_nz, Option.bind_some, xup2_n, xup2_s, Int.toNat_natCast, Int.reduceToNat, if_pos, if_neg, true_and, and_true, and_self, eq_self, if_true, reduceIte, not_true_eq_false, not_false_eq_true, or_true, true_or, s72 hs, r1, cth]
    · rw [if_neg c] at e2 ⊢
      have p49 := k_49r (m := m) (by omega : 20 < f) hvi b2
      cases hv : pVar t V j with
      | inl x =>
        rw [hv] at p49
        have p49' : c49 f 72 (S, G2, m) = _ := p49
        exact ⟨G2, by rw [e2, p49']; rfl, f2⟩
      | inr r =>
        rw [hv] at p49
        obtain ⟨G3, g1, g2, g3⟩ := p49
        have hr := (pVar_le hv).1
        have g4 : cXr S (xup2 G3 u 5 r.1) B n t N w u r.2.1 K r.2.2 := g3.st1 u2 (by omega) (by omega)
        have z3 : ∀ a k, u ≤ a → a ≠ u + 1 → ¬ (a = u ∧ k = 6) → G3 a k = gUp G u I.length (kK t i) a k := fun a k y1 y2 y3 => by rw [g2 a k (by omega) (by omega) y3 y2, z2 a k y1]
        have f3 := (f2.tr g2.fi).tr (xFi.up (G := G3) (v := r.1) (k := 5) (by omega))
        have e3 : c44_96 f 72 (kK t i) (S, G, m) = c44_145 f 72 (S, xup2 G3 u 5 r.1, m) := by rw [e2, g1]; exact st_44_96u us
        have q38 := k_38 (f := f) (m := m) (c := 41) (by decide) g4.1 g4.2.1
        show pok (pbind (pNeed t 41 r.2.2) fun j => .inr (r.2.1, (kK t i, (I.length : Int), r.1), I ++ [[]], j)) _ _
        cases hq : pNeed t 41 r.2.2 with
        | inl x =>
          rw [hq] at q38
          have q38' : c38 f 72 41 (S, xup2 G3 u 5 r.1, m) = _ := q38
          refine ⟨_, ?_, f3⟩
          rw [e3]
          unfold c44_145
          simp (disch := omega) only [cq_gi, cq_gr, cq_a, cq_s, cq_p, cq_pr, cq_is, cq_ar, cq_ab, cq_ln, xq_nz, Option.bind_some, xup2_n, xup2_s, Int.toNat_natCast, Int.reduceToNat, if_pos, if_neg, true_and, and_true, and_self, eq_self, if_true, reduceIte, not_true_eq_false, not_false_eq_true, or_true, true_or, s72 hs, q38', cth]
        | inr j' =>
          rw [hq] at q38
          obtain ⟨r1, r2, r3, r4⟩ := q38
          have hlt' := (g4.1.lt g4.2.1 (by omega)).1
          obtain ⟨s1, s2⟩ := g4.at r4 (by omega)
          obtain ⟨v1, v2⟩ := cIt_ga (G1 := xup2 (xup2 G3 u 5 r.1) 72 1 ((min j' N : Nat) : Int)) (g' := (kK t i, (I.length : Int), r.1)) u2 hI hl (by
            rw [xup2_n (show ¬ (u = 72 ∧ 3 = 1) by omega), xup2_n (show ¬ (u = 72 ∧ 4 = 1) by omega), xup2_n (show ¬ (u = 72 ∧ 5 = 1) by omega), xup2_n (show ¬ (u = u ∧ 3 = 5) by omega), xup2_n (show ¬ (u = u ∧ 4 = 5) by omega), xup2_s, z3 _ _ (by omega) (by omega) (by omega), z3 _ _ (by omega) (by omega) (by omega), gUp_s.1, gUp_s.2]
            exact ⟨hk, rfl, Int.natCast_nonneg _, rfl, fun _ => rfl⟩) (by rw [xup2_n (by omega), xup2_n (by omega), z3 _ _ (by omega) (by omega) (by omega), gUp_n _ _ (by omega)]) (fun k hk => by
              rw [xup2_n (show ¬ (u + 7 = 72 ∧ k = 1) by omega), xup2_n (show ¬ (u + 8 = 72 ∧ k = 1) by omega), xup2_n (show ¬ (u + 7 = u ∧ k = 5) by omega), xup2_n (show ¬ (u + 8 = u ∧ k = 5) by omega), z3 _ _ (by omega) (by omega) (by omega), z3 _ _ (by omega) (by omega) (by omega), gUp_n _ _ (by omega), gUp_n _ _ (by omega)]
              exact ⟨rfl, rfl⟩)
          refine ⟨_, K, ?_, f3.tr s1.fi, s2, by show K.length + i0 ≤ j'; omega, by show i < j'; omega, v1, v2⟩
          rw [e3]
          unfold c44_145
          simp (disch := omega) only [cq_gi, cq_gr, cq_a, cq_s, cq_p, cq_pr, cq_is, cq_ar, cq_ab, cq_ln, xq_nz, Option.bind_some, xup2_n, xup2_s, Int.toNat_natCast, Int.reduceToNat, if_pos, if_neg, true_and, and_true, and_self, eq_self, if_true, reduceIte, not_true_eq_false, not_false_eq_true, or_true, true_or, s72 hs, r1, cth]
/-- readItem() -/
theorem k_44 {i0 : Nat} (hf : 3010 < f) (hok : tOk t) (hvi : vIn t B n) (hF : 4 * N + 2 ≤ F) (h : cXr S G B n t N w u V K i) (hK : K.length + i0 ≤ i) (hI : cIt G u K g I) (hl : I.length < 4) :
    pok (pItem t F (V, g, I, i)) (fun x => ∃ G', c44 f 72 (S, G, m) = some (.inl 0, cWr S G' m (x : Int)) ∧ xFi u G G') (cI1 f S m B n t N w u G i I.length i0 (c44 f 72 (S, G, m))) := by
  obtain ⟨k1, k2, k3, k4⟩ := h.1.tk h.2.1
  obtain ⟨e1, e2, e3⟩ := st_44 (f := f) (m := m) h.1.1 h.1.2.1 k4 h.2.2.2.1.2.1 h.2.2.2.1.2.2.1.1 h.2.2.2.1.1 k1 k2 k3
  unfold pItem
  show pok (if 10 ≤ kK t i ∧ kK t i ≤ 13 then (if g.1 ≠ 0 then .inl (kS t i) else pbind (pNeed t 40 (i + 1)) fun j => if kK t i = 10 then pbind (pNeed t 41 j) fun j => .inr (V, ((10 : Int), (I.length : Int), (-1 : Int)), I ++ [[]], j) else pbind (pVar t V j) fun r => pbind (pNeed t 41 r.2.2) fun j => .inr (r.2.1, (kK t i, (I.length : Int), r.1), I ++ [[]], j)) else pbind (pX t F 1 0 (V, [], i)) fun e => .inr (e.1, g, I ++ [e.2.1], e.2.2)) _ _
  by_cases c : 10 ≤ kK t i ∧ kK t i ≤ 13
  · rw [if_pos c]
    rcases hI.2.2.2.2 with ⟨g1, g2⟩ | ⟨g1, g2, g3, _⟩
    · rw [if_neg (fun y => y g1), e2 c g2]
      exact k_44g hf hvi h hK hI hl c
    · rw [if_pos (by omega)]
      exact ⟨G, e3 c (by omega), .id⟩
  · rw [if_neg c, e1 c]
    exact k_44x hf hok hvi hF h hK hI hl
end
