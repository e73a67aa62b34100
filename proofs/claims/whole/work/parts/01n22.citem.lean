section
/-! THE CLASS reads ITEMS -/
def c44_25t (f : Nat) (x0 : Nat) (R116 : ((Nat ⊕ Unit) × xT_)) : Option ((Nat ⊕ Unit) × xT_) := cth R116 (fun _ => ((cq_gr 4 5 20 (x0) R116.2).bind fun v124 => ((cq_gr 6 15 20 (v124) R116.2).bind fun v126 => ((cq_gr 4 5 20 (x0) R116.2).bind fun v128 => ((cq_gi 6 2 20 (v128) R116.2).bind fun v130 => ((cq_gi 4 9 20 (x0) R116.2).bind fun v132 => ((cq_s 3 (v126) (v130) (v132) R116.2).bind fun T135 => (some (.inr (), T135)))))))))
theorem c44_25t_e (f : Nat) (x0 : Nat) (T : xT_) : c44_25 f x0 T = ((cq_gr 4 5 20 (x0) T).bind fun v101 => ((cq_gr 6 14 20 (v101) T).bind fun v103 => ((cq_gr 4 5 20 (x0) T).bind fun v105 => ((cq_gi 6 2 20 (v105) T).bind fun v107 => ((cq_gi 4 9 20 (x0) T).bind fun v109 => ((cq_s 3 (v103) (v107) (v109) T).bind fun T112 => ((cq_is 4 20 (x0) T112).bind fun _ => ((c53 f (x0) (0) T112).bind fun R116 => c44_25t f x0 R116)))))))) := rfl
def c44_96t (f : Nat) (x0 : Nat) (x1 : Int) (R171 : ((Nat ⊕ Unit) × xT_)) : Option ((Nat ⊕ Unit) × xT_) := cth R171 (fun _ => (if (x1) = (10) then c44_145  f (x0) R171.2 else ((cq_gr 4 5 20 (x0) R171.2).bind fun v180 => ((cq_is 4 20 (x0) R171.2).bind fun _ => ((c49 f (x0) R171.2).bind fun R182 => cth R182 (fun v188 => ((cq_p 6 5 20 (v180) (v188) R182.2).bind fun T191 => c44_145  f (x0) T191)))))))
theorem c44_96t_e (f : Nat) (x0 : Nat) (x1 : Int) (T : xT_) : c44_96 f x0 x1 T = ((cq_gr 4 5 20 (x0) T).bind fun v147 => ((cq_gr 4 5 20 (x0) T).bind fun v149 => ((cq_gi 6 2 20 (v149) T).bind fun v151 => ((cq_p 6 3 20 (v147) (v151) T).bind fun T154 => ((cq_gr 4 5 20 (x0) T154).bind fun v158 => ((cq_p 6 4 20 (v158) (x1) T154).bind fun T161 => ((cq_is 4 20 (x0) T161).bind fun _ => ((c37 f (x0) T161).bind fun R165 => ((cq_is 4 20 (x0) R165).bind fun _ => ((c38 f (x0) (40) R165).bind fun R171 => c44_96t f x0 x1 R171)))))))))) := rfl
def c44_96u (f : Nat) (x0 : Nat) (v180 : Nat) (R182 : ((Nat ⊕ Int) × xT_)) : Option ((Nat ⊕ Unit) × xT_) := cth R182 (fun v188 => ((cq_p 6 5 20 (v180) (v188) R182.2).bind fun T191 => c44_145  f (x0) T191))
theorem c44_96u_e (f : Nat) (x0 : Nat) (x1 : Int) (R171 : ((Nat ⊕ Unit) × xT_)) : c44_96t f x0 x1 R171 = cth R171 (fun _ => (if (x1) = (10) then c44_145  f (x0) R171.2 else ((cq_gr 4 5 20 (x0) R171.2).bind fun v180 => ((cq_is 4 20 (x0) R171.2).bind fun _ => ((c49 f (x0) R171.2).bind fun R182 => c44_96u f x0 v180 R182))))) := rfl
def cGa (G : xG_) (u : Nat) (g : Int × Int × Int) : Prop := g.1 = 0 ∧ G u 3 = -1 ∨ (10 ≤ g.1 ∧ g.1 ≤ 13) ∧ G u 3 = g.2.1 ∧ 0 ≤ g.2.1 ∧ G u 4 = g.1 ∧ (g.1 ≠ 10 → G u 5 = g.2.2)
/-- ITEMS -/
def cIt (G : xG_) (u : Nat) (K : pCd) (g : Int × Int × Int) (I : List pCd) : Prop := G u 2 = (I.length : Int) ∧ I.length ≤ 4 ∧ (∀ c, c < I.length → cSg G u K c (I.getD c [])) ∧ (∀ c, I.length ≤ c → c < 4 → G (u + 7) c = 0 ∧ G (u + 8) c = 0) ∧ cGa G u g
def xFi (u : Nat) (G G' : xG_) : Prop := ∀ a j, ¬ (a = 72 ∧ (j = 1 ∨ j = 2 ∨ j = 9 ∨ j = 12)) → ¬ (73 ≤ a ∧ a ≤ 77) → ¬ (a = u ∧ (2 ≤ j ∧ j ≤ 6)) → a ≠ u + 1 → ¬ ((a = u + 7 ∨ a = u + 8) ∧ j < 4) → G' a j = G a j
section
variable {f n N w i i' u q l F : Nat} {S : Nat → Nat × Nat × Nat} {G G1 G' G'' : xG_} {m : Nat × Nat} {B : Nat → Int} {t : tStr} {V V' : List (Int × Nat)} {K K' : pCd} {I : List pCd} {g : Int × Int × Int} {k sp : Int} {x : Nat}
theorem xFi.id : xFi u G G := fun _ _ _ _ _ _ _ => rfl
theorem xFi.tr (h : xFi u G G') (h' : xFi u G' G'') : xFi u G G'' := fun a j z1 z2 z3 z4 z5 => by rw [h' a j z1 z2 z3 z4 z5, h a j z1 z2 z3 z4 z5]
theorem xFs.fi {sl : Nat} (h : xFs u sl G G') (h4 : sl < 4) : xFi u G G' := fun a j p1 p2 p3 p4 p5 => h a j p1 p2 (by omega) p4 (by omega)
theorem xF0.fi (h : xF0 u G G') : xFi u G G' := fun a j p1 p2 p3 p4 p5 => h a j (by omega) (by omega) (by omega) p4
theorem xFi.up {v : Int} {k : Nat} (h : 2 ≤ k ∧ k ≤ 6) : xFi u G (xup2 G u k v) := fun a j p1 p2 p3 p4 p5 => xup2_n (by omega)
theorem cIt.add {E : pCd} (h : cIt G u K g I) (hl : I.length < 4) (h2 : G' u 2 = ((I.length + 1 : Nat) : Int)) (hg : cGa G' u g) (h7 : ∀ j, j ≠ I.length → j < 4 → G' (u + 7) j = G (u + 7) j ∧ G' (u + 8) j = G (u + 8) j) (hE : cSg G' u (K ++ K') I.length E) : cIt G' u (K ++ K') g (I ++ [E]) := by
  refine ⟨by rw [h2, len1], by rw [len1]; omega, fun c hc => ?_, fun c h1 h2 => ?_, hg⟩
  · rw [len1] at hc
    rw [getD_1]
    by_cases cc : c = I.length
    · rw [if_pos cc, cc]; exact hE
    · rw [if_neg cc]
      exact (h.2.2.1 c (by omega)).ge (h7 c cc (by omega)).1 (h7 c cc (by omega)).2
  · rw [len1] at h1
    rw [(h7 c (by omega) h2).1, (h7 c (by omega) h2).2]
    exact h.2.2.2.1 c (by omega) h2
theorem cGa.ge (h : cGa G u g) (h3 : ∀ j, 3 ≤ j → j ≤ 5 → G' u j = G u j) : cGa G' u g := by
  unfold cGa at h ⊢
  rw [h3 3 (by decide) (by decide), h3 4 (by decide) (by decide), h3 5 (by decide) (by decide)]
  exact h
theorem st_44 (hs : cSs S) (hp : cPs G) (hx : x ≤ 3000) (u2 : 278 < u) (us : S u = (1, 6, 20)) (u1 : G 72 5 = (u : Int)) (k1 : G 67 x = k) (k2 : G 68 x = sp) (k3 : G 72 1 = (x : Int)) : (¬ (10 ≤ k ∧ k ≤ 13) → c44 f 72 (S, G, m) = c44_25 f 72 (S, G, m)) ∧ (10 ≤ k ∧ k ≤ 13 → G u 3 = -1 → c44 f 72 (S, G, m) = c44_96 f 72 k (S, G, m)) ∧ (10 ≤ k ∧ k ≤ 13 → G u 3 ≠ -1 → c44 f 72 (S, G, m) = some (.inl 0, cWr S G m sp)) := by
  refine ⟨fun c => ?_, fun c c' => ?_, fun c c' => ?_⟩
  · unfold c44
    by_cases c1 : k < 10
    · simp (disch := omega) only [cq_gi, cq_gr, cq_a, cq_s, cq_p, cq_pr, cq_is, cq_ar, cq_ab, cq_ln, xq_nz, Option.bind_some, xup2_n, xup2_s, Int.toNat_natCast, Int.reduceToNat, if_pos, if_neg, true_and, and_true, and_self, eq_self, if_true, reduceIte, not_true_eq_false, not_false_eq_true, or_true, true_or, s72 hs, s65 hs, s67 hs, p72_0 hp, p65_3 hp, k1, k3]
    · simp (disch := omega) only [cq_gi, cq_gr, cq_a, cq_s, cq_p, cq_pr, cq_is, cq_ar, cq_ab, cq_ln, xq_nz, Option.bind_some, xup2_n, xup2_s, Int.toNat_natCast, Int.reduceToNat, if_pos, if_neg, true_and, and_true, and_self, eq_self, if_true, reduceIte, not_true_eq_false, not_false_eq_true, or_true, true_or, s72 hs, s65 hs, s67 hs, p72_0 hp, p65_3 hp, k1, k3]
  · unfold c44
    simp (disch := omega) only [cq_gi, cq_gr, cq_a, cq_s, cq_p, cq_pr, cq_is, cq_ar, cq_ab, cq_ln, xq_nz, Option.bind_some, xup2_n, xup2_s, Int.toNat_natCast, Int.reduceToNat, if_pos, if_neg, true_and, and_true, and_self, eq_self, if_true, reduceIte, not_true_eq_false, not_false_eq_true, or_true, true_or, s72 hs, s65 hs, s67 hs, p72_0 hp, p65_3 hp, k1, k3, us, u1, c']
  · unfold c44
    simp (disch := omega) only [cq_gi, cq_gr, cq_a, cq_s, cq_p, cq_pr, cq_is, cq_ar, cq_ab, cq_ln, xq_nz, Option.bind_some, xup2_n, xup2_s, Int.toNat_natCast, Int.reduceToNat, if_pos, if_neg, true_and, and_true, and_self, eq_self, if_true, reduceIte, not_true_eq_false, not_false_eq_true, or_true, true_or, s72 hs, s65 hs, s67 hs, s68 hs, p72_0 hp, p65_3 hp, p65_4 hp, k1, k2, k3, us, u1, k_36 hs, cth]
theorem st_44_25 {lK : Int} (hs : cSs S) (hl : l < 4) (u2 : 278 < u) (us : S u = (1, 6, 20)) (us7 : S (u + 7) = (2, 3, 20)) (u1 : G 72 5 = (u : Int)) (w14 : G u 14 = ((u + 7 : Nat) : Int)) (h9 : G 72 9 = lK) (hl2 : G u 2 = (l : Int)) : c44_25 f 72 (S, G, m) = ((c53 f 72 0 (S, xup2 G (u + 7) l lK, m)).bind fun R => c44_25t f 72 R) := by
  rw [c44_25t_e]
  simp (disch := omega) only [cq_gi, cq_gr, cq_a, cq_s, cq_p, cq_pr, cq_is, cq_ar, cq_ab, cq_ln, xq_nz, Option.bind_some, xup2_n, xup2_s, Int.toNat_natCast, Int.reduceToNat, if_pos, if_neg, true_and, and_true, and_self, eq_self, if_true, reduceIte, not_true_eq_false, not_false_eq_true, or_true, true_or, s72 hs, us, us7, u1, w14, h9, hl2]
theorem st_44_25t {lK : Int} (hs : cSs S) (hl : l < 4) (u2 : 278 < u) (us : S u = (1, 6, 20)) (us8 : S (u + 8) = (2, 3, 20)) (a3 : G1 72 9 = lK) (a4 : G1 72 5 = (u : Int)) (v15 : G1 u 15 = ((u + 8 : Nat) : Int)) (q2 : G1 u 2 = (l : Int)) : c44_25t f 72 (.inr (), (S, G1, m)) = some (.inr (), (S, xup2 G1 (u + 8) l lK, m)) := by
  unfold c44_25t
  simp (disch := omega) only [cq_gi, cq_gr, cq_a, cq_s, cq_p, cq_pr, cq_is, cq_ar, cq_ab, cq_ln, xq_nz, Option.bind_some, xup2_n, xup2_s, Int.toNat_natCast, Int.reduceToNat, if_pos, if_neg, true_and, and_true, and_self, eq_self, if_true, reduceIte, not_true_eq_false, not_false_eq_true, or_true, true_or, s72 hs, us, us8, cth, a3, a4, v15, q2]
theorem xFs.u2 {sl : Nat} (hu : 278 < u) (h : xFs u sl G G') : G' u 2 = G u 2 ∧ (∀ j, 3 ≤ j → j ≤ 5 → G' u j = G u j) ∧ ∀ j, j ≠ sl → G' (u + 7) j = G (u + 7) j ∧ G' (u + 8) j = G (u + 8) j :=
  ⟨h u 2 (by omega) (by omega) (by omega) (by omega) (by omega), fun j h1 h2 => h u j (by omega) (by omega) (by omega) (by omega) (by omega), fun j hj => ⟨h _ j (by omega) (by omega) (by omega) (by omega) (by omega), h _ j (by omega) (by omega) (by omega) (by omega) (by omega)⟩⟩
/-- what is read of an ITEM -/
def cI1 (f : Nat) (S : Nat → Nat × Nat × Nat) (m : Nat × Nat) (B : Nat → Int) (n : Nat) (t : tStr) (N w u : Nat) (G : xG_) (i l i0 : Nat) (T : Option ((Nat ⊕ Unit) × xT_)) (s' : pIt) : Prop := ∃ G' K', T = some (.inr (), (S, G', m)) ∧ xFi u G G' ∧ cXr S G' B n t N w u s'.1 K' s'.2.2.2 ∧ K'.length + i0 ≤ s'.2.2.2 ∧ i < s'.2.2.2 ∧ G' u 2 = (l : Int) ∧ cIt (xup2 G' u 2 ((l + 1 : Nat) : Int)) u K' s'.2.1 s'.2.2.1
theorem cSg.u2 {v : Int} {E : pCd} {sl k : Nat} (h : cSg G u K sl E) : cSg (xup2 G u k v) u K sl E := by
  have := cSg.ge (D := []) (G' := xup2 G u k v) h (by rw [xup2_n (by omega)]) (by rw [xup2_n (by omega)])
  rw [List.append_nil] at this
  exact this
theorem cIt_ex {lK : Int} {E : pCd} (hu : 278 < u) (h : cIt G u K g I) (hl : I.length < 4) (hx : xFs u I.length G (xup2 G1 (u + 8) I.length lK)) (hE : cSg (xup2 G1 (u + 8) I.length lK) u (K ++ K') I.length E) : xup2 G1 (u + 8) I.length lK u 2 = (I.length : Int) ∧ cIt (xup2 (xup2 G1 (u + 8) I.length lK) u 2 ((I.length + 1 : Nat) : Int)) u (K ++ K') g (I ++ [E]) := by
  obtain ⟨a1, a2, a3⟩ := hx.u2 hu
  refine ⟨by rw [a1]; exact h.1, h.add hl (xup2_s _ _ _ _) (h.2.2.2.2.ge (fun j z1 z2 => by rw [xup2_n (by omega)]; exact a2 j z1 z2)) (fun j z1 z2 => ?_) hE.u2⟩
  rw [xup2_n (show ¬ (u + 7 = u ∧ j = 2) by omega), xup2_n (show ¬ (u + 8 = u ∧ j = 2) by omega)]
  exact a3 j z1
/-- an ITEM that is an EXPRESSION -/
theorem k_44x {i0 : Nat} (hf : 3010 < f) (hok : tOk t) (hvi : vIn t B n) (hF : 4 * N + 2 ≤ F) (h : cXr S G B n t N w u V K i) (hK : K.length + i0 ≤ i) (hI : cIt G u K g I) (hl : I.length < 4) :
    pok (pbind (pX t F 1 0 (V, [], i)) fun e => .inr (e.1, g, I ++ [e.2.1], e.2.2)) (fun x => ∃ G', c44_25 f 72 (S, G, m) = some (.inl 0, cWr S G' m (x : Int)) ∧ xFi u G G') (cI1 f S m B n t N w u G i I.length i0 (c44_25 f 72 (S, G, m))) := by
  have hs := h.1.1
  obtain ⟨u1, u2, ⟨us, us1, us2, us3, us4, us5, us6, us7, us8, _⟩, w7, w9, w10, w11, w12, w13, w14, w15, _⟩ := h.2.2.2.1
  have p := k_seg (f := f) (m := m) (F := F) (sl := I.length) hf hok hvi hF h hK
  have e0 := st_44_25 (f := f) (m := m) hs hl u2 us us7 u1 w14 h.2.2.2.2.2.2.1 hI.1
  cases hp : pX t F 1 0 (V, [], i) with
  | inl x =>
    rw [hp] at p
    obtain ⟨G1, a1, a2⟩ := p
    exact ⟨G1, by rw [e0, a1]; rfl, a2.fi hl⟩
  | inr e =>
    rw [hp] at p
    obtain ⟨G1, a1, a3, a4, a5, a6, a7, a8, a9, a10, a11⟩ := p
    have q2 : G1 u 2 = (I.length : Int) := by rw [(a6.u2 u2).1]; exact hI.1
    have e1 := st_44_25t (f := f) (m := m) hs hl u2 us us8 a3 a4 a5.2.2.2.2.2.2.2.1 q2
    obtain ⟨b1, b2⟩ := cIt_ex (K' := e.2.1.map cOp) u2 hI hl a9 a11
    exact ⟨_, _, by rw [e0, a1]; exact e1, a9.fi hl, a10, a8, a7, b1, b2⟩
def gUp (G : xG_) (u l : Nat) (k : Int) : xG_ := xup2 (xup2 G u 3 (l : Int)) u 4 k
theorem gUp_x (h : cXr S G B n t N w u V K i) : cXr S (gUp G u l k) B n t N w u V K i := by
  have hu := h.2.2.2.1.2.1
  have h1 : cXr S (xup2 G u 3 (l : Int)) B n t N w u V K i := h.st1 hu (by omega) (by omega)
  exact h1.st1 hu (by omega) (by omega)
theorem gUp_f : xFi u G (gUp G u l k) := xFi.tr (xFi.up (k := 3) (by omega)) (xFi.up (k := 4) (by omega))
theorem gUp_n (a j : Nat) (h : ¬ (a = u ∧ (j = 3 ∨ j = 4))) : gUp G u l k a j = G a j := by
  unfold gUp
  rw [xup2_n (fun y => h ⟨y.1, .inr y.2⟩), xup2_n (fun y => h ⟨y.1, .inl y.2⟩)]
theorem gUp_s : gUp G u l k u 3 = (l : Int) ∧ gUp G u l k u 4 = k := by
  unfold gUp
  exact ⟨by rw [xup2_n (by omega), xup2_s], xup2_s _ _ _ _⟩
theorem st_44_96 {G2 : xG_} (hs : cSs S) (u2 : 278 < u) (us : S u = (1, 6, 20)) (u1 : G 72 5 = (u : Int)) (hl2 : G u 2 = (l : Int)) (d1 : c37 f 72 (S, gUp G u l k, m) = some (S, G2, m)) : c44_96 f 72 k (S, G, m) = ((c38 f 72 40 (S, G2, m)).bind fun R => c44_96t f 72 k R) := by
  rw [c44_96t_e]
  unfold gUp at d1
  simp (disch := omega) only [cq_gi, cq_gr, cq_a, cq_s, cq_p, cq_pr, cq_is, cq_ar, cq_ab, cq_ln, xq_nz, Option.bind_some, xup2_n, xup2_s, Int.toNat_natCast, Int.reduceToNat, if_pos, if_neg, true_and, and_true, and_self, eq_self, if_true, reduceIte, not_true_eq_false, not_false_eq_true, or_true, true_or, s72 hs, us, u1, hl2, d1]
theorem st_44_96t (hs : cSs S) (u2 : 278 < u) (us : S u = (1, 6, 20)) (u1 : G 72 5 = (u : Int)) : c44_96t f 72 k (.inr (), (S, G, m)) = if k = 10 then c44_145 f 72 (S, G, m) else ((c49 f 72 (S, G, m)).bind fun R => c44_96u f 72 u R) := by
  rw [c44_96u_e]
  by_cases c : k = 10
  · rw [if_pos c]
    simp (disch := omega) only [cq_gi, cq_gr, cq_a, cq_s, cq_p, cq_pr, cq_is, cq_ar, cq_ab, cq_ln, xq_nz, Option.bind_some, xup2_n, xup2_s, Int.toNat_natCast, Int.reduceToNat, if_pos, if_neg, true_and, and_true, and_self, eq_self, if_true, reduceIte, not_true_eq_false, not_false_eq_true, or_true, true_or, s72 hs, us, u1, cth]
  · rw [if_neg c]
    simp (disch := omega) only [cq_gi, cq_gr, cq_a, cq_s, cq_p, cq_pr, cq_is, cq_ar, cq_ab, cq_ln, xq_nz, Option.bind_some, xup2_n, xup2_s, Int.toNat_natCast, Int.reduceToNat, if_pos, if_neg, true_and, and_true, and_self, eq_self, if_true, reduceIte, not_true_eq_false, not_false_eq_true, or_true, true_or, s72 hs, us, u1, cth]
theorem st_44_96u {v : Int} (us : S u = (1, 6, 20)) : c44_96u f 72 u (.inr v, (S, G, m)) = c44_145 f 72 (S, xup2 G u 5 v, m) := by
  unfold c44_96u
  simp (disch := omega) only [cq_gi, cq_gr, cq_a, cq_s, cq_p, cq_pr, cq_is, cq_ar, cq_ab, cq_ln, xq_nz, Option.bind_some, xup2_n, xup2_s, Int.toNat_natCast, Int.reduceToNat, if_pos, if_neg, true_and, and_true, and_self, eq_self, if_true, reduceIte, not_true_eq_false, not_false_eq_true, or_true, true_or, us, cth]
/-- what the gathering's ITEM is at last -/
theorem cIt_ga (hu : 278 < u) (h : cIt G u K g I) (hl : I.length < 4) {g' : Int × Int × Int} (hg : (10 ≤ g'.1 ∧ g'.1 ≤ 13) ∧ G1 u 3 = g'.2.1 ∧ 0 ≤ g'.2.1 ∧ G1 u 4 = g'.1 ∧ (g'.1 ≠ 10 → G1 u 5 = g'.2.2)) (h2 : G1 u 2 = G u 2) (h7 : ∀ j, j < 4 → G1 (u + 7) j = G (u + 7) j ∧ G1 (u + 8) j = G (u + 8) j) : G1 u 2 = (I.length : Int) ∧ cIt (xup2 G1 u 2 ((I.length + 1 : Nat) : Int)) u K g' (I ++ [[]]) := by
  have z7 : ∀ j, j < 4 → xup2 G1 u 2 ((I.length + 1 : Nat) : Int) (u + 7) j = G (u + 7) j ∧ xup2 G1 u 2 ((I.length + 1 : Nat) : Int) (u + 8) j = G (u + 8) j := fun j hj => by
    rw [xup2_n (show ¬ (u + 7 = u ∧ j = 2) by omega), xup2_n (show ¬ (u + 8 = u ∧ j = 2) by omega)]; exact h7 j hj
  refine ⟨by rw [h2]; exact h.1, by rw [xup2_s, len1], by rw [len1]; omega, fun c hc => ?_, fun c h1 h2 => ?_, .inr ?_⟩
  · rw [len1] at hc
    rw [getD_1]
    by_cases cc : c = I.length
    · rw [if_pos cc, cc]
      obtain ⟨e1, e2⟩ := h.2.2.2.1 I.length (Nat.le_refl _) hl
      exact ⟨[], K, rfl, by rw [(z7 _ hl).1]; exact e1, by rw [(z7 _ hl).2]; exact e2⟩
    · rw [if_neg cc]
      have := cSg.ge (D := []) (G' := xup2 G1 u 2 ((I.length + 1 : Nat) : Int)) (h.2.2.1 c (by omega)) (z7 c (by omega)).1 (z7 c (by omega)).2
      rw [List.append_nil] at this
      exact this
  · rw [len1] at h1
    rw [(z7 c h2).1, (z7 c h2).2]
    exact h.2.2.2.1 c (by omega) h2
  · rw [xup2_n (by omega), xup2_n (by omega), xup2_n (by omega)]
    exact hg
theorem k_44g {i0 : Nat} (hf : 3010 < f) (hvi : vIn t B n) (h : cXr S G B n t N w u V K i) (hK : K.length + i0 ≤ i) (hI : cIt G u K g I) (hl : I.length < 4) (hk : 10 ≤ kK t i ∧ kK t i ≤ 13) :
    pok (pbind (pNeed t 40 (i + 1)) fun j => if kK t i = 10 then pbind (pNeed t 41 j) fun j => .inr (V, ((10 : Int), (I.length : Int), (-1 : Int)), I ++ [[]], j) else pbind (pVar t V j) fun r => pbind (pNeed t 41 r.2.2) fun j => .inr (r.2.1, (kK t i, (I.length : Int), r.1), I ++ [[]], j)) (fun x => ∃ G', c44_96 f 72 (kK t i) (S, G, m) = some (.inl 0, cWr S G' m (x : Int)) ∧ xFi u G G') (cI1 f S m B n t N w u G i I.length i0 (c44_96 f 72 (kK t i) (S, G, m))) := by
  have hs := h.1.1
  obtain ⟨u1, u2, ⟨us, _⟩, _⟩ := h.2.2.2.1
  have h1 := gUp_x (l := I.length) (k := kK t i) h
  obtain ⟨l1, l2⟩ := h1.1.lt h1.2.1 (by omega)
  obtain ⟨d1, d2⟩ := k_37 (f := f) (m := m) h1.1 h1.2.1 (by omega)
  obtain ⟨y1, y2⟩ := h1.at d2 (by omega)
  have e0 := st_44_96 (m := m) hs u2 us u1 hI.1 d1
  have p38 := k_38 (f := f) (m := m) (c := 40) (by decide) y2.1 y2.2.1
  cases hn : pNeed t 40 (i + 1) with
  | inl x =>
    rw [hn] at p38
    have p38' : c38 f 72 40 (S, _, m) = _ := p38
    exact ⟨_, by rw [e0, p38']; rfl, gUp_f.tr y1.fi⟩
  | inr j =>
    rw [hn] at p38
    obtain ⟨a1, a2, a3, a4⟩ := p38
    have hlt := (y2.1.lt y2.2.1 (by omega)).1
    obtain ⟨b1, b2⟩ := y2.at a4 (by omega)
    have e1 := st_44_96t (f := f) (m := m) (k := kK t i) hs u2 us b2.2.2.2.1.1
    have e2 : c44_96 f 72 (kK t i) (S, G, m) = c44_96t f 72 (kK t i) (.inr (), (S, xup2 (xup2 (gUp G u I.length (kK t i)) 72 1 ((min (i + 1) N : Nat) : Int)) 72 1 ((min j N : Nat) : Int), m)) := by rw [e0, a1]; rfl
    rw [e1] at e2
    have f2 := (gUp_f (G := G) (l := I.length) (k := kK t i)).tr (y1.fi.tr b1.fi)
    have z2 : ∀ a k, u ≤ a → xup2 (xup2 (gUp G u I.length (kK t i)) 72 1 ((min (i + 1) N : Nat) : Int)) 72 1 ((min j N : Nat) : Int) a k = gUp G u I.length (kK t i) a k := fun a k ha => by
      rw [xup2_n (show ¬ (a = 72 ∧ k = 1) by omega), xup2_n (show ¬ (a = 72 ∧ k = 1) by omega)]
    show pok (if kK t i = 10 then pbind (pNeed t 41 j) fun j => .inr (V, ((10 : Int), (I.length : Int), (-1 : Int)), I ++ [[]], j) else pbind (pVar t V j) fun r => pbind (pNeed t 41 r.2.2) fun j => .inr (r.2.1, (kK t i, (I.length : Int), r.1), I ++ [[]], j)) _ _
    obtain ⟨G2, hG2⟩ : ∃ G2, G2 = xup2 (xup2 (gUp G u I.length (kK t i)) 72 1 ((min (i + 1) N : Nat) : Int)) 72 1 ((min j N : Nat) : Int) := ⟨_, rfl⟩
    rw [← hG2] at e2 b2 f2 z2
    clear e0 e1 a1 d1 hG2
    by_cases c : kK t i = 10
    · rw [if_pos c] at e2 ⊢
      have q38 := k_38 (f := f) (m := m) (c := 41) (by decide) b2.1 b2.2.1
      cases hq : pNeed t 41 j with
      | inl x =>
        rw [hq] at q38
        have q38' : c38 f 72 41 (S, G2, m) = _ := q38
        refine ⟨G2, ?_, f2⟩
        rw [e2]
        unfold c44_145
        simp (disch := omega) only [cq_gi, cq_gr, cq_a, cq_s, cq_p, cq_pr, cq_is, cq_ar, cq_ab, cq_ln, xq_nz, Option.bind_some, xup2_n, xup2_s, Int.toNat_natCast, Int.reduceToNat, if_pos, if_neg, true_and, and_true, and_self, eq_self, if_true, reduceIte, not_true_eq_false, not_false_eq_true, or_true, true_or, s72 hs, q38', cth]
      | inr j' =>
        rw [hq] at q38
        obtain ⟨r1, r2, r3, r4⟩ := q38
        have hlt' := (b2.1.lt b2.2.1 (by omega)).1
        obtain ⟨s1, s2⟩ := b2.at r4 (by omega)
        obtain ⟨v1, v2⟩ := cIt_ga (G1 := xup2 G2 72 1 ((min j' N : Nat) : Int)) (g' := ((10 : Int), (I.length : Int), (-1 : Int))) u2 hI hl (by
          rw [xup2_n (show ¬ (u = 72 ∧ 3 = 1) by omega), xup2_n (show ¬ (u = 72 ∧ 4 = 1) by omega), z2 _ _ (by omega), z2 _ _ (by omega), gUp_s.1, gUp_s.2]
          exact ⟨⟨show (10 : Int) ≤ 10 by decide, show (10 : Int) ≤ 13 by decide⟩, rfl, Int.natCast_nonneg _, c, fun y => absurd rfl y⟩) (by rw [xup2_n (by omega), z2 _ _ (by omega), gUp_n _ _ (by omega)]) (fun k hk => by
            rw [xup2_n (show ¬ (u + 7 = 72 ∧ k = 1) by omega), xup2_n (show ¬ (u + 8 = 72 ∧ k = 1) by omega), z2 _ _ (by omega), z2 _ _ (by omega), gUp_n _ _ (by omega), gUp_n _ _ (by omega)]
            exact ⟨rfl, rfl⟩)
        refine ⟨_, K, ?_, f2.tr s1.fi, s2, by show K.length + i0 ≤ j'; omega, by show i < j'; omega, v1, v2⟩
        rw [e2]
        unfold c44_145
        simp (disch := omega) only [cq_gi, cq_gr, cq_a, cq_s, cq_p, cq_pr, cq_is, cq_ar, cq_ab, cq_ln, xq_nz, Option.bind_some, xup2_n, xup2_s, Int.toNat_natCast, Int.reduceToNat, if_pos, if_neg, true_and, and_true, and_self, eq_self, if_true, reduceIte, not_true_eq_false, not_false_eq_true, or_true, true_or, s72 hs, r1, cth]
    · rw [if_neg c] at e2 ⊢
      have p49 := k_49r (m := m) (by omega : 20 < f) hvi b2
      cases hv : pVar t V j with
      | inl x =>
        rw [hv] at p49
        have p49' : c49 f 72 (S, G2, m) = _ := p49
        exact ⟨G2, by rw [e2, p49']; rfl, f2⟩
      | inr r =>
        rw [hv] at p49
        obtain ⟨G3, g1, g2, g3⟩ := p49
        have hr := (pVar_le hv).1
        have g4 : cXr S (xup2 G3 u 5 r.1) B n t N w u r.2.1 K r.2.2 := g3.st1 u2 (by omega) (by omega)
        have z3 : ∀ a k, u ≤ a → a ≠ u + 1 → ¬ (a = u ∧ k = 6) → G3 a k = gUp G u I.length (kK t i) a k := fun a k y1 y2 y3 => by rw [g2 a k (by omega) (by omega) y3 y2, z2 a k y1]
        have f3 := (f2.tr g2.fi).tr (xFi.up (G := G3) (v := r.1) (k := 5) (by omega))
        have e3 : c44_96 f 72 (kK t i) (S, G, m) = c44_145 f 72 (S, xup2 G3 u 5 r.1, m) := by rw [e2, g1]; exact st_44_96u us
        have q38 := k_38 (f := f) (m := m) (c := 41) (by decide) g4.1 g4.2.1
        show pok (pbind (pNeed t 41 r.2.2) fun j => .inr (r.2.1, (kK t i, (I.length : Int), r.1), I ++ [[]], j)) _ _
        cases hq : pNeed t 41 r.2.2 with
        | inl x =>
          rw [hq] at q38
          have q38' : c38 f 72 41 (S, xup2 G3 u 5 r.1, m) = _ := q38
          refine ⟨_, ?_, f3⟩
          rw [e3]
          unfold c44_145
          simp (disch := omega) only [cq_gi, cq_gr, cq_a, cq_s, cq_p, cq_pr, cq_is, cq_ar, cq_ab, cq_ln, xq_nz, Option.bind_some, xup2_n, xup2_s, Int.toNat_natCast, Int.reduceToNat, if_pos, if_neg, true_and, and_true, and_self, eq_self, if_true, reduceIte, not_true_eq_false, not_false_eq_true, or_true, true_or, s72 hs, q38', cth]
        | inr j' =>
          rw [hq] at q38
          obtain ⟨r1, r2, r3, r4⟩ := q38
          have hlt' := (g4.1.lt g4.2.1 (by omega)).1
          obtain ⟨s1, s2⟩ := g4.at r4 (by omega)
          obtain ⟨v1, v2⟩ := cIt_ga (G1 := xup2 (xup2 G3 u 5 r.1) 72 1 ((min j' N : Nat) : Int)) (g' := (kK t i, (I.length : Int), r.1)) u2 hI hl (by
            rw [xup2_n (show ¬ (u = 72 ∧ 3 = 1) by omega), xup2_n (show ¬ (u = 72 ∧ 4 = 1) by omega), xup2_n (show ¬ (u = 72 ∧ 5 = 1) by omega), xup2_n (show ¬ (u = u ∧ 3 = 5) by omega), xup2_n (show ¬ (u = u ∧ 4 = 5) by omega), xup2_s, z3 _ _ (by omega) (by omega) (by omega), z3 _ _ (by omega) (by omega) (by omega), gUp_s.1, gUp_s.2]
            exact ⟨hk, rfl, Int.natCast_nonneg _, rfl, fun _ => rfl⟩) (by rw [xup2_n (by omega), xup2_n (by omega), z3 _ _ (by omega) (by omega) (by omega), gUp_n _ _ (by omega)]) (fun k hk => by
              rw [xup2_n (show ¬ (u + 7 = 72 ∧ k = 1) by omega), xup2_n (show ¬ (u + 8 = 72 ∧ k = 1) by omega), xup2_n (show ¬ (u + 7 = u ∧ k = 5) by omega), xup2_n (show ¬ (u + 8 = u ∧ k = 5) by omega), z3 _ _ (by omega) (by omega) (by omega), z3 _ _ (by omega) (by omega) (by omega), gUp_n _ _ (by omega), gUp_n _ _ (by omega)]
              exact ⟨rfl, rfl⟩)
          refine ⟨_, K, ?_, f3.tr s1.fi, s2, by show K.length + i0 ≤ j'; omega, by show i < j'; omega, v1, v2⟩
          rw [e3]
          unfold c44_145
          simp (disch := omega) only [cq_gi, cq_gr, cq_a, cq_s, cq_p, cq_pr, cq_is, cq_ar, cq_ab, cq_ln, xq_nz, Option.bind_some, xup2_n, xup2_s, Int.toNat_natCast, Int.reduceToNat, if_pos, if_neg, true_and, and_true, and_self, eq_self, if_true, reduceIte, not_true_eq_false, not_false_eq_true, or_true, true_or, s72 hs, r1, cth]
/-- readItem() -/
theorem k_44 {i0 : Nat} (hf : 3010 < f) (hok : tOk t) (hvi : vIn t B n) (hF : 4 * N + 2 ≤ F) (h : cXr S G B n t N w u V K i) (hK : K.length + i0 ≤ i) (hI : cIt G u K g I) (hl : I.length < 4) :
    pok (pItem t F (V, g, I, i)) (fun x => ∃ G', c44 f 72 (S, G, m) = some (.inl 0, cWr S G' m (x : Int)) ∧ xFi u G G') (cI1 f S m B n t N w u G i I.length i0 (c44 f 72 (S, G, m))) := by
  obtain ⟨k1, k2, k3, k4⟩ := h.1.tk h.2.1
  obtain ⟨e1, e2, e3⟩ := st_44 (f := f) (m := m) h.1.1 h.1.2.1 k4 h.2.2.2.1.2.1 h.2.2.2.1.2.2.1.1 h.2.2.2.1.1 k1 k2 k3
  unfold pItem
  show pok (if 10 ≤ kK t i ∧ kK t i ≤ 13 then (if g.1 ≠ 0 then .inl (kS t i) else pbind (pNeed t 40 (i + 1)) fun j => if kK t i = 10 then pbind (pNeed t 41 j) fun j => .inr (V, ((10 : Int), (I.length : Int), (-1 : Int)), I ++ [[]], j) else pbind (pVar t V j) fun r => pbind (pNeed t 41 r.2.2) fun j => .inr (r.2.1, (kK t i, (I.length : Int), r.1), I ++ [[]], j)) else pbind (pX t F 1 0 (V, [], i)) fun e => .inr (e.1, g, I ++ [e.2.1], e.2.2)) _ _
  by_cases c : 10 ≤ kK t i ∧ kK t i ≤ 13
  · rw [if_pos c]
    rcases hI.2.2.2.2 with ⟨g1, g2⟩ | ⟨g1, g2, g3, _⟩
    · rw [if_neg (fun y => y g1), e2 c g2]
      exact k_44g hf hvi h hK hI hl c
    · rw [if_pos (by omega)]
      exact ⟨G, e3 c (by omega), .id⟩
  · rw [if_neg c, e1 c]
    exact k_44x hf hok hvi hF h hK hI hl
end
end
section
/-! THE CLASS makes rules -/
theorem xup1_e (S : Nat → Nat × Nat × Nat) (a : Nat) (s : Nat × Nat × Nat) (b : Nat) : xup1 S a s b = if b = a then s else S b := rfl
theorem xup1_s (S : Nat → Nat × Nat × Nat) (a : Nat) (s : Nat × Nat × Nat) : xup1 S a s a = s := if_pos rfl
theorem xup1_n {S : Nat → Nat × Nat × Nat} {a b : Nat} {s : Nat × Nat × Nat} (h : b ≠ a) : xup1 S a s b = S b := if_neg h
theorem xz1_s (G : xG_) (a : Nat) (g : Nat → Int) (j : Nat) : xz1 G a g a j = g j := if_pos rfl
theorem xz1_n {G : xG_} {a b : Nat} {g : Nat → Int} (j : Nat) (h : b ≠ a) : xz1 G a g b j = G b j := if_neg h
/-- an array is made -/
theorem cq_na_ok {kk : Nat} {z : Int} {S : Nat → Nat × Nat × Nat} {G : xG_} {a sl : Nat} (hk : kk ≤ 4) (h0 : 0 ≤ z) (h1 : z ≤ 100000) : cq_na kk z (S, G, a, sl) = some (a, (xup1 S a (2, kk, z.toNat), xz1 G a (fun _ => 0), a + 1, sl + z.toNat)) := by
  unfold cq_na
  have hb : componentBytes (xj_kty kk) ≤ 8 := by
    match kk, hk with
    | 0, _ => decide
    | 1, _ => decide
    | 2, _ => decide
    | 3, _ => decide
    | 4, _ => decide
  have hm : z.toNat * componentBytes (xj_kty kk) ≤ z.toNat * 8 := Nat.mul_le_mul_left _ hb
  rw [if_pos ⟨h0, by omega⟩]
  rfl
theorem alc {α : Type} {c k nn x kk : Nat} {z : Int} {S : Nat → Nat × Nat × Nat} {G : xG_} {a sl : Nat} {F : xT_ → Option α} (hx : S x = (1, c, nn)) (hxa : x ≠ a) (hk : kk ≤ 4) (h0 : 0 ≤ z) (h1 : z ≤ 100000) : ((cq_na kk z (S, G, a, sl)).bind fun p => ((cq_pr c k nn x p.1 p.2).bind F)) = F (xup1 S a (2, kk, z.toNat), xup2 (xz1 G a (fun _ => 0)) x k (a : Int), a + 1, sl + z.toNat) := by
  rw [cq_na_ok hk h0 h1, Option.bind_some]
  show ((cq_pr c k nn x a (xup1 S a (2, kk, z.toNat), xz1 G a (fun _ => 0), a + 1, sl + z.toNat)).bind F) = _
  unfold cq_pr
  rw [if_pos (by show xup1 S a _ x = _; rw [xup1_n hxa]; exact hx)]
  rfl
theorem alc' {α : Type} {c k nn x kk zn : Nat} {z : Int} {S : Nat → Nat × Nat × Nat} {G : xG_} {a sl : Nat} (a' sl' : Nat) {F : xT_ → Option α} (hx : S x = (1, c, nn)) (hxa : x ≠ a) (hk : kk ≤ 4) (h0 : 0 ≤ z) (h1 : z ≤ 100000) (hz : z.toNat = zn) (ha : a + 1 = a') (hsl : sl + zn = sl') : ((cq_na kk z (S, G, a, sl)).bind fun p => ((cq_pr c k nn x p.1 p.2).bind F)) = F (xup1 S a (2, kk, zn), xup2 (xz1 G a (fun _ => 0)) x k (a : Int), a', sl') := by
  rw [alc hx hxa hk h0 h1, hz, ha, hsl]
/-- what stands in a new rule -/
def cRu1 (G : xG_) (u : Nat) : Prop := G u 0 = -1 ∧ G u 3 = -1 ∧ G u 2 = 0 ∧ G u 6 = 0 ∧ G u 8 = 0 ∧ ∀ a j, u < a → a ≤ u + 10 → G a j = 0
def rSn (S : Nat → Nat × Nat × Nat) (u : Nat) : Nat → Nat × Nat × Nat := (xup1 (xup1 (xup1 (xup1 (xup1 (xup1 (xup1 (xup1 (xup1 (xup1 S (u + 1) (2, 3, 8)) (u + 2) (2, 3, 8)) (u + 3) (2, 3, 8)) (u + 4) (2, 3, 8)) (u + 5) (2, 3, 32)) (u + 6) (2, 4, 32)) (u + 7) (2, 3, 20)) (u + 8) (2, 3, 20)) (u + 9) (2, 3, 8)) (u + 10) (2, 3, 8))
def rGn (G : xG_) (u : Nat) : xG_ := (xup2 (xz1 (xup2 (xz1 (xup2 (xz1 (xup2 (xz1 (xup2 (xz1 (xup2 (xz1 (xup2 (xz1 (xup2 (xz1 (xup2 (xz1 (xup2 (xz1 (xup2 (xup2 G u 0 (-1)) u 3 (-1)) (u + 1) (fun _ => 0)) u 7 ((u + 1 : Nat) : Int)) (u + 2) (fun _ => 0)) u 9 ((u + 2 : Nat) : Int)) (u + 3) (fun _ => 0)) u 10 ((u + 3 : Nat) : Int)) (u + 4) (fun _ => 0)) u 11 ((u + 4 : Nat) : Int)) (u + 5) (fun _ => 0)) u 12 ((u + 5 : Nat) : Int)) (u + 6) (fun _ => 0)) u 13 ((u + 6 : Nat) : Int)) (u + 7) (fun _ => 0)) u 14 ((u + 7 : Nat) : Int)) (u + 8) (fun _ => 0)) u 15 ((u + 8 : Nat) : Int)) (u + 9) (fun _ => 0)) u 18 ((u + 9 : Nat) : Int)) (u + 10) (fun _ => 0)) u 19 ((u + 10 : Nat) : Int))
section
variable {f u sl : Nat} {S : Nat → Nat × Nat × Nat} {G : xG_}
theorem k_87e (hu : 0 < u) (hS : S u = (1, 6, 20)) : c87 f u (S, G, (u + 1, sl)) = some (rSn S u, rGn G u, (u + 11, sl + 152)) := by
  have n1 : u ≠ u + 1 := by omega
  have n2 : u ≠ u + 2 := by omega
  have n3 : u ≠ u + 3 := by omega
  have n4 : u ≠ u + 4 := by omega
  have n5 : u ≠ u + 5 := by omega
  have n6 : u ≠ u + 6 := by omega
  have n7 : u ≠ u + 7 := by omega
  have n8 : u ≠ u + 8 := by omega
  have n9 : u ≠ u + 9 := by omega
  have n10 : u ≠ u + 10 := by omega
  unfold c87
  rw [xq_nz, if_neg (Nat.ne_of_gt hu), Option.bind_some]
  rw [show cq_p 6 0 20 u (-1) (S, G, u + 1, sl) = some (S, xup2 G u 0 (-1), u + 1, sl) from if_pos hS, Option.bind_some]
  rw [show cq_p 6 3 20 u (-1) (S, xup2 G u 0 (-1), u + 1, sl) = some (S, xup2 (xup2 G u 0 (-1)) u 3 (-1), u + 1, sl) from if_pos hS, Option.bind_some]
  rw [alc' (zn := 8) (a := u + 1) (u + 2) (sl + 8) hS n1 (by decide) (by decide) (by decide) rfl rfl rfl]
  rw [alc' (zn := 8) (a := u + 2) (u + 3) (sl + 16) (by rw [xup1_n n1]; exact hS) n2 (by decide) (by decide) (by decide) rfl rfl (Nat.add_assoc sl _ _)]
  rw [alc' (zn := 8) (a := u + 3) (u + 4) (sl + 24) (by rw [xup1_n n2, xup1_n n1]; exact hS) n3 (by decide) (by decide) (by decide) rfl rfl (Nat.add_assoc sl _ _)]
  rw [alc' (zn := 8) (a := u + 4) (u + 5) (sl + 32) (by rw [xup1_n n3, xup1_n n2, xup1_n n1]; exact hS) n4 (by decide) (by decide) (by decide) rfl rfl (Nat.add_assoc sl _ _)]
  rw [alc' (zn := 32) (a := u + 5) (u + 6) (sl + 64) (by rw [xup1_n n4, xup1_n n3, xup1_n n2, xup1_n n1]; exact hS) n5 (by decide) (by decide) (by decide) rfl rfl (Nat.add_assoc sl _ _)]
  rw [alc' (zn := 32) (a := u + 6) (u + 7) (sl + 96) (by rw [xup1_n n5, xup1_n n4, xup1_n n3, xup1_n n2, xup1_n n1]; exact hS) n6 (by decide) (by decide) (by decide) rfl rfl (Nat.add_assoc sl _ _)]
  rw [alc' (zn := 20) (a := u + 7) (u + 8) (sl + 116) (by rw [xup1_n n6, xup1_n n5, xup1_n n4, xup1_n n3, xup1_n n2, xup1_n n1]; exact hS) n7 (by decide) (by decide) (by decide) rfl rfl (Nat.add_assoc sl _ _)]
  rw [alc' (zn := 20) (a := u + 8) (u + 9) (sl + 136) (by rw [xup1_n n7, xup1_n n6, xup1_n n5, xup1_n n4, xup1_n n3, xup1_n n2, xup1_n n1]; exact hS) n8 (by decide) (by decide) (by decide) rfl rfl (Nat.add_assoc sl _ _)]
  rw [alc' (zn := 8) (a := u + 9) (u + 10) (sl + 144) (by rw [xup1_n n8, xup1_n n7, xup1_n n6, xup1_n n5, xup1_n n4, xup1_n n3, xup1_n n2, xup1_n n1]; exact hS) n9 (by decide) (by decide) (by decide) rfl rfl (Nat.add_assoc sl _ _)]
  rw [alc' (zn := 8) (a := u + 10) (u + 11) (sl + 152) (by rw [xup1_n n9, xup1_n n8, xup1_n n7, xup1_n n6, xup1_n n5, xup1_n n4, xup1_n n3, xup1_n n2, xup1_n n1]; exact hS) n10 (by decide) (by decide) (by decide) rfl rfl (Nat.add_assoc sl _ _)]
  unfold rSn rGn
  with_reducible rfl
theorem rSn_lt (a : Nat) (ha : a ≤ u) : rSn S u a = S a := by
  unfold rSn
  rw [xup1_n (Nat.ne_of_lt (Nat.lt_of_le_of_lt ha (Nat.lt_add_of_pos_right (by decide)))), xup1_n (Nat.ne_of_lt (Nat.lt_of_le_of_lt ha (Nat.lt_add_of_pos_right (by decide)))), xup1_n (Nat.ne_of_lt (Nat.lt_of_le_of_lt ha (Nat.lt_add_of_pos_right (by decide)))), xup1_n (Nat.ne_of_lt (Nat.lt_of_le_of_lt ha (Nat.lt_add_of_pos_right (by decide)))), xup1_n (Nat.ne_of_lt (Nat.lt_of_le_of_lt ha (Nat.lt_add_of_pos_right (by decide)))), xup1_n (Nat.ne_of_lt (Nat.lt_of_le_of_lt ha (Nat.lt_add_of_pos_right (by decide)))), xup1_n (Nat.ne_of_lt (Nat.lt_of_le_of_lt ha (Nat.lt_add_of_pos_right (by decide)))), xup1_n (Nat.ne_of_lt (Nat.lt_of_le_of_lt ha (Nat.lt_add_of_pos_right (by decide)))), xup1_n (Nat.ne_of_lt (Nat.lt_of_le_of_lt ha (Nat.lt_add_of_pos_right (by decide)))), xup1_n (Nat.ne_of_lt (Nat.lt_of_le_of_lt ha (Nat.lt_add_of_pos_right (by decide))))]
theorem rGn_lt (a j : Nat) (ha : a ≠ u) (h : a < u) : rGn G u a j = G a j := by
  unfold rGn
  rw [xup2_n (fun y => ha y.1), xz1_n _ (Nat.ne_of_lt (Nat.lt_add_right _ h)), xup2_n (fun y => ha y.1), xz1_n _ (Nat.ne_of_lt (Nat.lt_add_right _ h)), xup2_n (fun y => ha y.1), xz1_n _ (Nat.ne_of_lt (Nat.lt_add_right _ h)), xup2_n (fun y => ha y.1), xz1_n _ (Nat.ne_of_lt (Nat.lt_add_right _ h)), xup2_n (fun y => ha y.1), xz1_n _ (Nat.ne_of_lt (Nat.lt_add_right _ h)), xup2_n (fun y => ha y.1), xz1_n _ (Nat.ne_of_lt (Nat.lt_add_right _ h)), xup2_n (fun y => ha y.1), xz1_n _ (Nat.ne_of_lt (Nat.lt_add_right _ h)), xup2_n (fun y => ha y.1), xz1_n _ (Nat.ne_of_lt (Nat.lt_add_right _ h)), xup2_n (fun y => ha y.1), xz1_n _ (Nat.ne_of_lt (Nat.lt_add_right _ h)), xup2_n (fun y => ha y.1), xz1_n _ (Nat.ne_of_lt (Nat.lt_add_right _ h)), xup2_n (fun y => ha y.1), xup2_n (fun y => ha y.1)]
theorem rSn_s (hS : S u = (1, 6, 20)) : cRuS (rSn S u) u := by
  refine ⟨by rw [rSn_lt u (Nat.le_refl u)]; exact hS, ?_, ?_, ?_, ?_, ?_, ?_, ?_, ?_, ?_, ?_⟩
  · unfold rSn; rw [xup1_n (by omega), xup1_n (by omega), xup1_n (by omega), xup1_n (by omega), xup1_n (by omega), xup1_n (by omega), xup1_n (by omega), xup1_n (by omega), xup1_n (by omega), xup1_s]
  · unfold rSn; rw [xup1_n (by omega), xup1_n (by omega), xup1_n (by omega), xup1_n (by omega), xup1_n (by omega), xup1_n (by omega), xup1_n (by omega), xup1_n (by omega), xup1_s]
  · unfold rSn; rw [xup1_n (by omega), xup1_n (by omega), xup1_n (by omega), xup1_n (by omega), xup1_n (by omega), xup1_n (by omega), xup1_n (by omega), xup1_s]
  · unfold rSn; rw [xup1_n (by omega), xup1_n (by omega), xup1_n (by omega), xup1_n (by omega), xup1_n (by omega), xup1_n (by omega), xup1_s]
  · unfold rSn; rw [xup1_n (by omega), xup1_n (by omega), xup1_n (by omega), xup1_n (by omega), xup1_n (by omega), xup1_s]
  · unfold rSn; rw [xup1_n (by omega), xup1_n (by omega), xup1_n (by omega), xup1_n (by omega), xup1_s]
  · unfold rSn; rw [xup1_n (by omega), xup1_n (by omega), xup1_n (by omega), xup1_s]
  · unfold rSn; rw [xup1_n (by omega), xup1_n (by omega), xup1_s]
  · unfold rSn; rw [xup1_n (by omega), xup1_s]
  · unfold rSn; rw [xup1_s]
theorem rGn_p : cRuP (rGn G u) u := by
  refine ⟨?_, ?_, ?_, ?_, ?_, ?_, ?_, ?_, ?_, ?_⟩
  · unfold rGn; rw [xup2_n (by omega), xz1_n _ (by omega), xup2_n (by omega), xz1_n _ (by omega), xup2_n (by omega), xz1_n _ (by omega), xup2_n (by omega), xz1_n _ (by omega), xup2_n (by omega), xz1_n _ (by omega), xup2_n (by omega), xz1_n _ (by omega), xup2_n (by omega), xz1_n _ (by omega), xup2_n (by omega), xz1_n _ (by omega), xup2_n (by omega), xz1_n _ (by omega), xup2_s]
  · unfold rGn; rw [xup2_n (by omega), xz1_n _ (by omega), xup2_n (by omega), xz1_n _ (by omega), xup2_n (by omega), xz1_n _ (by omega), xup2_n (by omega), xz1_n _ (by omega), xup2_n (by omega), xz1_n _ (by omega), xup2_n (by omega), xz1_n _ (by omega), xup2_n (by omega), xz1_n _ (by omega), xup2_n (by omega), xz1_n _ (by omega), xup2_s]
  · unfold rGn; rw [xup2_n (by omega), xz1_n _ (by omega), xup2_n (by omega), xz1_n _ (by omega), xup2_n (by omega), xz1_n _ (by omega), xup2_n (by omega), xz1_n _ (by omega), xup2_n (by omega), xz1_n _ (by omega), xup2_n (by omega), xz1_n _ (by omega), xup2_n (by omega), xz1_n _ (by omega), xup2_s]
  · unfold rGn; rw [xup2_n (by omega), xz1_n _ (by omega), xup2_n (by omega), xz1_n _ (by omega), xup2_n (by omega), xz1_n _ (by omega), xup2_n (by omega), xz1_n _ (by omega), xup2_n (by omega), xz1_n _ (by omega), xup2_n (by omega), xz1_n _ (by omega), xup2_s]
  · unfold rGn; rw [xup2_n (by omega), xz1_n _ (by omega), xup2_n (by omega), xz1_n _ (by omega), xup2_n (by omega), xz1_n _ (by omega), xup2_n (by omega), xz1_n _ (by omega), xup2_n (by omega), xz1_n _ (by omega), xup2_s]
  · unfold rGn; rw [xup2_n (by omega), xz1_n _ (by omega), xup2_n (by omega), xz1_n _ (by omega), xup2_n (by omega), xz1_n _ (by omega), xup2_n (by omega), xz1_n _ (by omega), xup2_s]
  · unfold rGn; rw [xup2_n (by omega), xz1_n _ (by omega), xup2_n (by omega), xz1_n _ (by omega), xup2_n (by omega), xz1_n _ (by omega), xup2_s]
  · unfold rGn; rw [xup2_n (by omega), xz1_n _ (by omega), xup2_n (by omega), xz1_n _ (by omega), xup2_s]
  · unfold rGn; rw [xup2_n (by omega), xz1_n _ (by omega), xup2_s]
  · unfold rGn; rw [xup2_s]
theorem rGn_f (j : Nat) (hj : j = 2 ∨ j = 6 ∨ j = 8 ∨ j = 0 ∨ j = 3) : rGn G u u j = xup2 (xup2 G u 0 (-1)) u 3 (-1) u j := by
  unfold rGn
  rw [xup2_n (by omega), xz1_n _ (by omega), xup2_n (by omega), xz1_n _ (by omega), xup2_n (by omega), xz1_n _ (by omega), xup2_n (by omega), xz1_n _ (by omega), xup2_n (by omega), xz1_n _ (by omega), xup2_n (by omega), xz1_n _ (by omega), xup2_n (by omega), xz1_n _ (by omega), xup2_n (by omega), xz1_n _ (by omega), xup2_n (by omega), xz1_n _ (by omega), xup2_n (by omega), xz1_n _ (by omega)]
theorem rGn_z (a j : Nat) (h1 : u < a) (h2 : a ≤ u + 10) : rGn G u a j = 0 := by
  have n0 : a ≠ u := by omega
  unfold rGn
  rw [xup2_n (fun y => n0 y.1)]
  by_cases c10 : a = u + 10
  · rw [c10, xz1_s]
  rw [xz1_n _ c10]
  rw [xup2_n (fun y => n0 y.1)]
  by_cases c9 : a = u + 9
  · rw [c9, xz1_s]
  rw [xz1_n _ c9]
  rw [xup2_n (fun y => n0 y.1)]
  by_cases c8 : a = u + 8
  · rw [c8, xz1_s]
  rw [xz1_n _ c8]
  rw [xup2_n (fun y => n0 y.1)]
  by_cases c7 : a = u + 7
  · rw [c7, xz1_s]
  rw [xz1_n _ c7]
  rw [xup2_n (fun y => n0 y.1)]
  by_cases c6 : a = u + 6
  · rw [c6, xz1_s]
  rw [xz1_n _ c6]
  rw [xup2_n (fun y => n0 y.1)]
  by_cases c5 : a = u + 5
  · rw [c5, xz1_s]
  rw [xz1_n _ c5]
  rw [xup2_n (fun y => n0 y.1)]
  by_cases c4 : a = u + 4
  · rw [c4, xz1_s]
  rw [xz1_n _ c4]
  rw [xup2_n (fun y => n0 y.1)]
  by_cases c3 : a = u + 3
  · rw [c3, xz1_s]
  rw [xz1_n _ c3]
  rw [xup2_n (fun y => n0 y.1)]
  by_cases c2 : a = u + 2
  · rw [c2, xz1_s]
  rw [xz1_n _ c2]
  rw [xup2_n (fun y => n0 y.1)]
  by_cases c1 : a = u + 1
  · rw [c1, xz1_s]
  rw [xz1_n _ c1]
  exact absurd h2 (by omega)
theorem k_87 (hu : 0 < u) (hS : S u = (1, 6, 20)) (hG : ∀ j, G u j = 0) : ∃ S' G', c87 f u (S, G, (u + 1, sl)) = some (S', G', (u + 11, sl + 152)) ∧ (∀ a, a ≤ u → S' a = S a) ∧ (∀ a j, a < u → G' a j = G a j) ∧ cRuS S' u ∧ cRuP G' u ∧ cRu1 G' u := by
  refine ⟨_, _, k_87e hu hS, fun a ha => rSn_lt a ha, fun a j ha => rGn_lt a j (Nat.ne_of_lt ha) ha, rSn_s hS, rGn_p, ?_, ?_, ?_, ?_, ?_, fun a j h1 h2 => rGn_z a j h1 h2⟩
  · rw [rGn_f 0 (by omega), xup2_n (by omega), xup2_s]
  · rw [rGn_f 3 (by omega), xup2_s]
  · rw [rGn_f 2 (by omega), xup2_n (by omega), xup2_n (by omega)]; exact hG 2
  · rw [rGn_f 6 (by omega), xup2_n (by omega), xup2_n (by omega)]; exact hG 6
  · rw [rGn_f 8 (by omega), xup2_n (by omega), xup2_n (by omega)]; exact hG 8
/-- beginRule() -/
theorem k_35 (hs : cSs S) (hu : 278 < u) : ∃ S' G', c35 f 72 (S, G, (u, sl)) = some (S', G', (u + 11, sl + 172)) ∧ (∀ a, a < u → S' a = S a) ∧ (∀ a j, a < u → ¬ (a = 72 ∧ (j = 5 ∨ j = 9)) → G' a j = G a j) ∧ cRuS S' u ∧ cRuP G' u ∧ cRu1 G' u ∧ G' 72 5 = (u : Int) ∧ G' 72 9 = 0 := by
  obtain ⟨S', G', a1, a2, a3, a4, a5, a6⟩ := k_87 (f := f) (u := u) (sl := sl + 20) (S := xup1 S u (1, 6, 20)) (G := xz1 G u (fun _ => 0)) (by omega) (xup1_s _ _ _) (fun j => xz1_s _ _ _ _)
  have s72' : S' 72 = (1, 4, 20) := by rw [a2 72 (by omega), xup1_n (by omega)]; exact s72 hs
  refine ⟨S', xup2 (xup2 G' 72 5 (u : Int)) 72 9 0, ?_, fun a ha => by rw [a2 a (by omega), xup1_n (by omega)], fun a j ha hn => by rw [xup2_n (by omega), xup2_n (by omega), a3 a j ha, xz1_n j (by omega)], a4, ?_, ?_, by rw [xup2_n (by omega), xup2_s], xup2_s _ _ _ _⟩
  · unfold c35 cq_nw
    rw [Option.bind_some]
    show ((c87 f u (xup1 S u (1, 6, 20), xz1 G u (fun _ => 0), (u + 1, sl + 20))).bind _) = _
    rw [a1, Option.bind_some]
    simp (disch := omega) only [cq_gi, cq_gr, cq_a, cq_s, cq_p, cq_pr, cq_is, cq_ar, cq_ab, cq_ln, xq_nz, Option.bind_some, xup2_n, xup2_s, Int.toNat_natCast, Int.reduceToNat, if_pos, if_neg, true_and, and_true, and_self, eq_self, if_true, reduceIte, not_true_eq_false, not_false_eq_true, or_true, true_or, s72']
  · unfold cRuP at a5 ⊢
    simp (disch := omega) only [xup2_n]
    exact a5
  · obtain ⟨b1, b2, b3, b4, b5, b6⟩ := a6
    refine ⟨?_, ?_, ?_, ?_, ?_, fun a j h1 h2 => ?_⟩
    · rw [xup2_n (by omega), xup2_n (by omega)]; exact b1
    · rw [xup2_n (by omega), xup2_n (by omega)]; exact b2
    · rw [xup2_n (by omega), xup2_n (by omega)]; exact b3
    · rw [xup2_n (by omega), xup2_n (by omega)]; exact b4
    · rw [xup2_n (by omega), xup2_n (by omega)]; exact b5
    · rw [xup2_n (by omega), xup2_n (by omega)]; exact b6 a j h1 h2
end
end
section
/-! THE CLASS: VARIABLES of rules as masks -/
/-- the code of a rule that is read -/
def cKo (S : Nat → Nat × Nat × Nat) (G : xG_) (u : Nat) (K : pCd) : Prop := G u 16 = ((u + 11 : Nat) : Int) ∧ G u 17 = ((u + 12 : Nat) : Int) ∧ S (u + 11) = (2, 3, K.length) ∧ S (u + 12) = (2, 4, K.length) ∧ ∀ k, k < K.length → G (u + 11) k = (K.getD k (0, 0)).1 ∧ G (u + 12) k = (K.getD k (0, 0)).2
def cRq (S : Nat → Nat × Nat × Nat) (G : xG_) (u : Nat) (K : pCd) (Ls : List pLt) : Prop := cRuS S u ∧ cRuP G u ∧ cKo S G u K ∧ cLs G u K Ls ∧ 278 < u ∧ K.length ≤ 3000
/-- the VARIABLES of a LITERAL -/
def qLv (x : pLt) : Nat := if x.1 = 3 then qVm x.2.2.2.2.1 ||| qVm x.2.2.2.2.2 else qT x.2.2.2.1
theorem K_get {K A C E : pCd} (h : K = A ++ E.map cOp ++ C) {i : Nat} (hi : i < E.length) : K.getD (A.length + i) (0, 0) = cOp (E.getD i (0, 0)) := by
  rw [h, List.append_assoc, getD_apr, getD_app _ (by rw [List.length_map]; exact hi), getD_e (by rw [List.length_map]; exact hi), List.getElem_map, getD_e hi]
theorem K_len {K A C E : pCd} (h : K = A ++ E.map cOp ++ C) : A.length + E.length ≤ K.length := by
  rw [h, List.length_append, List.length_append, List.length_map]; omega
theorem qVm_tk {E : pCd} {i : Nat} (hi : i < E.length) : qVm (E.take (i + 1)) = qVm (E.take i) ||| (if (E.getD i (0, 0)).1 = 2 then 2 ^ (E.getD i (0, 0)).2.toNat else 0) := by
  rw [List.take_add_one, List.getElem?_eq_getElem hi, getD_e hi, qVm_ap]
  show _ ||| qVm [E[i]] = _
  congr 1
  show (if E[i].1 = 2 then 2 ^ E[i].2.toNat else 0) ||| 0 = _
  rw [Nat.or_zero]
theorem qVm_8 {nv : Nat} (hv : nv ≤ 8) : ∀ {E : pCd}, wC nv E → qVm E < 2 ^ 8
  | [], _ => by decide
  | x :: q, h => by
    have h1 := qVm_8 hv (E := q) (fun y hy => h y (List.mem_cons_of_mem _ hy))
    have h2 := h x (List.mem_cons_self ..)
    show (if x.1 = 2 then 2 ^ x.2.toNat else 0) ||| qVm q < 2 ^ 8
    refine Nat.or_lt_two_pow ?_ h1
    split
    · rename_i c
      refine Nat.pow_lt_pow_right (by decide) ?_
      rcases h2 with a | a | a <;> omega
    · decide
theorem wC.tk {nv : Nat} {E : pCd} (h : wC nv E) (i : Nat) : wC nv (E.take i) := fun x hx => h x (List.mem_of_mem_take hx)
section
variable {f u s nv l : Nat} {S : Nat → Nat × Nat × Nat} {G : xG_} {m : Nat × Nat} {K E : pCd} {Ls : List pLt}
theorem st_92 {a b : Nat} {o v x2 : Int} {r9 : Nat → Int → Int → Int → xT_ → Option (Int × xT_)} {kl : Nat} (u2 : 278 < u) (us : S u = (1, 6, 20)) (us8 : S (u + 8) = (2, 3, 20)) (w15 : G u 15 = ((u + 8 : Nat) : Int)) (w16 : G u 16 = ((u + 11 : Nat) : Int)) (w17 : G u 17 = ((u + 12 : Nat) : Int)) (s11 : S (u + 11) = (2, 3, kl)) (s12 : S (u + 12) = (2, 4, kl)) (hs : s < 20) (h8 : G (u + 8) s = (b : Int)) (ha : a < b) (hb : b ≤ kl) (hk : kl ≤ 3000) (ho : G (u + 11) a = o) (hv : G (u + 12) a = v) (e1 : xwr ((a : Int) + 1) = ((a + 1 : Nat) : Int)) : c92_9b r9 f u (s : Int) x2 (a : Int) (S, G, m) = if o = 2 then r9 u (s : Int) (xor_ x2 (xshl 1 (xwr v))) ((a + 1 : Nat) : Int) (S, G, m) else r9 u (s : Int) x2 ((a + 1 : Nat) : Int) (S, G, m) := by
  by_cases c : o = 2
  · rw [if_pos c]
    rw [c] at ho
    unfold c92_9b c92_41
    simp (disch := omega) only [cq_gi, cq_gr, cq_a, cq_s, cq_p, cq_pr, cq_is, cq_ar, cq_ab, cq_ln, xq_nz, Option.bind_some, xup2_n, xup2_s, Int.toNat_natCast, Int.reduceToNat, if_pos, if_neg, true_and, and_true, and_self, eq_self, if_true, reduceIte, not_true_eq_false, not_false_eq_true, or_true, true_or, us, us8, w15, w16, w17, s11, s12, h8, ho, hv, e1]
  · rw [if_neg c]
    unfold c92_9b c92_41
    simp (disch := omega) only [cq_gi, cq_gr, cq_a, cq_s, cq_p, cq_pr, cq_is, cq_ar, cq_ab, cq_ln, xq_nz, Option.bind_some, xup2_n, xup2_s, Int.toNat_natCast, Int.reduceToNat, if_pos, if_neg, true_and, and_true, and_self, eq_self, if_true, reduceIte, not_true_eq_false, not_false_eq_true, or_true, true_or, us, us8, w15, w16, s11, h8, ho, e1]
theorem k_92_9 (hR : cRq S G u K Ls) (hs : s < 20) {A C : pCd} (hK : K = A ++ E.map cOp ++ C) (h8 : G (u + 8) s = ((A.length + E.length : Nat) : Int)) (hE : wC nv E) (hnv : nv ≤ 8) : ∀ (d i fu : Nat), i + d = E.length → d < fu → c92_9 f fu u (s : Int) ((qVm (E.take i) : Nat) : Int) ((A.length + i : Nat) : Int) (S, G, m) = some ((qVm E : Int), (S, G, m)) := by
  obtain ⟨⟨us, us1, us2, us3, us4, us5, us6, us7, us8, _⟩, ⟨w7, w9, w10, w11, w12, w13, w14, w15, _⟩, ⟨k1, k2, k3, k4, k5⟩, _, u2, hk⟩ := hR
  have hl := K_len hK
  intro d
  induction d with
  | zero =>
    intro i fu h1 h2
    obtain ⟨fu, rfl⟩ : ∃ t, fu = t + 1 := ⟨fu - 1, by omega⟩
    have hi : i = E.length := by omega
    rw [hi, List.take_length]
    show c92_9b (c92_9 f fu) f u _ _ _ _ = _
    unfold c92_9b
    simp (disch := omega) only [cq_gi, cq_gr, cq_a, cq_s, cq_p, cq_pr, cq_is, cq_ar, cq_ab, cq_ln, xq_nz, Option.bind_some, xup2_n, xup2_s, Int.toNat_natCast, Int.reduceToNat, if_pos, if_neg, true_and, and_true, and_self, eq_self, if_true, reduceIte, not_true_eq_false, not_false_eq_true, or_true, true_or, us, us8, w15, h8]
  | succ d ih =>
    intro i fu h1 h2
    obtain ⟨fu, rfl⟩ : ∃ t, fu = t + 1 := ⟨fu - 1, by omega⟩
    have hi : i < E.length := by omega
    have ek : xwr (((A.length + i : Nat) : Int) + 1) = ((A.length + i + 1 : Nat) : Int) := by rw [xwr_g _ (by omega) (by omega)]; omega
    have hv := k5 (A.length + i) (by omega)
    rw [K_get hK hi] at hv
    have e1 := st_92 (f := f) (m := m) (r9 := c92_9 f fu) (x2 := ((qVm (E.take i) : Nat) : Int)) u2 us us8 w15 k1 k2 k3 k4 hs h8 (by omega : A.length + i < A.length + E.length) hl hk hv.1 hv.2 ek
    have hw := hE (E.getD i (0, 0)) (by rw [getD_e hi]; exact List.getElem_mem hi)
    have hb := qVm_8 hnv (hE.tk i)
    have step := ih (i + 1) fu (by omega) (by omega)
    rw [qVm_tk hi] at step
    show c92_9b (c92_9 f fu) f u _ _ _ _ = _
    rw [e1]
    by_cases c : (E.getD i (0, 0)).1 = 2
    · rw [if_pos c] at step
      have eo : cOp (E.getD i (0, 0)) = E.getD i (0, 0) := by unfold cOp; rw [if_neg (by omega)]
      rw [eo, if_pos c]
      have hvv : 0 ≤ (E.getD i (0, 0)).2 ∧ (E.getD i (0, 0)).2 < nv := by rcases hw with a | a | a <;> omega
      have ev : xwr (E.getD i (0, 0)).2 = ((E.getD i (0, 0)).2.toNat : Int) := by rw [xwr_g _ (by omega) (by omega)]; omega
      rw [ev, xorb (by omega) (by omega)]
      exact step
    · rw [if_neg c, Nat.or_zero] at step
      have hne : ¬ (cOp (E.getD i (0, 0))).1 = 2 := by
        unfold cOp
        rcases hw with a | a | ⟨a, b⟩
        · rw [if_neg (by omega)]; exact c
        · exact absurd a.1 c
        · rw [if_pos a]
          show ¬ (E.getD i (0, 0)).2 = 2
          unfold wSg at b
          omega
      rw [if_neg hne]
      exact step
/-- variablesOf() -/
theorem k_92 (hf : 3010 < f) (hR : cRq S G u K Ls) (hs : s < 20) (hg : cSg G u K s E) (hE : wC nv E) (hnv : nv ≤ 8) : c92 f u (s : Int) (S, G, m) = some ((qVm E : Int), (S, G, m)) := by
  obtain ⟨A, C, hK, h7, h8⟩ := hg
  have hl := K_len hK
  have := k_92_9 (f := f) (m := m) hR hs hK h8 hE hnv E.length 0 f (by omega) (by have := hR.2.2.2.2.2; omega)
  rw [← this]
  have us := hR.1.1
  have us7 := hR.1.2.2.2.2.2.2.2.1
  have w14 := hR.2.1.2.2.2.2.2.2.1
  have u2 := hR.2.2.2.2.1
  clear this
  unfold c92
  simp (disch := omega) only [cq_gi, cq_gr, cq_a, cq_s, cq_p, cq_pr, cq_is, cq_ar, cq_ab, cq_ln, xq_nz, Option.bind_some, xup2_n, xup2_s, Int.toNat_natCast, Int.reduceToNat, if_pos, if_neg, true_and, and_true, and_self, eq_self, if_true, reduceIte, not_true_eq_false, not_false_eq_true, or_true, true_or, us, us7, w14, h7]
  rfl
/-- loneVariable() -/
theorem k_91 (hR : cRq S G u K Ls) (hs : s < 20) (hg : cSg G u K s E) (hE : wC nv E) (hnv : nv ≤ 8) : ∃ v, c91 f u (s : Int) (S, G, m) = some (v, (S, G, m)) ∧ (v = -1 ↔ ¬ qAl E) := by
  obtain ⟨A, C, hK, h7, h8⟩ := hg
  have hl := K_len hK
  obtain ⟨⟨us, us1, us2, us3, us4, us5, us6, us7, us8, _⟩, ⟨w7, w9, w10, w11, w12, w13, w14, w15, _⟩, ⟨k1, k2, k3, k4, k5⟩, _, u2, hk⟩ := hR
  have e1 : xwr (((A.length + E.length : Nat) : Int) - (A.length : Int)) = (E.length : Int) := by rw [xwr_g _ (by omega) (by omega)]; omega
  by_cases c : E.length = 1
  · have hv := k5 A.length (by omega)
    have hv0 := K_get hK (i := 0) (by omega)
    rw [Nat.add_zero] at hv0
    rw [hv0] at hv
    have hw := hE (E.getD 0 (0, 0)) (by rw [getD_e (by omega)]; exact List.getElem_mem _)
    have e1' : xwr (((A.length + E.length : Nat) : Int) - (A.length : Int)) = 1 := by rw [e1, c]; rfl
    by_cases c2 : (E.getD 0 (0, 0)).1 = 2
    · have eo : cOp (E.getD 0 (0, 0)) = E.getD 0 (0, 0) := by unfold cOp; rw [if_neg (by omega)]
      rw [eo, c2] at hv
      have hvv : 0 ≤ (E.getD 0 (0, 0)).2 ∧ (E.getD 0 (0, 0)).2 < nv := by rcases hw with a | a | a <;> omega
      refine ⟨xwr (E.getD 0 (0, 0)).2, ?_, fun q => ?_, fun q => absurd ⟨c, c2⟩ q⟩
      · have hv1 := hv.1
        have hv2 := hv.2
        clear hw hv0 eo hvv e1 hK
        unfold c91 c91_37 c91_58
        simp (disch := omega) only [cq_gi, cq_gr, cq_a, cq_s, cq_p, cq_pr, cq_is, cq_ar, cq_ab, cq_ln, xq_nz, Option.bind_some, xup2_n, xup2_s, Int.toNat_natCast, Int.reduceToNat, if_pos, if_neg, true_and, and_true, and_self, eq_self, if_true, reduceIte, not_true_eq_false, not_false_eq_true, or_true, true_or, us, us7, us8, w14, w15, k1, k2, k3, k4, h7, h8, hv1, hv2, e1']
      · rw [xwr_g _ (by omega) (by omega)] at q
        omega
    · have hne : ¬ (cOp (E.getD 0 (0, 0))).1 = 2 := by
        unfold cOp
        rcases hw with a | a | ⟨a, b⟩
        · rw [if_neg (by omega)]; exact c2
        · exact absurd a.1 c2
        · rw [if_pos a]
          show ¬ (E.getD 0 (0, 0)).2 = 2
          unfold wSg at b
          omega
      refine ⟨-1, ?_, fun _ q => c2 q.2, fun _ => rfl⟩
      have hv1 := hv.1
      clear hw hv0 e1 hK
      unfold c91 c91_36 c91_37 c91_58
      simp (disch := omega) only [cq_gi, cq_gr, cq_a, cq_s, cq_p, cq_pr, cq_is, cq_ar, cq_ab, cq_ln, xq_nz, Option.bind_some, xup2_n, xup2_s, Int.toNat_natCast, Int.reduceToNat, if_pos, if_neg, true_and, and_true, and_self, eq_self, if_true, reduceIte, not_true_eq_false, not_false_eq_true, or_true, true_or, us, us7, us8, w14, w15, k1, k3, h7, h8, hv1, e1', hne]
  · refine ⟨-1, ?_, fun _ q => c q.1, fun _ => rfl⟩
    unfold c91 c91_36 c91_37 c91_58
    simp (disch := omega) only [cq_gi, cq_gr, cq_a, cq_s, cq_p, cq_pr, cq_is, cq_ar, cq_ab, cq_ln, xq_nz, Option.bind_some, xup2_n, xup2_s, Int.toNat_natCast, Int.reduceToNat, if_pos, if_neg, true_and, and_true, and_self, eq_self, if_true, reduceIte, not_true_eq_false, not_false_eq_true, or_true, true_or, us, us7, us8, w14, w15, h7, h8, e1]
end
end
section
/-! THE CLASS: what LITERALS bind -/
def qBh (x : pLt) (b : Nat) : Option Nat := if x.1 = 1 ∨ qSub (qLv x) b then some (b ||| qLv x) else if x.1 = 3 ∧ x.2.1 = 61 ∧ (qAl2 x.2.2.2.2.1 ∧ qSub (qVm x.2.2.2.2.2) b ∨ qAl2 x.2.2.2.2.2 ∧ qSub (qVm x.2.2.2.2.1) b) then some (b ||| qLv x) else none
/-- a LITERAL's VARIABLES are below nv -/
def wLv (nv : Nat) (x : pLt) : Prop := (x.1 = 1 ∨ x.1 = 2) ∧ (∀ y ∈ x.2.2.2.1, wT1 nv y) ∨ x.1 = 3 ∧ wC nv x.2.2.2.2.1 ∧ wC nv x.2.2.2.2.2
theorem qLv_8 {nv : Nat} {x : pLt} (h : wLv nv x) (hv : nv ≤ 8) : qLv x < 2 ^ 8 := by
  unfold qLv
  rcases h with ⟨a1, a2⟩ | ⟨a1, a2, a3⟩
  · rw [if_neg (by omega)]; exact qT_lt a2 hv
  · rw [if_pos a1]; exact Nat.or_lt_two_pow (qVm_8 hv a2) (qVm_8 hv a3)
theorem qT_ap (Q R : pCd) : qT (Q ++ R) = qT Q ||| qT R := by
  induction Q with
  | nil => simp [qT]
  | cons x q ih =>
    show (if x.1 = 1 then 2 ^ x.2.toNat else 0) ||| qT (q ++ R) = ((if x.1 = 1 then 2 ^ x.2.toNat else 0) ||| qT q) ||| qT R
    rw [ih, Nat.or_assoc]
theorem qT_tk {E : pCd} {i : Nat} (hi : i < E.length) : qT (E.take (i + 1)) = qT (E.take i) ||| (if (E.getD i (0, 0)).1 = 1 then 2 ^ (E.getD i (0, 0)).2.toNat else 0) := by
  rw [List.take_add_one, List.getElem?_eq_getElem hi, getD_e hi, qT_ap]
  show _ ||| qT [E[i]] = _
  congr 1
  show (if E[i].1 = 1 then 2 ^ E[i].2.toNat else 0) ||| 0 = _
  rw [Nat.or_zero]
section
variable {f u s nv l : Nat} {S : Nat → Nat × Nat × Nat} {G : xG_} {m : Nat × Nat} {K E : pCd} {Ls : List pLt} {x : pLt}
/-- isAtom() -/
theorem k_90 (hR : cRq S G u K Ls) (hl : l < 8) (hx : cLt G u K l x) : c90 f u (l : Int) (S, G, m) = some (if x.1 = 3 then 0 else 1, (S, G, m)) := by
  have us := hR.1.1
  have us2 := hR.1.2.2.1
  have w9 := hR.2.1.2.1
  have u2 := hR.2.2.2.2.1
  rcases hx with ⟨a1, a2, _⟩ | ⟨a1, a2, a3, _⟩
  · rw [if_neg (by omega)]
    by_cases c : x.1 = 1
    · rw [if_pos c] at a2
      clear a1 c
      unfold c90 c90_22 c90_27
      simp (disch := omega) only [cq_gi, cq_gr, cq_a, cq_s, cq_p, cq_pr, cq_is, cq_ar, cq_ab, cq_ln, xq_nz, Option.bind_some, xup2_n, xup2_s, Int.toNat_natCast, Int.reduceToNat, if_pos, if_neg, true_and, and_true, and_self, eq_self, if_true, reduceIte, not_true_eq_false, not_false_eq_true, or_true, true_or, us, us2, w9, a2]
    · rw [if_neg c] at a2
      clear a1 c
      unfold c90 c90_22 c90_27
      simp (disch := omega) only [cq_gi, cq_gr, cq_a, cq_s, cq_p, cq_pr, cq_is, cq_ar, cq_ab, cq_ln, xq_nz, Option.bind_some, xup2_n, xup2_s, Int.toNat_natCast, Int.reduceToNat, if_pos, if_neg, true_and, and_true, and_self, eq_self, if_true, reduceIte, not_true_eq_false, not_false_eq_true, or_true, true_or, us, us2, w9, a2]
  · rw [if_pos a1]
    have h1 : ¬ G (u + 2) l = 15 := by rw [a2]; omega
    have h2 : ¬ G (u + 2) l = 9 := by rw [a2]; omega
    clear a1 a2 a3
    unfold c90 c90_27
    simp (disch := omega) only [cq_gi, cq_gr, cq_a, cq_s, cq_p, cq_pr, cq_is, cq_ar, cq_ab, cq_ln, xq_nz, Option.bind_some, xup2_n, xup2_s, Int.toNat_natCast, Int.reduceToNat, if_pos, if_neg, true_and, and_true, and_self, eq_self, if_true, reduceIte, not_true_eq_false, not_false_eq_true, or_true, true_or, us, us2, w9, h1, h2]
theorem st_93 {a wd : Nat} {o v x2 : Int} {r : Nat → Int → Int → Int → xT_ → Option (Int × xT_)} (u2 : 278 < u) (us : S u = (1, 6, 20)) (us4 : S (u + 4) = (2, 3, 8)) (us5 : S (u + 5) = (2, 3, 32)) (us6 : S (u + 6) = (2, 4, 32)) (w11 : G u 11 = ((u + 4 : Nat) : Int)) (w12 : G u 12 = ((u + 5 : Nat) : Int)) (w13 : G u 13 = ((u + 6 : Nat) : Int)) (hl : l < 8) (h4 : G (u + 4) l = (wd : Int)) (ha : a < wd) (hb : wd ≤ 4) (ho : G (u + 5) (4 * l + a) = o) (hv : G (u + 6) (4 * l + a) = v) (e1 : xwr ((a : Int) + 1) = ((a + 1 : Nat) : Int)) (e2 : xwr (xwr (4 * (l : Int)) + (a : Int)) = ((4 * l + a : Nat) : Int)) : c93_34b r f u (l : Int) x2 (a : Int) (S, G, m) = if o = 2 then r u (l : Int) (xor_ x2 (xshl 1 (xwr v))) ((a + 1 : Nat) : Int) (S, G, m) else r u (l : Int) x2 ((a + 1 : Nat) : Int) (S, G, m) := by
  by_cases c : o = 2
  · rw [if_pos c]
    rw [c] at ho
    unfold c93_34b c93_74
    simp (disch := omega) only [cq_gi, cq_gr, cq_a, cq_s, cq_p, cq_pr, cq_is, cq_ar, cq_ab, cq_ln, xq_nz, Option.bind_some, xup2_n, xup2_s, Int.toNat_natCast, Int.reduceToNat, if_pos, if_neg, true_and, and_true, and_self, eq_self, if_true, reduceIte, not_true_eq_false, not_false_eq_true, or_true, true_or, us, us4, us5, us6, w11, w12, w13, h4, ho, hv, e1, e2]
  · rw [if_neg c]
    unfold c93_34b c93_74
    simp (disch := omega) only [cq_gi, cq_gr, cq_a, cq_s, cq_p, cq_pr, cq_is, cq_ar, cq_ab, cq_ln, xq_nz, Option.bind_some, xup2_n, xup2_s, Int.toNat_natCast, Int.reduceToNat, if_pos, if_neg, true_and, and_true, and_self, eq_self, if_true, reduceIte, not_true_eq_false, not_false_eq_true, or_true, true_or, us, us4, us5, w11, w12, h4, ho, e1, e2]
theorem k_93_34 {ts : pCd} (hR : cRq S G u K Ls) (hl : l < 8) (h4 : G (u + 4) l = (ts.length : Int)) (ht4 : ts.length ≤ 4) (hT : cTs G u l ts) (hE : ∀ y ∈ ts, wT1 nv y) (hnv : nv ≤ 8) : ∀ (d i fu : Nat), i + d = ts.length → d < fu → c93_34 f fu u (l : Int) ((qT (ts.take i) : Nat) : Int) (i : Int) (S, G, m) = some ((qT ts : Int), (S, G, m)) := by
  obtain ⟨⟨us, us1, us2, us3, us4, us5, us6, us7, us8, _⟩, ⟨w7, w9, w10, w11, w12, w13, w14, w15, _⟩, _, _, u2, hk⟩ := hR
  intro d
  induction d with
  | zero =>
    intro i fu h1 h2
    obtain ⟨fu, rfl⟩ : ∃ t, fu = t + 1 := ⟨fu - 1, by omega⟩
    have hi : i = ts.length := by omega
    rw [hi, List.take_length]
    show c93_34b (c93_34 f fu) f u _ _ _ _ = _
    unfold c93_34b
    simp (disch := omega) only [cq_gi, cq_gr, cq_a, cq_s, cq_p, cq_pr, cq_is, cq_ar, cq_ab, cq_ln, xq_nz, Option.bind_some, xup2_n, xup2_s, Int.toNat_natCast, Int.reduceToNat, if_pos, if_neg, true_and, and_true, and_self, eq_self, if_true, reduceIte, not_true_eq_false, not_false_eq_true, or_true, true_or, us, us4, w11, h4]
  | succ d ih =>
    intro i fu h1 h2
    obtain ⟨fu, rfl⟩ : ∃ t, fu = t + 1 := ⟨fu - 1, by omega⟩
    have hi : i < ts.length := by omega
    have ek : xwr ((i : Int) + 1) = ((i + 1 : Nat) : Int) := by rw [xwr_g _ (by omega) (by omega)]; omega
    have e4 : xwr (xwr (4 * (l : Int)) + (i : Int)) = ((4 * l + i : Nat) : Int) := by rw [xwr_g (4 * (l : Int)) (by omega) (by omega), xwr_g _ (by omega) (by omega)]; omega
    have e1 := st_93 (f := f) (m := m) (r := c93_34 f fu) (x2 := ((qT (ts.take i) : Nat) : Int)) u2 us us4 us5 us6 w11 w12 w13 hl h4 hi ht4 rfl rfl ek e4
    have hw := hE (ts.getD i (0, 0)) (by rw [getD_e hi]; exact List.getElem_mem hi)
    have hb := qT_lt (T := ts.take i) (fun y hy => hE y (List.mem_of_mem_take hy)) hnv
    have step := ih (i + 1) fu (by omega) (by omega)
    rw [qT_tk hi] at step
    show c93_34b (c93_34 f fu) f u _ _ _ _ = _
    rw [e1]
    rcases hT i hi with ⟨t1, t2, t3⟩ | ⟨t1, t2⟩ | ⟨t1, t2, t3⟩
    · rw [if_pos t1] at step
      rw [t2, if_pos rfl, t3]
      have hvv : 0 ≤ (ts.getD i (0, 0)).2 ∧ (ts.getD i (0, 0)).2 < nv := by rcases hw with a | a | a <;> omega
      have ev : xwr (ts.getD i (0, 0)).2 = ((ts.getD i (0, 0)).2.toNat : Int) := by rw [xwr_g _ (by omega) (by omega)]; omega
      rw [ev, xorb (by omega) (by omega)]
      exact step
    · rw [if_neg (by omega), Nat.or_zero] at step
      rw [t2, if_neg (by decide)]
      exact step
    · rw [if_neg (by omega), Nat.or_zero] at step
      rw [t2, if_neg (by decide)]
      exact step
/-- variablesIn() -/
theorem k_93 (hf : 3010 < f) (hR : cRq S G u K Ls) (hl : l < 8) (hx : cLt G u K l x) (hw : wLv nv x) (hnv : nv ≤ 8) : c93 f u (l : Int) (S, G, m) = some ((qLv x : Int), (S, G, m)) := by
  have e90 := k_90 (f := f) (m := m) hR hl hx
  have us := hR.1.1
  have u2 := hR.2.2.2.2.1
  unfold qLv
  rcases hx with ⟨a1, a2, a3, a4, a5, a6⟩ | ⟨a1, a2, a3, a4, a5⟩
  · have hw' : ∀ y ∈ x.2.2.2.1, wT1 nv y := by rcases hw with ⟨_, b⟩ | ⟨b, _⟩; exact b; omega
    have h3 : ¬ x.1 = 3 := by omega
    rw [if_neg h3] at e90 ⊢
    have := k_93_34 (f := f) (m := m) hR hl a4 a5 a6 hw' hnv x.2.2.2.1.length 0 f (by omega) (by omega)
    rw [← this]
    clear this hw hw' a1 a2 a3 a4 a5 a6
    unfold c93
    simp (disch := omega) only [cq_gi, cq_gr, cq_a, cq_s, cq_p, cq_pr, cq_is, cq_ar, cq_ab, cq_ln, xq_nz, Option.bind_some, xup2_n, xup2_s, Int.toNat_natCast, Int.reduceToNat, if_pos, if_neg, true_and, and_true, and_self, eq_self, if_true, reduceIte, not_true_eq_false, not_false_eq_true, or_true, true_or, us, e90]
    rfl
  · have hw' : wC nv x.2.2.2.2.1 ∧ wC nv x.2.2.2.2.2 := by rcases hw with ⟨b, _⟩ | ⟨_, b⟩; omega; exact b
    rw [if_pos a1] at e90 ⊢
    have e1 : xwr (4 + xwr (2 * (l : Int))) = ((4 + 2 * l : Nat) : Int) := by rw [xwr_g (2 * (l : Int)) (by omega) (by omega), xwr_g _ (by omega) (by omega)]; omega
    have e2 : xwr (((4 + 2 * l : Nat) : Int) + 1) = ((5 + 2 * l : Nat) : Int) := by rw [xwr_g _ (by omega) (by omega)]; omega
    have v1 := k_92 (f := f) (m := m) hf hR (by omega) a4 hw'.1 hnv
    have v2 := k_92 (f := f) (m := m) hf hR (by omega) a5 hw'.2 hnv
    have b1 := qVm_8 hnv hw'.1
    have b2 := qVm_8 hnv hw'.2
    rw [← xor_nat (by omega) (by omega)]
    clear a1 a2 a3 a4 a5 hw hw' b1 b2
    unfold c93
    simp (disch := omega) only [cq_gi, cq_gr, cq_a, cq_s, cq_p, cq_pr, cq_is, cq_ar, cq_ab, cq_ln, xq_nz, Option.bind_some, xup2_n, xup2_s, Int.toNat_natCast, Int.reduceToNat, if_pos, if_neg, true_and, and_true, and_self, eq_self, if_true, reduceIte, not_true_eq_false, not_false_eq_true, or_true, true_or, us, e90, e1, e2, v1, v2]
def oNI : Option Nat → Int
  | none => -1
  | some y => (y : Int)
theorem st_94a {all b v1 v2 : Int} (us : S u = (1, 6, 20)) {y : Nat} (e91 : c91 f u v1 (S, G, m) = some (v2, (S, G, m))) {v3 v4 : Int} (e92 : c92 f u v3 (S, G, m) = some (v4, (S, G, m))) : c94_78 f u b all v3 v1 (S, G, m) = some (if v2 ≠ -1 ∧ xand v4 (xxor b (-1)) = 0 then xor_ b all else -1, (S, G, m)) := by
  by_cases c1 : v2 = -1
  · rw [if_neg (fun q => q.1 c1)]
    unfold c94_78 c94_105 c94_106 c94_120
    simp (disch := omega) only [cq_gi, cq_gr, cq_a, cq_s, cq_p, cq_pr, cq_is, cq_ar, cq_ab, cq_ln, xq_nz, Option.bind_some, xup2_n, xup2_s, Int.toNat_natCast, Int.reduceToNat, if_pos, if_neg, true_and, and_true, and_self, eq_self, if_true, reduceIte, not_true_eq_false, not_false_eq_true, or_true, true_or, us, e91, c1]
  · by_cases c2 : xand v4 (xxor b (-1)) = 0
    · rw [if_pos ⟨c1, c2⟩]
      unfold c94_78 c94_101 c94_106 c94_120
      simp (disch := omega) only [cq_gi, cq_gr, cq_a, cq_s, cq_p, cq_pr, cq_is, cq_ar, cq_ab, cq_ln, xq_nz, Option.bind_some, xup2_n, xup2_s, Int.toNat_natCast, Int.reduceToNat, if_pos, if_neg, true_and, and_true, and_self, eq_self, if_true, reduceIte, not_true_eq_false, not_false_eq_true, or_true, true_or, us, e91, c1, e92, c2]
    · rw [if_neg (fun q => c2 q.2)]
      unfold c94_78 c94_105 c94_106 c94_120
      simp (disch := omega) only [cq_gi, cq_gr, cq_a, cq_s, cq_p, cq_pr, cq_is, cq_ar, cq_ab, cq_ln, xq_nz, Option.bind_some, xup2_n, xup2_s, Int.toNat_natCast, Int.reduceToNat, if_pos, if_neg, true_and, and_true, and_self, eq_self, if_true, reduceIte, not_true_eq_false, not_false_eq_true, or_true, true_or, us, e91, c1, e92, c2]
/-- boundBehind() -/
theorem k_94 {b : Nat} (hf : 3010 < f) (hR : cRq S G u K Ls) (hl : l < 8) (hx : cLt G u K l x) (hw : wLv nv x) (hnv : nv ≤ 8) (hb : b < 2 ^ 8) : c94 f u (l : Int) (b : Int) (S, G, m) = some (oNI (qBh x b), (S, G, m)) := by
  have e93 := k_93 (f := f) (m := m) hf hR hl hx hw hnv
  have us := hR.1.1
  have us2 := hR.1.2.2.1
  have w9 := hR.2.1.2.1
  have u2 := hR.2.2.2.2.1
  have hv8 := qLv_8 hw hnv
  have eor : xor_ (b : Int) (qLv x : Int) = ((b ||| qLv x : Nat) : Int) := xor_nat (by omega) (by omega)
  have hsub := xsubq hv8 hb
  unfold qBh
  rcases hx with ⟨a1, a2, a3, a4, a5, a6⟩ | ⟨a1, a2, a3, a4, a5⟩
  · by_cases c1 : x.1 = 1
    · rw [if_pos (.inl c1)]
      rw [if_pos c1] at a2
      show _ = some (((b ||| qLv x : Nat) : Int), _)
      rw [← eor]
      clear hsub eor hv8 a1 a3 a4 a5 a6 c1 hw
      unfold c94 c94_25
      simp (disch := omega) only [cq_gi, cq_gr, cq_a, cq_s, cq_p, cq_pr, cq_is, cq_ar, cq_ab, cq_ln, xq_nz, Option.bind_some, xup2_n, xup2_s, Int.toNat_natCast, Int.reduceToNat, if_pos, if_neg, true_and, and_true, and_self, eq_self, if_true, reduceIte, not_true_eq_false, not_false_eq_true, or_true, true_or, us, us2, w9, e93, a2]
    · rw [if_neg c1] at a2
      by_cases cs : qSub (qLv x) b
      · rw [if_pos (.inr cs)]
        show _ = some (((b ||| qLv x : Nat) : Int), _)
        rw [← eor]
        have c0 := hsub.mpr cs
        clear hsub eor hv8 a1 a3 a4 a5 a6 c1 hw
        unfold c94 c94_25
        simp (disch := omega) only [cq_gi, cq_gr, cq_a, cq_s, cq_p, cq_pr, cq_is, cq_ar, cq_ab, cq_ln, xq_nz, Option.bind_some, xup2_n, xup2_s, Int.toNat_natCast, Int.reduceToNat, if_pos, if_neg, true_and, and_true, and_self, eq_self, if_true, reduceIte, not_true_eq_false, not_false_eq_true, or_true, true_or, us, us2, w9, e93, a2, c0]
      · rw [if_neg (fun q => by rcases q with q | q; exact c1 q; exact cs q), if_neg (fun q => by omega)]
        show _ = some (-1, _)
        have c0 : ¬ xand (qLv x : Int) (xxor (b : Int) (-1)) = 0 := fun q => cs (hsub.mp q)
        clear hsub eor hv8 a1 a3 a4 a5 a6 c1 hw
        unfold c94
        simp (disch := omega) only [cq_gi, cq_gr, cq_a, cq_s, cq_p, cq_pr, cq_is, cq_ar, cq_ab, cq_ln, xq_nz, Option.bind_some, xup2_n, xup2_s, Int.toNat_natCast, Int.reduceToNat, if_pos, if_neg, true_and, and_true, and_self, eq_self, if_true, reduceIte, not_true_eq_false, not_false_eq_true, or_true, true_or, us, us2, w9, e93, a2, c0]
  · have n15 : ¬ G (u + 2) l = 15 := by rw [a2]; omega
    have hw' : wC nv x.2.2.2.2.1 ∧ wC nv x.2.2.2.2.2 := by rcases hw with ⟨q, _⟩ | ⟨_, q⟩; omega; exact q
    by_cases cs : qSub (qLv x) b
    · rw [if_pos (.inr cs)]
      show _ = some (((b ||| qLv x : Nat) : Int), _)
      rw [← eor]
      have c0 := hsub.mpr cs
      clear hsub eor hv8 a1 a2 a3 a4 a5 hw hw'
      unfold c94 c94_25
      simp (disch := omega) only [cq_gi, cq_gr, cq_a, cq_s, cq_p, cq_pr, cq_is, cq_ar, cq_ab, cq_ln, xq_nz, Option.bind_some, xup2_n, xup2_s, Int.toNat_natCast, Int.reduceToNat, if_pos, if_neg, true_and, and_true, and_self, eq_self, if_true, reduceIte, not_true_eq_false, not_false_eq_true, or_true, true_or, us, us2, w9, e93, n15, c0]
    · rw [if_neg (fun q => by rcases q with q | q; omega; exact cs q)]
      have c0 : ¬ xand (qLv x : Int) (xxor (b : Int) (-1)) = 0 := fun q => cs (hsub.mp q)
      by_cases c61 : x.2.1 = 61
      · have g61 : G (u + 2) l = 61 := by rw [a2]; exact c61
        have e1 : xwr (4 + xwr (2 * (l : Int))) = ((4 + 2 * l : Nat) : Int) := by rw [xwr_g (2 * (l : Int)) (by omega) (by omega), xwr_g _ (by omega) (by omega)]; omega
        have e2 : xwr (((4 + 2 * l : Nat) : Int) + 1) = ((5 + 2 * l : Nat) : Int) := by rw [xwr_g _ (by omega) (by omega)]; omega
        obtain ⟨v1, p1, p2⟩ := k_91 (f := f) (m := m) hR (by omega) a4 hw'.1 hnv
        obtain ⟨v2, q1, q2⟩ := k_91 (f := f) (m := m) hR (by omega) a5 hw'.2 hnv
        have r1 := k_92 (f := f) (m := m) hf hR (by omega) a4 hw'.1 hnv
        have r2 := k_92 (f := f) (m := m) hf hR (by omega) a5 hw'.2 hnv
        have s1 := xsubq (qVm_8 hnv hw'.1) hb
        have s2 := xsubq (qVm_8 hnv hw'.2) hb
        have e78 := st_94a (f := f) (m := m) (all := (qLv x : Int)) (b := (b : Int)) us (y := 0) q1 r1
        have e0 : c94 f u (l : Int) (b : Int) (S, G, m) = if v1 ≠ -1 ∧ xand (qVm x.2.2.2.2.2 : Int) (xxor (b : Int) (-1)) = 0 then some (xor_ (b : Int) (qLv x : Int), (S, G, m)) else c94_78 f u (b : Int) (qLv x : Int) ((4 + 2 * l : Nat) : Int) ((5 + 2 * l : Nat) : Int) (S, G, m) := by
          clear hsub eor hv8 a1 a2 a3 a4 a5 hw hw' q1 q2 p2 s1 s2 e78 r1 cs
          by_cases d1 : v1 = -1
          · rw [if_neg (fun q => q.1 d1)]
            unfold c94
            simp (disch := omega) only [cq_gi, cq_gr, cq_a, cq_s, cq_p, cq_pr, cq_is, cq_ar, cq_ab, cq_ln, xq_nz, Option.bind_some, xup2_n, xup2_s, Int.toNat_natCast, Int.reduceToNat, if_pos, if_neg, true_and, and_true, and_self, eq_self, if_true, reduceIte, not_true_eq_false, not_false_eq_true, or_true, true_or, us, us2, w9, e93, g61, c0, e1, e2, p1, d1]
          · by_cases d2 : xand (qVm x.2.2.2.2.2 : Int) (xxor (b : Int) (-1)) = 0
            · rw [if_pos ⟨d1, d2⟩]
              unfold c94 c94_101 c94_106 c94_120
              simp (disch := omega) only [cq_gi, cq_gr, cq_a, cq_s, cq_p, cq_pr, cq_is, cq_ar, cq_ab, cq_ln, xq_nz, Option.bind_some, xup2_n, xup2_s, Int.toNat_natCast, Int.reduceToNat, if_pos, if_neg, true_and, and_true, and_self, eq_self, if_true, reduceIte, not_true_eq_false, not_false_eq_true, or_true, true_or, us, us2, w9, e93, g61, c0, e1, e2, p1, d1, r2, d2]
            · rw [if_neg (fun q => d2 q.2)]
              unfold c94
              simp (disch := omega) only [cq_gi, cq_gr, cq_a, cq_s, cq_p, cq_pr, cq_is, cq_ar, cq_ab, cq_ln, xq_nz, Option.bind_some, xup2_n, xup2_s, Int.toNat_natCast, Int.reduceToNat, if_pos, if_neg, true_and, and_true, and_self, eq_self, if_true, reduceIte, not_true_eq_false, not_false_eq_true, or_true, true_or, us, us2, w9, e93, g61, c0, e1, e2, p1, d1, r2, d2]
        have i1 : (v1 ≠ -1 ∧ xand (qVm x.2.2.2.2.2 : Int) (xxor (b : Int) (-1)) = 0) ↔ (qAl2 x.2.2.2.2.1 ∧ qSub (qVm x.2.2.2.2.2) b) := by
          rw [s2]
          exact ⟨fun q => ⟨Classical.not_not.mp (fun z => q.1 (p2.mpr z)), q.2⟩, fun q => ⟨fun z => p2.mp z q.1, q.2⟩⟩
        have i2 : (v2 ≠ -1 ∧ xand (qVm x.2.2.2.2.1 : Int) (xxor (b : Int) (-1)) = 0) ↔ (qAl2 x.2.2.2.2.2 ∧ qSub (qVm x.2.2.2.2.1) b) := by
          rw [s1]
          exact ⟨fun q => ⟨Classical.not_not.mp (fun z => q.1 (q2.mpr z)), q.2⟩, fun q => ⟨fun z => q2.mp z q.1, q.2⟩⟩
        rw [e0, e78, eor]
        by_cases d1 : qAl2 x.2.2.2.2.1 ∧ qSub (qVm x.2.2.2.2.2) b
        · rw [if_pos (i1.mpr d1), if_pos ⟨a1, c61, .inl d1⟩]
          rfl
        · rw [if_neg (fun q => d1 (i1.mp q))]
          by_cases d2 : qAl2 x.2.2.2.2.2 ∧ qSub (qVm x.2.2.2.2.1) b
          · rw [if_pos (i2.mpr d2), if_pos ⟨a1, c61, .inr d2⟩]
            rfl
          · rw [if_neg (fun q => d2 (i2.mp q)), if_neg (fun q => by rcases q.2.2 with z | z; exact d1 z; exact d2 z)]
            rfl
      · rw [if_neg (fun q => c61 q.2.1)]
        show _ = some (-1, _)
        have g61 : ¬ G (u + 2) l = 61 := by rw [a2]; exact c61
        clear hsub eor hv8 a1 a2 a3 a4 a5 hw hw'
        unfold c94
        simp (disch := omega) only [cq_gi, cq_gr, cq_a, cq_s, cq_p, cq_pr, cq_is, cq_ar, cq_ab, cq_ln, xq_nz, Option.bind_some, xup2_n, xup2_s, Int.toNat_natCast, Int.reduceToNat, if_pos, if_neg, true_and, and_true, and_self, eq_self, if_true, reduceIte, not_true_eq_false, not_false_eq_true, or_true, true_or, us, us2, w9, e93, n15, g61, c0]
end
end
section
/-! THE CLASS: the order in which WAYS look at LITERALS -/
theorem qBh_none {x : pLt} {b nv : Nat} (hw : wLv nv x) (h : qBh x b = none) : x.1 ≠ 1 ∧ qS1 x b = b ∧ ¬ qSub (qLv x) b := by
  unfold qBh at h
  split at h
  · cases h
  · rename_i c
    split at h
    · cases h
    · rename_i c2
      refine ⟨fun q => c (.inl q), ?_, fun q => c (.inr q)⟩
      unfold qS1
      split
      · rename_i c3
        have n1 : ¬ (qAl2 x.2.2.2.2.1 ∧ qSub (qVm x.2.2.2.2.2) b) := fun q => c2 ⟨c3.1, c3.2, .inl q⟩
        have n2 : ¬ (qAl2 x.2.2.2.2.2 ∧ qSub (qVm x.2.2.2.2.1) b) := fun q => c2 ⟨c3.1, c3.2, .inr q⟩
        unfold qL1
        rw [if_neg n1]
        unfold qR1
        rw [if_neg n2]
      · rfl
theorem qSub_or {a b c : Nat} (h : qSub (a ||| b) c) : qSub a c ∧ qSub b c := by
  rw [qSub_t] at h
  refine ⟨qSub_t.mpr (fun j hj => h j (by rw [Nat.testBit_or, hj, Bool.true_or])), qSub_t.mpr (fun j hj => h j (by rw [Nat.testBit_or, hj, Bool.or_true]))⟩
theorem or_sub {a b : Nat} (h : qSub a b) : b ||| a = b := by rw [Nat.or_comm]; exact h
theorem qS1_in {x : pLt} {b nv : Nat} (hw : wLv nv x) (h : qSub (qLv x) b) : qS1 x b = b := by
  unfold qS1
  split
  · rename_i c
    have e : qLv x = qVm x.2.2.2.2.1 ||| qVm x.2.2.2.2.2 := by unfold qLv; rw [if_pos c.1]
    rw [e] at h
    obtain ⟨h1, h2⟩ := qSub_or h
    have e1 : qL1 x b = b := by
      unfold qL1
      split
      · exact or_sub h1
      · rfl
    rw [e1]
    unfold qR1
    split
    · exact or_sub h2
    · rfl
  · rfl
theorem qSt_id : ∀ {Ls : List pLt} {b : Nat}, (∀ y ∈ Ls, qS1 y b = b) → qSt Ls b = b
  | [], _, _ => rfl
  | y :: r, b, h => by
    show qSt r (qS1 y b) = b
    rw [h y (List.mem_cons_self ..)]
    exact qSt_id (fun z hz => h z (List.mem_cons_of_mem _ hz))
theorem qA_sub : ∀ {Ls : List pLt} {b : Nat}, (∀ y ∈ Ls, y.1 = 1 → qSub (qT y.2.2.2.1) b) → ∀ k, (qA Ls).testBit k = true → b.testBit k = true
  | [], _, _, k, hk => by rw [show qA [] = 0 from rfl, Nat.zero_testBit] at hk; cases hk
  | y :: r, b, h, k, hk => by
    have e : qA (y :: r) = (if y.1 = 1 then qT y.2.2.2.1 else 0) ||| qA r := rfl
    rw [e, Nat.testBit_or, Bool.or_eq_true] at hk
    rcases hk with q | q
    · by_cases c : y.1 = 1
      · rw [if_pos c] at q
        exact qSub_t.mp (h y (List.mem_cons_self ..) c) k q
      · rw [if_neg c, Nat.zero_testBit] at q; cases q
    · exact qA_sub (fun z hz => h z (List.mem_cons_of_mem _ hz)) k q
theorem qLv_in {x : pLt} {nv : Nat} (hw : wLv nv x) (k : Nat) (h : (qLv x).testBit k = true) : k < nv := by
  unfold qLv at h
  rcases hw with ⟨a1, a2⟩ | ⟨a1, a2, a3⟩
  · rw [if_neg (by omega)] at h
    obtain ⟨y, hy, y1, y2⟩ := (qT_in _ _).mp h
    rcases a2 y hy with q | q | q <;> omega
  · rw [if_pos a1, Nat.testBit_or, Bool.or_eq_true] at h
    rcases h with q | q
    · exact qVm_in a2 k q
    · exact qVm_in a3 k q
/-- in a safe rule there is always a LITERAL that can come next -/
theorem plan_more {Ls : List pLt} {nv b : Nat} {P : Nat → Prop} (hw : ∀ y ∈ Ls, wLv nv y) (hsafe : ∀ k, k < nv → (qBd Ls).testBit k = true) (hb : ∀ l, l < Ls.length → P l → qSub (qLv (Ls.getD l dLt)) b) {x : Nat} (hx : x < Ls.length) (hnx : ¬ P x) : ∃ l, l < Ls.length ∧ ¬ P l ∧ qBh (Ls.getD l dLt) b ≠ none := by
  refine Classical.byContradiction (fun hno => ?_)
  have hn : ∀ l, l < Ls.length → ¬ P l → qBh (Ls.getD l dLt) b = none := fun l hl hp => Classical.byContradiction (fun q => hno ⟨l, hl, hp, q⟩)
  have hg : ∀ y ∈ Ls, ∃ l, l < Ls.length ∧ Ls.getD l dLt = y := fun y hy => by
    obtain ⟨l, hl, e⟩ := List.mem_iff_getElem.mp hy
    exact ⟨l, hl, by rw [getD_e hl]; exact e⟩
  have ht : qSt Ls b = b := qSt_id (fun y hy => by
    obtain ⟨l, hl, e⟩ := hg y hy
    by_cases c : P l
    · exact qS1_in (hw y hy) (by rw [← e]; exact hb l hl c)
    · have := hn l hl c
      rw [e] at this
      exact (qBh_none (hw y hy) this).2.1)
  have hA : ∀ k, (qA Ls).testBit k = true → b.testBit k = true := qA_sub (fun y hy h1 => by
    obtain ⟨l, hl, e⟩ := hg y hy
    by_cases c : P l
    · have := hb l hl c
      rw [e] at this
      unfold qLv at this
      rw [if_neg (by omega)] at this
      exact this
    · have := hn l hl c
      rw [e] at this
      exact absurd h1 (qBh_none (hw y hy) this).1)
  have hall := qBd_in ht hA
  have hwx : wLv nv (Ls.getD x dLt) := by rw [getD_e hx]; exact hw _ (List.getElem_mem hx)
  exact (qBh_none hwx (hn x hx hnx)).2.2 (qSub_t.mpr (fun k hk => hall k (hsafe k (qLv_in hwx k hk))))
section
variable {f u s nv l : Nat} {S : Nat → Nat × Nat × Nat} {G : xG_} {m : Nat × Nat} {K E : pCd} {Ls : List pLt} {x : pLt}
theorem st_97 {a c wd : Nat} {o v x2 : Int} {r : Nat → Int → Int → Int → Int → xT_ → Option (Int × xT_)} (u2 : 278 < u) (us : S u = (1, 6, 20)) (us4 : S (u + 4) = (2, 3, 8)) (us5 : S (u + 5) = (2, 3, 32)) (us6 : S (u + 6) = (2, 4, 32)) (w11 : G u 11 = ((u + 4 : Nat) : Int)) (w12 : G u 12 = ((u + 5 : Nat) : Int)) (w13 : G u 13 = ((u + 6 : Nat) : Int)) (hl : l < 8) (h4 : G (u + 4) l = (wd : Int)) (ha : a < wd) (hb : wd ≤ 4) (ho : G (u + 5) (4 * l + a) = o) (hv : G (u + 6) (4 * l + a) = v) (e1 : xwr ((a : Int) + 1) = ((a + 1 : Nat) : Int)) (ec : xwr ((c : Int) + 1) = ((c + 1 : Nat) : Int)) (e2 : xwr (xwr (4 * (l : Int)) + (a : Int)) = ((4 * l + a : Nat) : Int)) : c97_5b r f u (l : Int) x2 (c : Int) (a : Int) (S, G, m) = some ((c : Int), (S, G, m)) ∨ c97_5b r f u (l : Int) x2 (c : Int) (a : Int) (S, G, m) = r u (l : Int) x2 ((c + 1 : Nat) : Int) ((a + 1 : Nat) : Int) (S, G, m) := by
  by_cases c3 : o = 3
  · left
    rw [c3] at ho
    unfold c97_5b c97_72
    simp (disch := omega) only [cq_gi, cq_gr, cq_a, cq_s, cq_p, cq_pr, cq_is, cq_ar, cq_ab, cq_ln, xq_nz, Option.bind_some, xup2_n, xup2_s, Int.toNat_natCast, Int.reduceToNat, if_pos, if_neg, true_and, and_true, and_self, eq_self, if_true, reduceIte, not_true_eq_false, not_false_eq_true, or_true, true_or, us, us4, us5, w11, w12, h4, ho, e2]
  · by_cases c2 : o = 2
    · rw [c2] at ho
      by_cases c0 : xand (xshr x2 (xwr v)) 1 = 0
      · left
        unfold c97_5b c97_72
        simp (disch := omega) only [cq_gi, cq_gr, cq_a, cq_s, cq_p, cq_pr, cq_is, cq_ar, cq_ab, cq_ln, xq_nz, Option.bind_some, xup2_n, xup2_s, Int.toNat_natCast, Int.reduceToNat, if_pos, if_neg, true_and, and_true, and_self, eq_self, if_true, reduceIte, not_true_eq_false, not_false_eq_true, or_true, true_or, us, us4, us5, us6, w11, w12, w13, h4, ho, hv, e2, c0]
      · right
        unfold c97_5b c97_63
        simp (disch := omega) only [cq_gi, cq_gr, cq_a, cq_s, cq_p, cq_pr, cq_is, cq_ar, cq_ab, cq_ln, xq_nz, Option.bind_some, xup2_n, xup2_s, Int.toNat_natCast, Int.reduceToNat, if_pos, if_neg, true_and, and_true, and_self, eq_self, if_true, reduceIte, not_true_eq_false, not_false_eq_true, or_true, true_or, us, us4, us5, us6, w11, w12, w13, h4, ho, hv, e1, ec, e2, c0]
    · right
      unfold c97_5b c97_63
      simp (disch := omega) only [cq_gi, cq_gr, cq_a, cq_s, cq_p, cq_pr, cq_is, cq_ar, cq_ab, cq_ln, xq_nz, Option.bind_some, xup2_n, xup2_s, Int.toNat_natCast, Int.reduceToNat, if_pos, if_neg, true_and, and_true, and_self, eq_self, if_true, reduceIte, not_true_eq_false, not_false_eq_true, or_true, true_or, us, us4, us5, w11, w12, h4, ho, e1, ec, e2]
/-- columnsBound() -/
theorem k_97 {b : Int} (hf : 10 < f) (hR : cRq S G u K Ls) (hl : l < 8) {wd : Nat} (h4 : G (u + 4) l = (wd : Int)) (hw : wd ≤ 4) : ∃ c : Nat, c97 f u (l : Int) b (S, G, m) = some ((c : Int), (S, G, m)) := by
  obtain ⟨⟨us, us1, us2, us3, us4, us5, us6, us7, us8, _⟩, ⟨w7, w9, w10, w11, w12, w13, w14, w15, _⟩, _, _, u2, hk⟩ := hR
  have loop : ∀ (d a c fu : Nat), a + d = wd → d < fu → c ≤ a → ∃ c' : Nat, c97_5 f fu u (l : Int) b (c : Int) (a : Int) (S, G, m) = some ((c' : Int), (S, G, m)) := by
    intro d
    induction d with
    | zero =>
      intro a c fu h1 h2 h3
      obtain ⟨fu, rfl⟩ : ∃ t, fu = t + 1 := ⟨fu - 1, by omega⟩
      refine ⟨c, ?_⟩
      have ha : a = wd := by omega
      rw [ha]
      show c97_5b (c97_5 f fu) f u _ _ _ _ _ = _
      unfold c97_5b c97_72
      simp (disch := omega) only [cq_gi, cq_gr, cq_a, cq_s, cq_p, cq_pr, cq_is, cq_ar, cq_ab, cq_ln, xq_nz, Option.bind_some, xup2_n, xup2_s, Int.toNat_natCast, Int.reduceToNat, if_pos, if_neg, true_and, and_true, and_self, eq_self, if_true, reduceIte, not_true_eq_false, not_false_eq_true, or_true, true_or, us, us4, w11, h4]
    | succ d ih =>
      intro a c fu h1 h2 h3
      obtain ⟨fu, rfl⟩ : ∃ t, fu = t + 1 := ⟨fu - 1, by omega⟩
      have e1 : xwr ((a : Int) + 1) = ((a + 1 : Nat) : Int) := by rw [xwr_g _ (by omega) (by omega)]; omega
      have ec : xwr ((c : Int) + 1) = ((c + 1 : Nat) : Int) := by rw [xwr_g _ (by omega) (by omega)]; omega
      have e4 : xwr (xwr (4 * (l : Int)) + (a : Int)) = ((4 * l + a : Nat) : Int) := by rw [xwr_g (4 * (l : Int)) (by omega) (by omega), xwr_g _ (by omega) (by omega)]; omega
      rcases st_97 (f := f) (m := m) (r := c97_5 f fu) (x2 := b) u2 us us4 us5 us6 w11 w12 w13 hl h4 (by omega : a < wd) hw rfl rfl e1 ec e4 with q | q
      · exact ⟨c, q⟩
      · obtain ⟨c', hc⟩ := ih (a + 1) (c + 1) fu (by omega) (by omega) (by omega)
        exact ⟨c', q.trans hc⟩
  exact loop wd 0 0 f (by omega) (by omega) (Nat.le_refl _)
end
end
section
/-! THE CLASS: makePlan(), its first half -/
/-- what is bound behind LITERALS in this order -/
def plB (Ls : List pLt) : List Nat → Nat → Option Nat
  | [], b => some b
  | p :: r, b => (qBh (Ls.getD p dLt) b).bind (plB Ls r)
theorem plB_ap (Ls : List pLt) (p : Nat) : ∀ (pl : List Nat) (b : Nat), plB Ls (pl ++ [p]) b = (plB Ls pl b).bind (qBh (Ls.getD p dLt))
  | [], b => by
    show (qBh (Ls.getD p dLt) b).bind (plB Ls []) = qBh (Ls.getD p dLt) b
    cases qBh (Ls.getD p dLt) b <;> rfl
  | q :: r, b => by
    show (qBh (Ls.getD q dLt) b).bind (plB Ls (r ++ [p])) = ((qBh (Ls.getD q dLt) b).bind (plB Ls r)).bind _
    cases qBh (Ls.getD q dLt) b with
    | none => rfl
    | some y => exact plB_ap Ls p r y
theorem qBh_some {x : pLt} {b y nv : Nat} (hw : wLv nv x) (hnv : nv ≤ 8) (hb : b < 2 ^ 8) (h : qBh x b = some y) : y = b ||| qLv x ∧ y < 2 ^ 8 := by
  have e : y = b ||| qLv x := by
    unfold qBh at h
    split at h
    · cases h; rfl
    · split at h
      · cases h; rfl
      · cases h
  exact ⟨e, by rw [e]; exact Nat.or_lt_two_pow hb (qLv_8 hw hnv)⟩
/-- the best LITERAL so far -/
def isBe (Ls : List pLt) (pm b : Nat) (be bc : Int) (l : Nat) : Prop := be = -1 ∧ bc = -1 ∧ (∀ j, j < l → pm.testBit j = false → qBh (Ls.getD j dLt) b = none) ∨ ∃ p : Nat, be = p ∧ p < Ls.length ∧ pm.testBit p = false ∧ qBh (Ls.getD p dLt) b ≠ none
section
variable {f u s nv l pm b st : Nat} {S : Nat → Nat × Nat × Nat} {G G' : xG_} {m : Nat × Nat} {K E : pCd} {Ls : List pLt} {x : pLt} {be bc : Int} {r6 : Nat → Int → Int → Int → xT_ → Option (xT_)} {r23 : Nat → Int → Int → Int → Int → Int → Int → xT_ → Option (xT_)}
theorem cRq.pl (h : cRq S G u K Ls) (h0 : ∀ a j, a ≠ u + 9 → a ≠ u + 10 → G' a j = G a j) : cRq S G' u K Ls := by
  obtain ⟨a1, a2, ⟨k1, k2, k3, k4, k5⟩, a4, a5, a6⟩ := h
  have hl : cLs G' u (K ++ []) Ls := ⟨by rw [h0 u 8 (by omega) (by omega)]; exact a4.1, a4.2.1, fun l hl => (a4.2.2 l hl).ge (fun a z1 z2 => h0 a l (by omega) (by omega)) (fun j _ => ⟨h0 _ j (by omega) (by omega), h0 _ j (by omega) (by omega)⟩) (fun j _ _ => ⟨h0 _ j (by omega) (by omega), h0 _ j (by omega) (by omega)⟩)⟩
  rw [List.append_nil] at hl
  refine ⟨a1, ?_, ⟨by rw [h0 _ _ (by omega) (by omega)]; exact k1, by rw [h0 _ _ (by omega) (by omega)]; exact k2, k3, k4, fun k hk => by rw [h0 _ _ (by omega) (by omega), h0 _ _ (by omega) (by omega)]; exact k5 k hk⟩, hl, a5, a6⟩
  unfold cRuP at a2 ⊢
  have z : ∀ j, G' u j = G u j := fun j => h0 u j (by omega) (by omega)
  rw [z, z, z, z, z, z, z, z, z, z]
  exact a2
theorem st_96A (us : S u = (1, 6, 20)) {n : Nat} (h8 : G u 8 = (n : Int)) (hl : l < n) (hx : ¬ xand (xshr (pm : Int) (l : Int)) 1 = 0) : c96_23b r6 r23 f u (pm : Int) (b : Int) (st : Int) be bc (l : Int) (S, G, m) = r23 u (pm : Int) (b : Int) (st : Int) be bc (xwr ((l : Int) + 1)) (S, G, m) := by
  unfold c96_23b c96_92
  simp (disch := omega) only [cq_gi, cq_gr, cq_a, cq_s, cq_p, cq_pr, cq_is, cq_ar, cq_ab, cq_ln, xq_nz, Option.bind_some, xup2_n, xup2_s, Int.toNat_natCast, Int.reduceToNat, if_pos, if_neg, true_and, and_true, and_self, eq_self, if_true, reduceIte, not_true_eq_false, not_false_eq_true, or_true, true_or, us, h8, hx]
theorem st_96B (us : S u = (1, 6, 20)) {n : Nat} (h8 : G u 8 = (n : Int)) (hl : l < n) (hx : xand (xshr (pm : Int) (l : Int)) 1 = 0) (e94 : c94 f u (l : Int) (b : Int) (S, G, m) = some (-1, (S, G, m))) : c96_23b r6 r23 f u (pm : Int) (b : Int) (st : Int) be bc (l : Int) (S, G, m) = r23 u (pm : Int) (b : Int) (st : Int) be bc (xwr ((l : Int) + 1)) (S, G, m) := by
  unfold c96_23b c96_92
  simp (disch := omega) only [cq_gi, cq_gr, cq_a, cq_s, cq_p, cq_pr, cq_is, cq_ar, cq_ab, cq_ln, xq_nz, Option.bind_some, xup2_n, xup2_s, Int.toNat_natCast, Int.reduceToNat, if_pos, if_neg, true_and, and_true, and_self, eq_self, if_true, reduceIte, not_true_eq_false, not_false_eq_true, or_true, true_or, us, h8, hx, e94]
theorem st_96C {v k co : Int} (u2 : 278 < u) (hl8 : l < 8) (us : S u = (1, 6, 20)) (us2 : S (u + 2) = (2, 3, 8)) (w9 : G u 9 = ((u + 2 : Nat) : Int)) {n : Nat} (h8 : G u 8 = (n : Int)) (hl : l < n) (hx : xand (xshr (pm : Int) (l : Int)) 1 = 0) (e94 : c94 f u (l : Int) (b : Int) (S, G, m) = some (v, (S, G, m))) (hv : ¬ v = -1) (hk : G (u + 2) l = k) (hc : k = 15 ∧ c97 f u (l : Int) (b : Int) (S, G, m) = some (co, (S, G, m)) ∨ k ≠ 15 ∧ co = 5) : c96_23b r6 r23 f u (pm : Int) (b : Int) (st : Int) be bc (l : Int) (S, G, m) = if co ≤ bc then r23 u (pm : Int) (b : Int) (st : Int) be bc (xwr ((l : Int) + 1)) (S, G, m) else r23 u (pm : Int) (b : Int) (st : Int) (l : Int) co (xwr ((l : Int) + 1)) (S, G, m) := by
  rcases hc with ⟨c1, c2⟩ | ⟨c1, c2⟩
  · rw [c1] at hk
    unfold c96_23b c96_75 c96_92
    simp (disch := omega) only [cq_gi, cq_gr, cq_a, cq_s, cq_p, cq_pr, cq_is, cq_ar, cq_ab, cq_ln, xq_nz, Option.bind_some, xup2_n, xup2_s, Int.toNat_natCast, Int.reduceToNat, if_pos, if_neg, true_and, and_true, and_self, eq_self, if_true, reduceIte, not_true_eq_false, not_false_eq_true, or_true, true_or, us, us2, w9, h8, hx, e94, hv, hk, c2]
  · rw [c2]
    have hk' : ¬ G (u + 2) l = 15 := by rw [hk]; exact c1
    clear hk c1
    unfold c96_23b c96_75 c96_92
    simp (disch := omega) only [cq_gi, cq_gr, cq_a, cq_s, cq_p, cq_pr, cq_is, cq_ar, cq_ab, cq_ln, xq_nz, Option.bind_some, xup2_n, xup2_s, Int.toNat_natCast, Int.reduceToNat, if_pos, if_neg, true_and, and_true, and_self, eq_self, if_true, reduceIte, not_true_eq_false, not_false_eq_true, or_true, true_or, us, us2, w9, h8, hx, e94, hv, hk']
theorem k_96i (hf : 3010 < f) (hR : cRq S G u K Ls) (hw : ∀ y ∈ Ls, wLv nv y) (hnv : nv ≤ 8) (hb : b < 2 ^ 8) (hpm : pm < 2 ^ 8) : ∀ (d l fu : Nat) (be bc : Int), l + d = Ls.length → d < fu → isBe Ls pm b be bc l → ∃ fu' be' bc', fu' + d = fu ∧ c96_23 r6 f fu u (pm : Int) (b : Int) (st : Int) be bc (l : Int) (S, G, m) = c96_23 r6 f fu' u (pm : Int) (b : Int) (st : Int) be' bc' (Ls.length : Int) (S, G, m) ∧ isBe Ls pm b be' bc' Ls.length := by
  have us := hR.1.1
  have us2 := hR.1.2.2.1
  have w9 := hR.2.1.2.1
  have u2 := hR.2.2.2.2.1
  have h8 := hR.2.2.2.1.1
  have hl8 := hR.2.2.2.1.2.1
  intro d
  induction d with
  | zero =>
    intro l fu be bc h1 h2 h3
    have : l = Ls.length := by omega
    rw [this] at h3 ⊢
    exact ⟨fu, be, bc, rfl, rfl, h3⟩
  | succ d ih =>
    intro l fu be bc h1 h2 h3
    obtain ⟨fu, rfl⟩ : ∃ t, fu = t + 1 := ⟨fu - 1, by omega⟩
    have hll : l < Ls.length := by omega
    have ek : xwr ((l : Int) + 1) = ((l + 1 : Nat) : Int) := by rw [xwr_g _ (by omega) (by omega)]; omega
    have hbit := xbit0 (a := pm) (m := l) (by omega) (by omega)
    have hwl : wLv nv (Ls.getD l dLt) := by rw [getD_e hll]; exact hw _ (List.getElem_mem hll)
    have hxl := hR.2.2.2.1.2.2 l hll
    have e94 := k_94 (f := f) (m := m) (b := b) hf hR (by omega) hxl hwl hnv hb
    -- the step goes on with be', bc'
    have go : ∀ be' bc', c96_23b r6 (c96_23 r6 f fu) f u (pm : Int) (b : Int) (st : Int) be bc (l : Int) (S, G, m) = c96_23 r6 f fu u (pm : Int) (b : Int) (st : Int) be' bc' (xwr ((l : Int) + 1)) (S, G, m) → isBe Ls pm b be' bc' (l + 1) → ∃ fu' be' bc', fu' + (d + 1) = fu + 1 ∧ c96_23 r6 f (fu + 1) u (pm : Int) (b : Int) (st : Int) be bc (l : Int) (S, G, m) = c96_23 r6 f fu' u (pm : Int) (b : Int) (st : Int) be' bc' (Ls.length : Int) (S, G, m) ∧ isBe Ls pm b be' bc' Ls.length := by
      intro be' bc' q1 q2
      obtain ⟨fu', be2, bc2, z1, z2, z3⟩ := ih (l + 1) fu be' bc' (by omega) (by omega) q2
      refine ⟨fu', be2, bc2, by omega, ?_, z3⟩
      rw [← z2, ← ek]
      exact q1
    have keep : ∀ P : pm.testBit l = false → qBh (Ls.getD l dLt) b = none, isBe Ls pm b be bc (l + 1) := by
      intro P
      rcases h3 with ⟨a1, a2, a3⟩ | a
      · refine .inl ⟨a1, a2, fun j hj hp => ?_⟩
        by_cases cj : j = l
        · rw [cj] at hp ⊢; exact P hp
        · exact a3 j (by omega) hp
      · exact .inr a
    by_cases c1 : pm.testBit l = true
    · exact go be bc (st_96A us h8 hll (fun q => by rw [hbit.mp q] at c1; cases c1)) (keep (fun q => by rw [c1] at q; cases q))
    · have c1' : pm.testBit l = false := by cases hq : pm.testBit l with
        | true => exact absurd hq c1
        | false => rfl
      have hx0 := hbit.mpr c1'
      cases hq : qBh (Ls.getD l dLt) b with
      | none =>
        rw [show Ls.getD l (0, 0, 0, [], [], []) = Ls.getD l dLt from rfl, hq] at e94
        exact go be bc (st_96B us h8 hll hx0 e94) (keep (fun _ => hq))
      | some y =>
        rw [show Ls.getD l (0, 0, 0, [], [], []) = Ls.getD l dLt from rfl, hq] at e94
        have hco : ∃ co : Int, 0 ≤ co ∧ (G (u + 2) l = 15 ∧ c97 f u (l : Int) (b : Int) (S, G, m) = some (co, (S, G, m)) ∨ G (u + 2) l ≠ 15 ∧ co = 5) := by
          by_cases c15 : G (u + 2) l = 15
          · have h4 : ∃ wd : Nat, G (u + 4) l = (wd : Int) ∧ wd ≤ 4 := by
              rcases hxl with ⟨_, _, _, a4, a5, _⟩ | ⟨_, a2, a3, _⟩
              · exact ⟨_, a4, a5⟩
              · rw [a2] at c15; omega
            obtain ⟨wd, h4, h5⟩ := h4
            obtain ⟨c, hc⟩ := k_97 (f := f) (m := m) (b := (b : Int)) (by omega) hR (by omega) h4 h5
            exact ⟨c, Int.natCast_nonneg c, .inl ⟨c15, hc⟩⟩
          · exact ⟨5, by decide, .inr ⟨c15, rfl⟩⟩
        obtain ⟨co, hco0, hco1⟩ := hco
        have hy : ¬ oNI (some y) = -1 := by show ¬ (y : Int) = -1; omega
        have e1 := st_96C (f := f) (m := m) (st := st) (r6 := r6) (r23 := c96_23 r6 f fu) (be := be) (bc := bc) u2 (by omega) us us2 w9 h8 hll hx0 e94 hy rfl hco1
        by_cases cb : co ≤ bc
        · rw [if_pos cb] at e1
          refine go be bc e1 ?_
          rcases h3 with ⟨a1, a2, a3⟩ | a
          · omega
          · exact .inr a
        · rw [if_neg cb] at e1
          exact go _ _ e1 (.inr ⟨l, rfl, hll, c1', by rw [hq]; exact fun z => by cases z⟩)
end
end
section
/-! THE CLASS: makePlan(), the order -/
def sfe (Ls : List pLt) (nv : Nat) : Prop := ∀ k, k < nv → (qBd Ls).testBit k = true
/-- the order so far -/
def isPl (G : xG_) (u : Nat) (Ls : List pLt) (nv pm b st : Nat) (pl : List Nat) : Prop := (pm < 2 ^ 8 ∧ b < 2 ^ 8) ∧ (∀ j, j < Ls.length → pm.testBit j = true → qSub (qLv (Ls.getD j dLt)) b) ∧ (∀ k, k < Ls.length → ∃ p : Nat, G (u + 9) k = p ∧ p < Ls.length) ∧
  (sfe Ls nv → pl.length = st ∧ pl.Nodup ∧ (∀ j, pm.testBit j = true ↔ j ∈ pl) ∧ (∀ j, j ∈ pl → j < Ls.length) ∧ plB Ls pl 0 = some b ∧ ∀ k, k < st → G (u + 9) k = ((pl.getD k 0 : Nat) : Int))
section
variable {f u s nv l pm b st : Nat} {S : Nat → Nat × Nat × Nat} {G G' : xG_} {m : Nat × Nat} {K E : pCd} {Ls : List pLt} {x : pLt} {be bc : Int} {r6 : Nat → Int → Int → Int → xT_ → Option (xT_)} {r23 : Nat → Int → Int → Int → Int → Int → Int → xT_ → Option (xT_)}
theorem st_96E {n : Nat} (us : S u = (1, 6, 20)) (h8 : G u 8 = (n : Int)) : c96_23b r6 r23 f u (pm : Int) (b : Int) (st : Int) (-1) bc (n : Int) (S, G, m) = r6 u (pm : Int) (b : Int) (xwr ((st : Int) + 1)) (S, G, m) := by
  unfold c96_23b c96_127
  simp (disch := omega) only [cq_gi, cq_gr, cq_a, cq_s, cq_p, cq_pr, cq_is, cq_ar, cq_ab, cq_ln, xq_nz, Option.bind_some, xup2_n, xup2_s, Int.toNat_natCast, Int.reduceToNat, if_pos, if_neg, true_and, and_true, and_self, eq_self, if_true, reduceIte, not_true_eq_false, not_false_eq_true, or_true, true_or, us, h8]
theorem st_96F {n p : Nat} {v : Int} (u2 : 278 < u) (hst : st < 8) (us : S u = (1, 6, 20)) (us9 : S (u + 9) = (2, 3, 8)) (w18 : G u 18 = ((u + 9 : Nat) : Int)) (h8 : G u 8 = (n : Int)) (e94 : c94 f u (p : Int) (b : Int) (S, xup2 G (u + 9) st (p : Int), m) = some (v, (S, xup2 G (u + 9) st (p : Int), m))) : c96_23b r6 r23 f u (pm : Int) (b : Int) (st : Int) (p : Int) bc (n : Int) (S, G, m) = r6 u (xor_ (pm : Int) (xshl 1 (p : Int))) v (xwr ((st : Int) + 1)) (S, xup2 G (u + 9) st (p : Int), m) := by
  unfold c96_23b c96_127
  simp (disch := omega) only [cq_gi, cq_gr, cq_a, cq_s, cq_p, cq_pr, cq_is, cq_ar, cq_ab, cq_ln, xq_nz, Option.bind_some, xup2_n, xup2_s, Int.toNat_natCast, Int.reduceToNat, if_pos, if_neg, true_and, and_true, and_self, eq_self, if_true, reduceIte, not_true_eq_false, not_false_eq_true, or_true, true_or, us, us9, w18, h8, e94]
theorem st_96o {n : Nat} (us : S u = (1, 6, 20)) (h8 : G u 8 = (n : Int)) (hst : st < n) : c96_6b r6 f u (pm : Int) (b : Int) (st : Int) (S, G, m) = c96_23 r6 f f u (pm : Int) (b : Int) (st : Int) (-1) (-1) ((0 : Nat) : Int) (S, G, m) := by
  unfold c96_6b
  simp (disch := omega) only [cq_gi, cq_gr, cq_a, cq_s, cq_p, cq_pr, cq_is, cq_ar, cq_ab, cq_ln, xq_nz, Option.bind_some, xup2_n, xup2_s, Int.toNat_natCast, Int.reduceToNat, if_pos, if_neg, true_and, and_true, and_self, eq_self, if_true, reduceIte, not_true_eq_false, not_false_eq_true, or_true, true_or, us, h8]
  rfl
theorem tb_or (pm p j : Nat) : (pm ||| 2 ^ p).testBit j = true ↔ pm.testBit j = true ∨ j = p := by
  rw [Nat.testBit_or, Bool.or_eq_true, Nat.testBit_two_pow, decide_eq_true_iff]
  exact ⟨fun q => q.imp id Eq.symm, fun q => q.imp id Eq.symm⟩
theorem k_96o (hf : 3010 < f) (hw : ∀ y ∈ Ls, wLv nv y) (hnv : nv ≤ 8) : ∀ (d st fu : Nat) (G : xG_) (pm b : Nat) (pl : List Nat), st + d = Ls.length → d < fu → cRq S G u K Ls → isPl G u Ls nv pm b st pl → ∃ (fu' : Nat) (G' : xG_) (pm' b' : Nat) (pl' : List Nat), fu' + d = fu ∧ c96_6 f fu u (pm : Int) (b : Int) (st : Int) (S, G, m) = c96_6 f fu' u (pm' : Int) (b' : Int) (Ls.length : Int) (S, G', m) ∧ cRq S G' u K Ls ∧ isPl G' u Ls nv pm' b' Ls.length pl' ∧ ∀ a j, a ≠ u + 9 → G' a j = G a j := by
  intro d
  induction d with
  | zero =>
    intro st fu G pm b pl h1 h2 hR hP
    have : st = Ls.length := by omega
    rw [this] at hP ⊢
    exact ⟨fu, G, pm, b, pl, rfl, rfl, hR, hP, fun _ _ _ => rfl⟩
  | succ d ih =>
    intro st fu G pm b pl h1 h2 hR hP
    obtain ⟨fu, rfl⟩ : ∃ t, fu = t + 1 := ⟨fu - 1, by omega⟩
    have us := hR.1.1
    have us9 := hR.1.2.2.2.2.2.2.2.2.2.1
    have w18 := hR.2.1.2.2.2.2.2.2.2.2.1
    have u2 := hR.2.2.2.2.1
    have h8 := hR.2.2.2.1.1
    have hl8 := hR.2.2.2.1.2.1
    obtain ⟨⟨p1, p2⟩, p3, p4, p5⟩ := hP
    have ek : xwr ((st : Int) + 1) = ((st + 1 : Nat) : Int) := by rw [xwr_g _ (by omega) (by omega)]; omega
    obtain ⟨fu', be, bc, i1, i2, i3⟩ := k_96i (f := f) (m := m) (st := st) (r6 := c96_6 f fu) hf hR hw hnv p2 p1 Ls.length 0 f (-1) (-1) (by omega) (by omega) (.inl ⟨rfl, rfl, fun j hj => absurd hj (Nat.not_lt_zero j)⟩)
    obtain ⟨fu'', rfl⟩ : ∃ t, fu' = t + 1 := ⟨fu' - 1, by omega⟩
    have e0 : c96_6 f (fu + 1) u (pm : Int) (b : Int) (st : Int) (S, G, m) = c96_23b (c96_6 f fu) (c96_23 (c96_6 f fu) f fu'') f u (pm : Int) (b : Int) (st : Int) be bc (Ls.length : Int) (S, G, m) := by
      show c96_6b (c96_6 f fu) f u _ _ _ _ = _
      rw [st_96o us h8 (by omega), i2]
      rfl
    rcases i3 with ⟨a1, a2, a3⟩ | ⟨p, a1, a2, a3, a4⟩
    · -- none is left that could come: not in a safe rule
      have hns : ¬ sfe Ls nv := fun hsf => by
        obtain ⟨q1, q2, q3, q4, q5, q6⟩ := p5 hsf
        have hex : ∃ y, y < Ls.length ∧ ¬ pm.testBit y = true := by
          refine Classical.byContradiction (fun hno => ?_)
          have hall : ∀ y, y < Ls.length → y ∈ pl := fun y hy => (q3 y).mp (Classical.byContradiction (fun z => hno ⟨y, hy, z⟩))
          have := nodup_len (List.range Ls.length) pl List.nodup_range (fun y hy => hall y (List.mem_range.mp hy))
          rw [List.length_range] at this
          omega
        obtain ⟨y, hy, hyn⟩ := hex
        obtain ⟨z, z1, z2, z3⟩ := plan_more (P := fun j => pm.testBit j = true) hw hsf p3 hy hyn
        exact z3 (a3 z z1 (by cases hq : pm.testBit z with
          | true => exact absurd hq z2
          | false => rfl))
      rw [a1, st_96E us h8, ek] at e0
      obtain ⟨fu3, G3, pm3, b3, pl3, j1, j2, j3, j4, j5⟩ := ih (st + 1) fu G pm b pl (by omega) (by omega) hR ⟨⟨p1, p2⟩, p3, p4, fun z => absurd z hns⟩
      exact ⟨fu3, G3, pm3, b3, pl3, by omega, e0.trans j2, j3, j4, j5⟩
    · have hR' : cRq S (xup2 G (u + 9) st (p : Int)) u K Ls := hR.pl (fun a j z1 z2 => xup2_n (fun y => z1 y.1))
      have hwp : wLv nv (Ls.getD p dLt) := by rw [getD_e a2]; exact hw _ (List.getElem_mem a2)
      have e94 := k_94 (f := f) (m := m) (b := b) hf hR' (by omega) (hR'.2.2.2.1.2.2 p a2) hwp hnv p2
      rw [show Ls.getD p (0, 0, 0, [], [], []) = Ls.getD p dLt from rfl] at e94
      cases hq : qBh (Ls.getD p dLt) b with
      | none => exact absurd hq a4
      | some y =>
        rw [hq] at e94
        obtain ⟨y1, y2⟩ := qBh_some hwp hnv p2 hq
        rw [a1, st_96F u2 (by omega) us us9 w18 h8 e94, ek, xorb (by omega) (by omega)] at e0
        have hP' : isPl (xup2 G (u + 9) st (p : Int)) u Ls nv (pm ||| 2 ^ p) y (st + 1) (pl ++ [p]) := by
          refine ⟨⟨or_lt p1 (by omega), y2⟩, fun j hj hb => ?_, fun k hk => ?_, fun hsf => ?_⟩
          · rw [tb_or] at hb
            rw [y1]
            rcases hb with z | z
            · exact qSub_t.mpr (fun t ht => by rw [Nat.testBit_or, qSub_t.mp (p3 j hj z) t ht, Bool.true_or])
            · rw [z]
              exact qSub_t.mpr (fun t ht => by rw [Nat.testBit_or, ht, Bool.or_true])
          · by_cases ck : k = st
            · rw [ck, xup2_s]; exact ⟨p, rfl, a2⟩
            · rw [xup2_n (fun z => ck z.2)]; exact p4 k hk
          · obtain ⟨q1, q2, q3, q4, q5, q6⟩ := p5 hsf
            have hnp : p ∉ pl := fun z => by rw [(q3 p).mpr z] at a3; cases a3
            refine ⟨by rw [len1, q1], ?_, fun j => ?_, fun j hj => ?_, ?_, fun k hk => ?_⟩
            · rw [List.nodup_append]
              exact ⟨q2, by simp, fun c hc d hd => by rw [List.mem_singleton] at hd; rw [hd]; exact fun z => hnp (z ▸ hc)⟩
            · rw [tb_or, List.mem_append, List.mem_singleton, q3]
            · rw [List.mem_append, List.mem_singleton] at hj
              rcases hj with z | z
              · exact q4 j z
              · rw [z]; exact a2
            · rw [plB_ap, q5]
              exact hq
            · rw [getD_1]
              by_cases ck : k = st
              · rw [ck, xup2_s, if_pos q1.symm]
              · rw [xup2_n (fun z => ck z.2), if_neg (by omega)]
                exact q6 k (by omega)
        obtain ⟨fu3, G3, pm3, b3, pl3, j1, j2, j3, j4, j5⟩ := ih (st + 1) fu _ _ _ _ (by omega) (by omega) hR' hP'
        exact ⟨fu3, G3, pm3, b3, pl3, by omega, e0.trans j2, j3, j4, fun a j z => by rw [j5 a j z, xup2_n (fun y => z y.1)]⟩
end
end
section
/-! THE CLASS: makePlan() -/
/-- the VARIABLES that a HEAD asks for -/
def qIm : List pCd → Nat
  | [] => 0
  | E :: r => qVm E ||| qIm r
def qAs (_ : Int × Int × Int) (I : List pCd) : Nat := 0 ||| qIm I
/-- what is asked for behind LITERALS in this order -/
def plA (Ls : List pLt) (a : Nat) : List Nat → Nat
  | [] => a
  | p :: r => plA Ls a r ||| qLv (Ls.getD p dLt)
/-- the plan of a rule -/
def cPl (G : xG_) (u nv : Nat) (Ls : List pLt) (a : Nat) : Prop := ∃ pl : List Nat, pl.length = Ls.length ∧ (∀ k, k < Ls.length → G (u + 9) k = ((pl.getD k 0 : Nat) : Int) ∧ pl.getD k 0 < Ls.length ∧ G (u + 10) k = ((plA Ls a (pl.drop (k + 1)) : Nat) : Int)) ∧ (sfe Ls nv → pl.Nodup ∧ ∃ b, plB Ls pl 0 = some b)
theorem qIm_ap (I : List pCd) (E : pCd) : qIm (I ++ [E]) = qIm I ||| qVm E := by
  induction I with
  | nil => show qVm E ||| 0 = 0 ||| qVm E; rw [Nat.or_zero, Nat.zero_or]
  | cons x q ih => show qVm x ||| qIm (q ++ [E]) = qVm x ||| qIm q ||| qVm E; rw [ih, Nat.or_assoc]
theorem qIm_8 {nv : Nat} (hnv : nv ≤ 8) : ∀ {I : List pCd}, (∀ E ∈ I, wC nv E) → qIm I < 2 ^ 8
  | [], _ => by decide
  | E :: r, h => Nat.or_lt_two_pow (qVm_8 hnv (h E (List.mem_cons_self ..))) (qIm_8 hnv (fun y hy => h y (List.mem_cons_of_mem _ hy)))
theorem plA_8 {Ls : List pLt} {a nv : Nat} (ha : a < 2 ^ 8) (hw : ∀ y ∈ Ls, wLv nv y) (hnv : nv ≤ 8) : ∀ (pl : List Nat), (∀ p ∈ pl, p < Ls.length) → plA Ls a pl < 2 ^ 8
  | [], _ => ha
  | p :: r, h => Nat.or_lt_two_pow (plA_8 ha hw hnv r (fun q hq => h q (List.mem_cons_of_mem _ hq))) (by
      have hp := h p (List.mem_cons_self ..)
      exact qLv_8 (by rw [getD_e hp]; exact hw _ (List.getElem_mem hp)) hnv)
section
variable {f u s nv l pm b st : Nat} {S : Nat → Nat × Nat × Nat} {G G' : xG_} {m : Nat × Nat} {K E : pCd} {Ls : List pLt} {x : pLt} {g : Int × Int × Int} {I : List pCd}
theorem st_196 {k p : Nat} {a v : Int} {r : Nat → Int → Int → xT_ → Option (xT_)} (u2 : 278 < u) (hk : k < 8) (us : S u = (1, 6, 20)) (us9 : S (u + 9) = (2, 3, 8)) (us10 : S (u + 10) = (2, 3, 8)) (w18 : G u 18 = ((u + 9 : Nat) : Int)) (w19 : G u 19 = ((u + 10 : Nat) : Int)) (hp : G (u + 9) k = (p : Int)) (e93 : c93 f u (p : Int) (S, xup2 G (u + 10) k a, m) = some (v, (S, xup2 G (u + 10) k a, m))) : c96_170b r f u a (k : Int) (S, G, m) = r u (xor_ a v) (xwr ((k : Int) + (-1))) (S, xup2 G (u + 10) k a, m) := by
  unfold c96_170b
  simp (disch := omega) only [cq_gi, cq_gr, cq_a, cq_s, cq_p, cq_pr, cq_is, cq_ar, cq_ab, cq_ln, xq_nz, Option.bind_some, xup2_n, xup2_s, Int.toNat_natCast, Int.reduceToNat, if_pos, if_neg, true_and, and_true, and_self, eq_self, if_true, reduceIte, not_true_eq_false, not_false_eq_true, or_true, true_or, us, us9, us10, w18, w19, hp, e93]
theorem k_196 (hf : 3010 < f) (hw : ∀ y ∈ Ls, wLv nv y) (hnv : nv ≤ 8) {a : Nat} (ha : a < 2 ^ 8) {pl : List Nat} (hpl : pl.length = Ls.length) (hpm : ∀ k, k < Ls.length → pl.getD k 0 < Ls.length) : ∀ (k fu : Nat) (G : xG_), k ≤ Ls.length → k < fu → cRq S G u K Ls → (∀ j, j < Ls.length → G (u + 9) j = ((pl.getD j 0 : Nat) : Int)) → ∃ G', c96_170 f fu u ((plA Ls a (pl.drop k) : Nat) : Int) ((k : Int) - 1) (S, G, m) = some (S, G', m) ∧ (∀ b j, b ≠ u + 10 → G' b j = G b j) ∧ (∀ j, k ≤ j → G' (u + 10) j = G (u + 10) j) ∧ ∀ j, j < k → G' (u + 10) j = ((plA Ls a (pl.drop (j + 1)) : Nat) : Int) := by
  intro k
  induction k with
  | zero =>
    intro fu G h1 h2 hR hr
    obtain ⟨fu, rfl⟩ : ∃ t, fu = t + 1 := ⟨fu - 1, by omega⟩
    refine ⟨G, ?_, fun _ _ _ => rfl, fun _ _ => rfl, fun j hj => absurd hj (Nat.not_lt_zero j)⟩
    show c96_170b (c96_170 f fu) f u _ _ _ = _
    unfold c96_170b
    rw [if_pos (by omega)]
  | succ k ih =>
    intro fu G h1 h2 hR hr
    obtain ⟨fu, rfl⟩ : ∃ t, fu = t + 1 := ⟨fu - 1, by omega⟩
    have us := hR.1.1
    have us9 := hR.1.2.2.2.2.2.2.2.2.2.1
    have us10 := hR.1.2.2.2.2.2.2.2.2.2.2
    have w18 := hR.2.1.2.2.2.2.2.2.2.2.1
    have w19 := hR.2.1.2.2.2.2.2.2.2.2.2
    have u2 := hR.2.2.2.2.1
    have hl8 := hR.2.2.2.1.2.1
    have hp := hr k (by omega)
    have hpk := hpm k (by omega)
    have hR' : cRq S (xup2 G (u + 10) k ((plA Ls a (pl.drop (k + 1)) : Nat) : Int)) u K Ls := hR.pl (fun b j z1 z2 => xup2_n (fun y => z2 y.1))
    have hwp : wLv nv (Ls.getD (pl.getD k 0) dLt) := by rw [getD_e hpk]; exact hw _ (List.getElem_mem hpk)
    have e93 := k_93 (f := f) (m := m) hf hR' (by omega) (hR'.2.2.2.1.2.2 _ hpk) hwp hnv
    have e1 := st_196 (f := f) (m := m) (r := c96_170 f fu) u2 (by omega) us us9 us10 w18 w19 hp e93
    have ea : plA Ls a (pl.drop k) = plA Ls a (pl.drop (k + 1)) ||| qLv (Ls.getD (pl.getD k 0) dLt) := by
      rw [List.drop_eq_getElem_cons (by omega : k < pl.length), getD_e (by omega : k < pl.length)]
      rfl
    have hall : ∀ p ∈ pl, p < Ls.length := fun p hp => by
      obtain ⟨j, hj, e⟩ := List.mem_iff_getElem.mp hp
      have := hpm j (by omega)
      rw [getD_e hj, e] at this
      exact this
    have b1 := plA_8 ha hw hnv (pl.drop (k + 1)) (fun p hp => hall p (List.mem_of_mem_drop hp))
    have b2 := qLv_8 hwp hnv
    rw [show Ls.getD (pl.getD k 0) (0, 0, 0, [], [], []) = Ls.getD (pl.getD k 0) dLt from rfl, xor_nat (by omega) (by omega), ← ea] at e1
    have ek : xwr ((k : Int) + (-1)) = (k : Int) - 1 := by rw [xwr_g _ (by omega) (by omega)]; omega
    rw [ek] at e1
    obtain ⟨G', j1, j2, j3, j4⟩ := ih fu _ (by omega) (by omega) hR' (fun j hj => by rw [xup2_n (fun y => by have := y.1; omega)]; exact hr j hj)
    refine ⟨G', ?_, fun b j z => by rw [j2 b j z, xup2_n (fun y => z y.1)], fun j hj => by rw [j3 j (by omega), xup2_n (fun y => by have := y.2; omega)], fun j hj => ?_⟩
    · have ek' : ((k + 1 : Nat) : Int) - 1 = (k : Int) := by omega
      rw [ek']
      show c96_170b (c96_170 f fu) f u _ _ _ = _
      rw [e1]
      exact j1
    · by_cases cj : j = k
      · rw [cj, j3 k (Nat.le_refl _), xup2_s]
      · exact j4 j (by omega)
theorem st_164 {c a v : Int} {n : Nat} {k : Nat} {r : Nat → Int → Int → xT_ → Option (xT_)} (us : S u = (1, 6, 20)) (h2 : G u 2 = (n : Int)) (hk : k < n) (e92 : c92 f u (k : Int) (S, G, m) = some (v, (S, G, m))) : c96_138b r f u a (k : Int) (S, G, m) = r u (xor_ a v) (xwr ((k : Int) + 1)) (S, G, m) := by
  unfold c96_138b
  simp (disch := omega) only [cq_gi, cq_gr, cq_a, cq_s, cq_p, cq_pr, cq_is, cq_ar, cq_ab, cq_ln, xq_nz, Option.bind_some, xup2_n, xup2_s, Int.toNat_natCast, Int.reduceToNat, if_pos, if_neg, true_and, and_true, and_self, eq_self, if_true, reduceIte, not_true_eq_false, not_false_eq_true, or_true, true_or, us, h2, e92]
theorem st_164e {a : Int} {n k : Nat} {r : Nat → Int → Int → xT_ → Option (xT_)} (us : S u = (1, 6, 20)) (h2 : G u 2 = (n : Int)) (h8 : G u 8 = (k : Int)) : c96_138b r f u a (n : Int) (S, G, m) = c96_170 f f u a (xwr ((k : Int) - 1)) (S, G, m) := by
  unfold c96_138b
  simp (disch := omega) only [cq_gi, cq_gr, cq_a, cq_s, cq_p, cq_pr, cq_is, cq_ar, cq_ab, cq_ln, xq_nz, Option.bind_some, xup2_n, xup2_s, Int.toNat_natCast, Int.reduceToNat, if_pos, if_neg, true_and, and_true, and_self, eq_self, if_true, reduceIte, not_true_eq_false, not_false_eq_true, or_true, true_or, us, h2, h8]
theorem k_164 (hf : 3010 < f) (hR : cRq S G u K Ls) (hI : cIt G u K g I) (hwI : ∀ E ∈ I, wC nv E) (hnv : nv ≤ 8) {a : Nat} (ha : a < 2 ^ 8) : ∀ (d c fu : Nat), c + d = I.length → d < fu → c96_138 f fu u ((a ||| qIm (I.take c) : Nat) : Int) (c : Int) (S, G, m) = c96_170 f f u ((a ||| qIm I : Nat) : Int) ((Ls.length : Int) - 1) (S, G, m) := by
  have us := hR.1.1
  have h8 := hR.2.2.2.1.1
  have hl8 := hR.2.2.2.1.2.1
  have h4 := hI.2.1
  intro d
  induction d with
  | zero =>
    intro c fu h1 h2
    obtain ⟨fu, rfl⟩ : ∃ t, fu = t + 1 := ⟨fu - 1, by omega⟩
    have hc : c = I.length := by omega
    have ek : xwr ((Ls.length : Int) - 1) = (Ls.length : Int) - 1 := xwr_g _ (by omega) (by omega)
    rw [hc, List.take_length]
    show c96_138b (c96_138 f fu) f u _ _ _ = _
    rw [st_164e us hI.1 h8, ek]
  | succ d ih =>
    intro c fu h1 h2
    obtain ⟨fu, rfl⟩ : ∃ t, fu = t + 1 := ⟨fu - 1, by omega⟩
    have hc : c < I.length := by omega
    have hwc : wC nv (I.getD c []) := by rw [getD_e hc]; exact hwI _ (List.getElem_mem hc)
    have e92 := k_92 (f := f) (m := m) hf hR (by omega) (hI.2.2.1 c hc) hwc hnv
    have ek : xwr ((c : Int) + 1) = ((c + 1 : Nat) : Int) := by rw [xwr_g _ (by omega) (by omega)]; omega
    have b1 := Nat.or_lt_two_pow ha (qIm_8 hnv (I := I.take c) (fun E hE => hwI E (List.mem_of_mem_take hE)))
    have b2 := qVm_8 hnv hwc
    have et : qIm (I.take (c + 1)) = qIm (I.take c) ||| qVm (I.getD c []) := by
      rw [List.take_add_one, List.getElem?_eq_getElem hc, getD_e hc]
      exact qIm_ap _ _
    have step := ih (c + 1) fu (by omega) (by omega)
    rw [et, ← Nat.or_assoc] at step
    rw [← step]
    show c96_138b (c96_138 f fu) f u _ _ _ = _
    rw [st_164 (c := 0) us hI.1 hc e92, ek, xor_nat (by omega) (by omega)]
end
end
section
/-! THE CLASS: finish() of a rule -/
section
variable {f u nv sl : Nat} {S : Nat → Nat × Nat × Nat} {G G' : xG_} {m : Nat × Nat} {K : pCd} {Ls : List pLt} {g : Int × Int × Int} {I : List pCd}
theorem st_96e {n pm b : Nat} {r6 : Nat → Int → Int → Int → xT_ → Option (xT_)} (us : S u = (1, 6, 20)) (h8 : G u 8 = (n : Int)) : c96_6b r6 f u (pm : Int) (b : Int) (n : Int) (S, G, m) = c96_138 f f u ((0 : Nat) : Int) ((0 : Nat) : Int) (S, G, m) := by
  unfold c96_6b
  simp (disch := omega) only [cq_gi, cq_gr, cq_a, cq_s, cq_p, cq_pr, cq_is, cq_ar, cq_ab, cq_ln, xq_nz, Option.bind_some, xup2_n, xup2_s, Int.toNat_natCast, Int.reduceToNat, if_pos, if_neg, true_and, and_true, and_self, eq_self, if_true, reduceIte, not_true_eq_false, not_false_eq_true, or_true, true_or, us, h8]
  rfl
/-- makePlan() -/
theorem k_96 (hf : 3010 < f) (hR : cRq S G u K Ls) (hw : ∀ y ∈ Ls, wLv nv y) (hnv : nv ≤ 8) (hI : cIt G u K g I) (hwI : ∀ E ∈ I, wC nv E) (hg : g.1 = 0 ∨ g.1 = 10 ∨ 0 ≤ g.2.2 ∧ g.2.2 < nv) (hz : ∀ k, k < 8 → G (u + 9) k = 0) : ∃ G', c96 f u (S, G, m) = some (S, G', m) ∧ (∀ a j, a ≠ u + 9 → a ≠ u + 10 → G' a j = G a j) ∧ cPl G' u nv Ls (qAs g I) := by
  have u2 := hR.2.2.2.2.1
  have hl8 := hR.2.2.2.1.2.1
  have hP0 : isPl G u Ls nv 0 0 0 [] := ⟨⟨by decide, by decide⟩, fun j _ hb => (by rw [Nat.zero_testBit] at hb; cases hb), fun k hk => ⟨0, hz k (by omega), by omega⟩, fun _ => ⟨rfl, List.nodup_nil, fun j => (by rw [Nat.zero_testBit]; exact ⟨fun q => (by cases q), fun q => (by cases q)⟩), fun j hj => (by cases hj), rfl, fun k hk => absurd hk (Nat.not_lt_zero k)⟩⟩
  obtain ⟨fu, G1, pm, b, pl, i1, i2, i3, ⟨_, _, i4, i5⟩, i6⟩ := k_96o (f := f) (m := m) (S := S) (u := u) (K := K) hf hw hnv Ls.length 0 f G 0 0 [] (by omega) (by omega) hR hP0
  obtain ⟨fu', rfl⟩ : ∃ t, fu = t + 1 := ⟨fu - 1, by omega⟩
  have us := i3.1.1
  have h8 := i3.2.2.2.1.1
  have hI1 : cIt G1 u K g I := by
    have z : ∀ j, G1 u j = G u j := fun j => i6 u j (by omega)
    have := hI.2.2.1
    refine ⟨by rw [z]; exact hI.1, hI.2.1, fun c hc => ?_, fun c h1 h2 => ?_, hI.2.2.2.2.ge (fun j _ _ => z j)⟩
    · have q := cSg.ge (D := []) (G' := G1) (hI.2.2.1 c hc) (i6 _ _ (by omega)) (i6 _ _ (by omega))
      rw [List.append_nil] at q
      exact q
    · rw [i6 _ _ (by omega), i6 _ _ (by omega)]
      exact hI.2.2.2.1 c h1 h2
  have e1 := st_96e (f := f) (m := m) (pm := pm) (b := b) (r6 := c96_6 f fu') us h8
  have hmask : ∃ a : Nat, a < 2 ^ 8 ∧ a = 0 ∧ c96_6 f (fu' + 1) u (pm : Int) (b : Int) (Ls.length : Int) (S, G1, m) = c96_138 f f u (a : Int) ((0 : Nat) : Int) (S, G1, m) := ⟨0, by decide, rfl, e1⟩
  obtain ⟨a, ha, hae, hc⟩ := hmask
  have e164 := k_164 (f := f) (m := m) hf i3 hI1 hwI hnv ha I.length 0 f (by omega) (by have := hI.2.1; omega)
  rw [List.take_zero, show qIm [] = 0 from rfl, Nat.or_zero] at e164
  have hA8 := Nat.or_lt_two_pow ha (qIm_8 hnv hwI)
  -- the rows as a list
  have hrow : ∃ pl' : List Nat, pl'.length = Ls.length ∧ (∀ k, k < Ls.length → G1 (u + 9) k = ((pl'.getD k 0 : Nat) : Int) ∧ pl'.getD k 0 < Ls.length) ∧ (sfe Ls nv → pl'.Nodup ∧ ∃ b, plB Ls pl' 0 = some b) := by
    by_cases hsf : sfe Ls nv
    · obtain ⟨q1, q2, q3, q4, q5, q6⟩ := i5 hsf
      exact ⟨pl, q1, fun k hk => ⟨q6 k hk, q4 _ (by rw [getD_e (by omega)]; exact List.getElem_mem _)⟩, fun _ => ⟨q2, b, q5⟩⟩
    · refine ⟨(List.range Ls.length).map (fun k => (G1 (u + 9) k).toNat), by rw [List.length_map, List.length_range], fun k hk => ?_, fun q => absurd q hsf⟩
      obtain ⟨p, p1, p2⟩ := i4 k hk
      have : ((List.range Ls.length).map (fun k => (G1 (u + 9) k).toNat)).getD k 0 = p := by
        rw [getD_e (by rw [List.length_map, List.length_range]; exact hk), List.getElem_map, List.getElem_range, p1]
        exact Int.toNat_natCast p
      rw [this]
      exact ⟨p1, p2⟩
  obtain ⟨pl', l1, l2, l3⟩ := hrow
  obtain ⟨G2, j1, j2, j3, j4⟩ := k_196 (f := f) (m := m) hf hw hnv hA8 l1 (fun k hk => (l2 k hk).2) Ls.length f G1 (Nat.le_refl _) (by omega) i3 (fun j hj => (l2 j hj).1)
  rw [List.drop_of_length_le (by omega), show plA Ls (a ||| qIm I) [] = a ||| qIm I from rfl] at j1
  refine ⟨G2, ?_, fun a j z1 z2 => by rw [j2 a j z2, i6 a j z1], pl', l1, fun k hk => ⟨by rw [j2 _ _ (by omega)]; exact (l2 k hk).1, (l2 k hk).2, ?_⟩, l3⟩
  · show c96_6 f f u ((0 : Nat) : Int) ((0 : Nat) : Int) ((0 : Nat) : Int) (S, G, m) = _
    rw [i2, hc, e164]
    exact j1
  · rw [j4 k hk]
    unfold qAs
    rw [hae]
/-- Arrays.copyOf() of less than all -/
theorem cpy {kk n : Nat} {x a : Nat} {L : Nat} (hkk : kk = 3 ∨ kk = 4) (hS : S x = (2, kk, L)) (hxa : x < a) (hn : n < L) (hL : L ≤ 5000) : ∃ S' G', ((cq_na kk (n : Int) (S, G, (a, sl))).bind fun p104 => ((cq_ln x p104.2).bind fun v109 => ((cq_cp x 0 p104.1 0 (xmin v109 (n : Int)) p104.2).bind fun T112 => (some (p104.1, T112))))) = some (a, (S', G', (a + 1, sl + n))) ∧ (∀ b, b < a → S' b = S b) ∧ S' a = (2, kk, n) ∧ (∀ b j, b < a → G' b j = G b j) ∧ ∀ j, j < n → G' a j = G x j := by
  have e1 : cq_na kk (n : Int) (S, G, (a, sl)) = some (a, (xup1 S a (2, kk, n), xz1 G a (fun _ => 0), a + 1, sl + n)) := by
    rw [cq_na_ok (by omega) (by omega) (by omega), Int.toNat_natCast]
  have hS' : xup1 S a (2, kk, n) x = (2, kk, L) := by rw [xup1_n (by omega)]; exact hS
  have e2 : cq_ln x (xup1 S a (2, kk, n), xz1 G a (fun _ => 0), a + 1, sl + n) = some (L : Int) := by
    unfold cq_ln
    show (if (xup1 S a (2, kk, n) x).1 = 2 ∧ (xup1 S a (2, kk, n) x).2.2 < 2147483648 then some ((xup1 S a (2, kk, n) x).2.2 : Int) else none) = _
    rw [hS', if_pos ⟨rfl, by show L < _; omega⟩]
  have e3 : xmin (L : Int) (n : Int) = (n : Int) := by unfold xmin; rw [if_pos (by omega)]
  refine ⟨xup1 S a (2, kk, n), xz1 (xz1 G a (fun _ => 0)) a (fun i => if 0 ≤ i ∧ i < 0 + n then xz1 G a (fun _ => 0) x (0 + (i - 0)) else xz1 G a (fun _ => 0) a i), ?_, fun b hb => xup1_n (by omega), xup1_s _ _ _, fun b j hb => by rw [xz1_n _ (by omega), xz1_n _ (by omega)], fun j hj => ?_⟩
  · rw [e1, Option.bind_some, e2, Option.bind_some, e3]
    unfold cq_cp
    have hSa : xup1 S a (2, kk, n) a = (2, kk, n) := xup1_s _ _ _
    show ((if (xup1 S a (2, kk, n) x).1 = 2 ∧ (xup1 S a (2, kk, n) a).1 = 2 ∧ (xup1 S a (2, kk, n) x).2.1 = (xup1 S a (2, kk, n) a).2.1 ∧ ((xup1 S a (2, kk, n) a).2.1 = 3 ∨ (xup1 S a (2, kk, n) a).2.1 = 4) ∧ (0 : Int) ≤ 0 ∧ (0 : Int) ≤ 0 ∧ (0 : Int) ≤ (n : Int) ∧ (0 : Int).toNat + (n : Int).toNat ≤ (xup1 S a (2, kk, n) x).2.2 ∧ (0 : Int).toNat + (n : Int).toNat ≤ (xup1 S a (2, kk, n) a).2.2 then _ else none)).bind _ = _
    rw [hS', hSa, Int.toNat_natCast, if_pos ⟨rfl, rfl, rfl, hkk, by decide, by decide, by omega, by show 0 + n ≤ L; omega, by show 0 + n ≤ n; omega⟩]
    rfl
  · rw [xz1_s, if_pos ⟨Nat.zero_le _, by omega⟩, xz1_n _ (by omega)]
    congr 1
    omega
end
end
