section
/-! THE CLASS: readProgram() -/
theorem pInput_R {t : tStr} {s s' : pPg} (h : pInput t s = .inr s') : s'.2.2.2.2.1 = s.2.2.2.2.1 := by
  unfold pInput at h
  obtain ⟨_, _, h⟩ := pbind_inr h
  obtain ⟨_, _, h⟩ := pbind_inr h
  obtain ⟨_, _, h⟩ := pbind_inr h
  obtain ⟨_, _, h⟩ := pbind_inr h
  obtain ⟨_, _, h⟩ := pbind_inr h
  cases h
  rfl
theorem pOutput_R {t : tStr} {s s' : pPg} (h : pOutput t s = .inr s') : s'.2.2.2.2.1 = s.2.2.2.2.1 := by
  unfold pOutput at h
  obtain ⟨_, _, h⟩ := pbind_inr h
  obtain ⟨_, _, h⟩ := pbind_inr h
  cases h
  rfl
theorem pRule_R {t : tStr} {F : Nat} {s s' : pPg} (h : pRule t F s = .inr s') : s'.2.2.2.2.1.length = s.2.2.2.2.1.length + 1 := by
  unfold pRule at h
  split at h
  · cases h
  obtain ⟨_, _, h⟩ := pbind_inr h
  obtain ⟨_, _, h⟩ := pbind_inr h
  obtain ⟨_, _, h⟩ := pbind_inr h
  obtain ⟨_, _, h⟩ := pbind_inr h
  obtain ⟨_, _, h⟩ := pbind_inr h
  obtain ⟨_, _, h⟩ := pbind_inr h
  obtain ⟨_, _, h⟩ := pbind_inr h
  cases h
  exact len1 _ _
section
variable {f n N w q F : Nat} {S : Nat → Nat × Nat × Nat} {G : xG_} {m : Nat × Nat} {B : Nat → Int} {t : tStr} {x it : Nat} {k : Int} {r : Nat → Int → xT_ → Option ((Nat ⊕ Unit) × xT_)}
theorem xFp.mo {nx nx' : Nat} {G G' : xG_} (h : xFp q nx' G G') (hn : nx ≤ nx') : xFp q nx G G' := fun a j z1 z2 z3 z4 => h a j (by omega) z2 z3 z4
theorem st_30 (hs : cSs S) (hp : cPs G) (hx : x ≤ 3000) (hit : it ≤ 3000) (k1 : G 67 x = k) (k3 : G 72 1 = (x : Int)) : c30_8b r f 72 (it : Int) (S, G, m) = if k = 0 then some (.inr (), (S, G, m)) else if k = 6 then ((c41 f 72 (S, G, m)).bind fun R => cth R (fun _ => r 72 (xwr ((it : Int) + 1)) R.2)) else if k = 7 then ((c42 f 72 (S, G, m)).bind fun R => cth R (fun _ => r 72 (xwr ((it : Int) + 1)) R.2)) else ((c43 f 72 (S, G, m)).bind fun R => cth R (fun _ => r 72 (xwr ((it : Int) + 1)) R.2)) := by
  by_cases c0 : k = 0
  · rw [if_pos c0]
    rw [c0] at k1
    unfold c30_8b c30_79
    simp (disch := omega) only [cq_gi, cq_gr, cq_a, cq_s, cq_p, cq_pr, cq_is, cq_ar, cq_ab, cq_ln, xq_nz, Option.bind_some, xup2_n, xup2_s, Int.toNat_natCast, Int.reduceToNat, if_pos, if_neg, true_and, and_true, and_self, eq_self, if_true, reduceIte, not_true_eq_false, not_false_eq_true, or_true, true_or, s72 hs, s65 hs, s67 hs, p72_0 hp, p65_3 hp, k1, k3]
  · rw [if_neg c0]
    by_cases c6 : k = 6
    · rw [if_pos c6]
      rw [c6] at k1
      unfold c30_8b c30_73
      simp (disch := omega) only [cq_gi, cq_gr, cq_a, cq_s, cq_p, cq_pr, cq_is, cq_ar, cq_ab, cq_ln, xq_nz, Option.bind_some, xup2_n, xup2_s, Int.toNat_natCast, Int.reduceToNat, if_pos, if_neg, true_and, and_true, and_self, eq_self, if_true, reduceIte, not_true_eq_false, not_false_eq_true, or_true, true_or, s72 hs, s65 hs, s67 hs, p72_0 hp, p65_3 hp, k1, k3]
    · rw [if_neg c6]
      by_cases c7 : k = 7
      · rw [if_pos c7]
        rw [c7] at k1
        unfold c30_8b c30_73
        simp (disch := omega) only [cq_gi, cq_gr, cq_a, cq_s, cq_p, cq_pr, cq_is, cq_ar, cq_ab, cq_ln, xq_nz, Option.bind_some, xup2_n, xup2_s, Int.toNat_natCast, Int.reduceToNat, if_pos, if_neg, true_and, and_true, and_self, eq_self, if_true, reduceIte, not_true_eq_false, not_false_eq_true, or_true, true_or, s72 hs, s65 hs, s67 hs, p72_0 hp, p65_3 hp, k1, k3]
      · rw [if_neg c7]
        unfold c30_8b c30_73
        simp (disch := omega) only [cq_gi, cq_gr, cq_a, cq_s, cq_p, cq_pr, cq_is, cq_ar, cq_ab, cq_ln, xq_nz, Option.bind_some, xup2_n, xup2_s, Int.toNat_natCast, Int.reduceToNat, if_pos, if_neg, true_and, and_true, and_self, eq_self, if_true, reduceIte, not_true_eq_false, not_false_eq_true, or_true, true_or, s72 hs, s65 hs, s67 hs, p72_0 hp, p65_3 hp, k1, k3]
/-- WRONG in a program; what is made until then -/
def pWr (S : Nat → Nat × Nat × Nat) (G : xG_) (q nx sl : Nat) (s : pPg) (T : Option ((Nat ⊕ Unit) × xT_)) (x : Nat) : Prop := ∃ (S' : Nat → Nat × Nat × Nat) (G' : xG_) (m' : Nat × Nat), T = some (.inl 0, cWr S' G' m' (x : Int)) ∧ (∀ a, a < nx → S' a = S a) ∧ xFp q nx G G' ∧ m'.1 + 13 * s.2.2.2.2.1.length ≤ nx + 312 ∧ m'.2 + 172 * s.2.2.2.2.1.length + 2 * s.2.2.2.2.2 ≤ sl + 4128 + 6000 ∧ nx ≤ m'.1
/-- a program that is read -/
def pRd (S : Nat → Nat × Nat × Nat) (G : xG_) (B : Nat → Int) (n : Nat) (t : tStr) (N w q nx sl : Nat) (s : pPg) (T : Option ((Nat ⊕ Unit) × xT_)) (s' : pPg) : Prop := ∃ (S' : Nat → Nat × Nat × Nat) (G' : xG_) (nx' sl' : Nat), T = some (.inr (), (S', G', (nx', sl'))) ∧ (∀ a, a < nx → S' a = S a) ∧ xFp q nx G G' ∧ cPS S' G' B n t N w q nx' s' ∧ nx' + 13 * s.2.2.2.2.1.length = nx + 13 * s'.2.2.2.2.1.length ∧ sl' + 172 * s.2.2.2.2.1.length + 2 * s.2.2.2.2.2 ≤ sl + 172 * s'.2.2.2.2.1.length + 2 * s'.2.2.2.2.2 ∧ s.2.2.2.2.1.length ≤ s'.2.2.2.2.1.length
theorem k_30l (hf : 3010 < f) (hok : tOk t) (hvi : vIn t B n) (hF : 4 * N + 2 ≤ F) : ∀ (K it fu : Nat) (s : pPg) (S : Nat → Nat × Nat × Nat) (G : xG_) (nx sl : Nat), it ≤ s.2.2.2.2.2 → N < K + s.2.2.2.2.2 → N < fu + it → wPg s → 278 < nx → cPS S G B n t N w q nx s → pok (pProg t F K s) (pWr S G q nx sl s (c30_8 f fu 72 (it : Int) (S, G, (nx, sl)))) (pRd S G B n t N w q nx sl s (c30_8 f fu 72 (it : Int) (S, G, (nx, sl)))) := by
  intro K
  induction K with
  | zero =>
    intro it fu s S G nx sl h1 h2 h3 hw hnx h
    have := h.2.2.1
    omega
  | succ K ih =>
    intro it fu s S G nx sl h1 h2 h3 hw hnx h
    have hiN := h.2.2.1
    have hN := h.1.2.2.2.1.2
    have hs := h.1.1
    obtain ⟨fu, rfl⟩ : ∃ t, fu = t + 1 := ⟨fu - 1, by omega⟩
    obtain ⟨k1, k2, k3, k4⟩ := h.1.tk h.2.1
    have ek : xwr ((it : Int) + 1) = ((it + 1 : Nat) : Int) := by rw [xwr_g _ (by omega) (by omega)]; omega
    have e0 := st_30 (f := f) (m := (nx, sl)) (r := c30_8 f fu) hs h.1.2.1 k4 (by omega : it ≤ 3000) k1 k3
    rw [ek] at e0
    have e0' : c30_8 f (fu + 1) 72 (it : Int) (S, G, (nx, sl)) = _ := e0
    have hR24 := h.2.2.2.2.2.1.2.1.2.1
    show pok (if kK t s.2.2.2.2.2 = 0 then .inr s else pbind (if kK t s.2.2.2.2.2 = 6 then pInput t s else if kK t s.2.2.2.2.2 = 7 then pOutput t s else pRule t F s) fun s' => pProg t F K s') _ _
    rw [e0']
    by_cases c0 : kK t s.2.2.2.2.2 = 0
    · rw [if_pos c0, if_pos c0]
      exact ⟨S, G, nx, sl, rfl, fun _ _ => rfl, .id, h, rfl, Nat.le_refl _, Nat.le_refl _⟩
    rw [if_neg c0, if_neg c0]
    -- a step that makes nothing new
    have io : ∀ (X : Nat ⊕ pPg) (T : Option ((Nat ⊕ Unit) × xT_)), (∀ s', X = .inr s' → wPg s' ∧ s'.2.2.2.2.1 = s.2.2.2.2.1) → pok X (iW S G q nx (nx, sl) T) (fun s' => ∃ G', T = some (.inr (), (S, G', (nx, sl))) ∧ xFp q nx G G' ∧ cPS S G' B n t N w q nx s' ∧ s.2.2.2.2.2 < s'.2.2.2.2.2) → pok (pbind X fun s' => pProg t F K s') (pWr S G q nx sl s (T.bind fun R => cth R (fun _ => c30_8 f fu 72 ((it + 1 : Nat) : Int) R.2))) (pRd S G B n t N w q nx sl s (T.bind fun R => cth R (fun _ => c30_8 f fu 72 ((it + 1 : Nat) : Int) R.2))) := by
      intro X T hX hp
      cases X with
      | inl x =>
        obtain ⟨G1, a1, a2⟩ := hp
        exact ⟨S, G1, (nx, sl), by rw [a1]; rfl, fun _ _ => rfl, a2, by show nx + 13 * _ ≤ _; omega, by show sl + 172 * _ + 2 * _ ≤ _; omega, Nat.le_refl _⟩
      | inr s' =>
        obtain ⟨G1, a1, a2, a3, a4⟩ := hp
        obtain ⟨w1, w2⟩ := hX s' rfl
        have q' := ih (it + 1) fu s' S G1 nx sl (by omega) (by omega) (by omega) w1 hnx a3
        have e1 : (T.bind fun R => cth R (fun _ => c30_8 f fu 72 ((it + 1 : Nat) : Int) R.2)) = c30_8 f fu 72 ((it + 1 : Nat) : Int) (S, G1, (nx, sl)) := by rw [a1]; rfl
        rw [e1]
        show pok (pProg t F K s') _ _
        cases hz : pProg t F K s' with
        | inl x =>
          rw [hz] at q'
          obtain ⟨S2, G2, m2, y1, y2, y3, y4, y5, y6⟩ := q'
          rw [w2] at y4 y5
          exact ⟨S2, G2, m2, y1, y2, a2.tr y3, y4, by omega, y6⟩
        | inr z =>
          rw [hz] at q'
          obtain ⟨S2, G2, nx2, sl2, y1, y2, y3, y4, y5, y6, y7⟩ := q'
          rw [w2] at y5 y6 y7
          exact ⟨S2, G2, nx2, sl2, y1, y2, a2.tr y3, y4, y5, by omega, y7⟩
    by_cases c6 : kK t s.2.2.2.2.2 = 6
    · rw [if_pos c6, if_pos c6]
      exact io _ _ (fun s' hs' => ⟨pInput_wf hs' hw, pInput_R hs'⟩) (k_41 (by omega) c6 h)
    rw [if_neg c6, if_neg c6]
    by_cases c7 : kK t s.2.2.2.2.2 = 7
    · rw [if_pos c7, if_pos c7]
      exact io _ _ (fun s' hs' => ⟨pOutput_wf hs' hw, pOutput_R hs'⟩) (k_42 (by omega) c7 h)
    rw [if_neg c7, if_neg c7]
    have p := k_43 (f := f) (sl := sl) hf hok hvi hF hw hnx h
    cases hX : pRule t F s with
    | inl x =>
      rw [hX] at p
      obtain ⟨S1, G1, m1, a1, a2, a3, a4⟩ := p
      refine ⟨S1, G1, m1, by rw [a1]; rfl, a2, a3, ?_, ?_, ?_⟩
      · rcases a4 with q | q
        · rw [q]; show nx + 13 * _ ≤ _; omega
        · rw [q]; show nx + 11 + 13 * _ ≤ _
          have : s.2.2.2.2.1.length ≠ 24 ∨ s.2.2.2.2.1.length = 24 := by omega
          rcases this with z | z
          · omega
          · -- then the rule is WRONG before anything is made
            rw [z]
            have e := st_43 (f := f) (m := (nx, sl)) hs h.1.2.1 k4 h.2.2.2.1.2.1 h.2.2.2.1.2.2.2.2.1.1 h.2.2.2.1.1 h.2.2.2.2.2.1.2.1.1 k2 k3
            rw [if_pos z, a1] at e
            injection e with e
            injection e with e1 e2
            unfold cWr cq_ex cq_mk at e2
            have := congrArg (fun T : xT_ => T.2.2.1) e2
            simp only at this
            rw [q] at this
            simp only at this
            omega
      · rcases a4 with q | q
        · rw [q]; show sl + 172 * _ + 2 * _ ≤ _; omega
        · rw [q]; show sl + 172 + 172 * _ + 2 * _ ≤ _
          have : s.2.2.2.2.1.length ≠ 24 ∨ s.2.2.2.2.1.length = 24 := by omega
          rcases this with z | z
          · omega
          · rw [z]
            have e := st_43 (f := f) (m := (nx, sl)) hs h.1.2.1 k4 h.2.2.2.1.2.1 h.2.2.2.1.2.2.2.2.1.1 h.2.2.2.1.1 h.2.2.2.2.2.1.2.1.1 k2 k3
            rw [if_pos z, a1] at e
            injection e with e
            injection e with e1 e2
            unfold cWr cq_ex cq_mk at e2
            have := congrArg (fun T : xT_ => T.2.2.1) e2
            simp only at this
            rw [q] at this
            simp only at this
            omega
      · rcases a4 with q | q <;> rw [q] <;> (first | exact Nat.le_refl _ | exact Nat.le_add_right _ _)
    | inr s' =>
      rw [hX] at p
      obtain ⟨S1, G1, sl1, a1, a2, a3, a4, a5, a6⟩ := p
      have w1 := pRule_wf hok hX hw
      have w2 := pRule_R hX
      have q' := ih (it + 1) fu s' S1 G1 (nx + 13) sl1 (by omega) (by omega) (by omega) w1 (by omega) a4
      have e1 : ((c43 f 72 (S, G, (nx, sl))).bind fun R => cth R (fun _ => c30_8 f fu 72 ((it + 1 : Nat) : Int) R.2)) = c30_8 f fu 72 ((it + 1 : Nat) : Int) (S1, G1, (nx + 13, sl1)) := by rw [a1]; rfl
      rw [e1]
      show pok (pProg t F K s') _ _
      cases hz : pProg t F K s' with
      | inl x =>
        rw [hz] at q'
        obtain ⟨S2, G2, m2, y1, y2, y3, y4, y5, y6⟩ := q'
        exact ⟨S2, G2, m2, y1, fun a ha => by rw [y2 a (by omega), a2 a ha], a3.tr (y3.mo (by omega)), by omega, by omega, by omega⟩
      | inr z =>
        rw [hz] at q'
        obtain ⟨S2, G2, nx2, sl2, y1, y2, y3, y4, y5, y6, y7⟩ := q'
        exact ⟨S2, G2, nx2, sl2, y1, fun a ha => by rw [y2 a (by omega), a2 a ha], a3.tr (y3.mo (by omega)), y4, by omega, by omega, by omega⟩
end
end
section
/-! THE CLASS: the TOKENS of its list are those of the text -/
theorem tenc_cg {b : Int} {d : Int → Int} {B C : Nat → Int} {s t : Nat} : ∀ k, (∀ j, j < k → d (B (s + j)) = d (C (t + j))) → tenc b d B s k = tenc b d C t k
  | 0, _ => rfl
  | k + 1, h => by
    rw [tenc_s, tenc_s, tenc_cg k (fun j hj => h j (by omega)), h k (by omega)]
theorem d63_ij {a b : Int} (ha : tVr a) (hb : tVr b) : d63 a = d63 b ↔ a = b := by
  refine ⟨fun h => ?_, fun h => by rw [h]⟩
  unfold tVr tGr tSm tDi at ha hb
  unfold d63 at h
  split at h <;> split at h <;> (try split at h) <;> (try split at h) <;> omega
theorem xdig_ij {a b : Int} (ha : tVr a) (hb : tVr b) : xdig a = xdig b ↔ a = b := by
  refine ⟨fun h => ?_, fun h => by rw [h]⟩
  unfold tVr tGr tSm tDi at ha hb
  unfold xdig at h
  repeat' split at h
  all_goals omega
section
variable {B : Nat → Int} {n N : Nat} {S : Nat → Nat × Nat × Nat} {G : xG_} {lm : Bool}
theorem kK_2 {i : Nat} (h : kK (tstr B n lm) i = 2) : tkd B n (tS B n i) = 2 := by
  have h' : (if 0 ≤ B (tS B n i) ∧ lm = true ∧ 62 ≤ i then (5 : Int) else tkd B n (tS B n i)) = 2 := h
  split at h'
  · cases h'
  · exact h'
/-- numbers of VARIABLES -/
theorem vIn_t (hB : tTx B n) : vIn (tstr B n lm) B n := by
  intro i j hi hj li lj
  obtain ⟨_, a2, a3⟩ := tkd_var (kK_2 hi)
  obtain ⟨_, b2, b3⟩ := tkd_var (kK_2 hj)
  obtain ⟨si, hsi⟩ : ∃ si, si = tS B n i := ⟨_, rfl⟩
  obtain ⟨sj, hsj⟩ : ∃ sj, sj = tS B n j := ⟨_, rfl⟩
  have hsin := (tS_le hB i).1
  have hsjn := (tS_le hB j).1
  have eE : ∀ k, tGr (B (tS B n k)) → ¬ tSm (B (tS B n k)) → ¬ B (tS B n k) < 0 → ten B n (tS B n k) = tvend B n (tS B n k) := fun k h1 h2 h3 => by
    unfold ten
    rw [if_neg h3, if_neg h2, if_pos h1]
  have ei := eE i a3 a2 (tkd_var (kK_2 hi)).1
  have ej := eE j b3 b2 (tkd_var (kK_2 hj)).1
  replace li : ten B n (tS B n i) - tS B n i ≤ 8 := li
  replace lj : ten B n (tS B n j) - tS B n j ≤ 8 := lj
  have vr : ∀ s, s ≤ n → ∀ k, k < tvend B n s - s → tVr (B (s + k)) := fun s hs k hk => by
    have := trun_is (P := tVr) hB (by decide) (n - s) s (Nat.le_refl _) hs
    exact this.2.2.1 (s + k) (by omega) (by unfold tvend at hk; omega)
  have vi := vr _ hsin
  have vj := vr _ hsjn
  show cco B n (tS B n i) = cco B n (tS B n j) ↔ tco B n (tS B n i) = tco B n (tS B n j)
  unfold cco tco
  rw [if_neg a2, if_pos a3, if_neg b2, if_pos b3, if_neg a2, if_pos a3, if_neg b2, if_pos b3]
  unfold tvco tvcode
  rw [← ei, ← ej, Nat.min_eq_left li, Nat.min_eq_left lj]
  rw [← ei] at vi
  rw [← ej] at vj
  refine ⟨fun h => ?_, fun h => ?_⟩
  · obtain ⟨e1, e2⟩ := tenc_inj _ _ (fun k hk => d63_in (vi k hk)) (fun k hk => d63_in (vj k hk)) h
    rw [e1]
    exact tenc_cg _ (fun k hk => by rw [(d63_ij (vi k (by omega)) (vj k hk)).mp (e2 k (by omega))])
  · obtain ⟨e1, e2⟩ := tenc_inj _ _ (fun k hk => tVr_dig (vi k hk)) (fun k hk => tVr_dig (vj k hk)) h
    rw [e1]
    exact tenc_cg _ (fun k hk => by rw [(xdig_ij (vi k (by omega)) (vj k hk)).mp (e2 k (by omega))])
theorem tS_end (hB : tTx B n) (h : tS B n N = n) : ∀ k, tS B n (N + k) = n
  | 0 => h
  | k + 1 => by
    have hb : B n < 0 := by rw [(hB n).2 (Nat.le_refl _)]; decide
    show tsk B n false (ten B n (tS B n (N + k))) = n
    rw [tS_end hB h k]
    have : ten B n n = n := by unfold ten; rw [if_pos hb]
    rw [this, tsk_eq hB _ (Nat.le_refl _), if_pos hb]
/-- the TOKENS of a text that is no CELL TEXT -/
theorem cEv_of (hs : cSs S) (hp : cPs G) (hx : cTx G B n) (h : cTks G B n N) : cEv S G B n (tstr B n false) N N := by
  obtain ⟨h1, h2, h3, h4, h5⟩ := h
  have hB := hx.2.2.1
  have hn := hx.2.1
  have kk : ∀ i, kK (tstr B n false) i = tkd B n (tS B n i) := fun i => if_neg (fun q => nomatch q.2.1)
  have hb : B n < 0 := by rw [(hB n).2 (Nat.le_refl _)]; decide
  refine ⟨hs, hp, hx, ⟨h2, by omega⟩, fun i hi => ?_, .inl rfl, fun i hi => ?_⟩
  · have e := tS_end hB h3 (i - N)
    rw [show N + (i - N) = i by omega] at e
    rw [kk]
    show tkd B n (tS B n i) = 0 ∧ tS B n i = tS B n N
    rw [e, h3]
    exact ⟨by unfold tkd; rw [if_pos hb], rfl⟩
  · obtain ⟨a1, a2, a3, a4, a5⟩ := h5 i (by omega)
    have hle := (tS_le hB i).1
    have he := ten_le hB hle
    rw [kk]
    refine ⟨⟨a1, a2, a3⟩, fun q => ?_, fun q => ?_, he.1, he.2.1, ?_, fun _ => a4⟩
    · rw [a4]
      show cco B n (tS B n i) = tco B n (tS B n i)
      unfold cco tco
      rcases q with q | q
      · have := (tkd_inv.2 q).2
        rw [if_pos this, if_pos this]
      · obtain ⟨_, b1, b2, b3⟩ := tkd_inv.1 q
        rw [if_neg b1, if_neg b2, if_neg b1, if_neg b2]
    · refine a5 ?_
      rcases q with q | q
      · exact .inl (tkd_inv.2 q).2
      · exact .inr (tkd_var q).2.2
    · show decide (tDi (B (ten B n (tS B n i)))) = true ↔ _
      rw [decide_eq_true_iff]
      exact Iff.rfl
end
end
section
/-! THE CLASS makes programs -/
theorem alcn' {α : Type} {c k nn x ci zn : Nat} {z : Int} {S : Nat → Nat × Nat × Nat} {G : xG_} {a sl : Nat} (a' sl' : Nat) {F : xT_ → Option α} (hx : S x = (1, c, nn)) (hxa : x ≠ a) (h0 : 0 ≤ z) (h1 : z ≤ 100000) (hz : z.toNat = zn) (ha : a + 1 = a') (hsl : sl + zn = sl') : ((cq_an ci z (S, G, a, sl)).bind fun p => ((cq_pr c k nn x p.1 p.2).bind F)) = F (xup1 S a (2, ci + 5, zn), xup2 (xz1 G a (fun _ => 0)) x k (a : Int), a', sl') := by
  have e : cq_an ci z (S, G, a, sl) = some (a, (xup1 S a (2, ci + 5, zn), xz1 G a (fun _ => 0), a', sl')) := by
    unfold cq_an
    rw [if_pos ⟨h0, by omega⟩, hz, ← ha, ← hsl]
    rfl
  rw [e, Option.bind_some]
  show ((cq_pr c k nn x a (xup1 S a (2, ci + 5, zn), xz1 G a (fun _ => 0), a', sl')).bind F) = _
  unfold cq_pr
  rw [if_pos (by show xup1 S a _ x = _; rw [xup1_n hxa]; exact hx)]
  rfl
def pSn (S : Nat → Nat × Nat × Nat) (q : Nat) : Nat → Nat × Nat × Nat := (xup1 (xup1 (xup1 (xup1 (xup1 (xup1 (xup1 (xup1 (xup1 (xup1 S (q + 1) (2, 4, 16)) (q + 2) (2, 3, 16)) (q + 3) (2, 3, 16)) (q + 4) (2, 0, 16)) (q + 5) (2, 0, 16)) (q + 6) (2, 0, 16)) (q + 7) (2, 11, 24)) (q + 8) (2, 3, 16)) (q + 9) (2, 3, 16)) (q + 10) (2, 3, 16))
def pGn (G : xG_) (q : Nat) : xG_ := (xup2 (xz1 (xup2 (xz1 (xup2 (xz1 (xup2 (xz1 (xup2 (xz1 (xup2 (xz1 (xup2 (xz1 (xup2 (xz1 (xup2 (xz1 (xup2 (xz1 G (q + 1) (fun _ => 0)) q 2 ((q + 1 : Nat) : Int)) (q + 2) (fun _ => 0)) q 3 ((q + 2 : Nat) : Int)) (q + 3) (fun _ => 0)) q 4 ((q + 3 : Nat) : Int)) (q + 4) (fun _ => 0)) q 5 ((q + 4 : Nat) : Int)) (q + 5) (fun _ => 0)) q 6 ((q + 5 : Nat) : Int)) (q + 6) (fun _ => 0)) q 7 ((q + 6 : Nat) : Int)) (q + 7) (fun _ => 0)) q 9 ((q + 7 : Nat) : Int)) (q + 8) (fun _ => 0)) q 10 ((q + 8 : Nat) : Int)) (q + 9) (fun _ => 0)) q 11 ((q + 9 : Nat) : Int)) (q + 10) (fun _ => 0)) q 13 ((q + 10 : Nat) : Int))
section
variable {f q sl : Nat} {S : Nat → Nat × Nat × Nat} {G : xG_} {v : Int}
theorem k_19e (hq : 0 < q) (hS : S q = (1, 3, 14)) : c19 f q v (S, G, (q + 1, sl)) = some (pSn S q, xup2 (pGn G q) q 0 v, (q + 11, sl + 168)) := by
  have n1 : q ≠ q + 1 := by omega
  have n2 : q ≠ q + 2 := by omega
  have n3 : q ≠ q + 3 := by omega
  have n4 : q ≠ q + 4 := by omega
  have n5 : q ≠ q + 5 := by omega
  have n6 : q ≠ q + 6 := by omega
  have n7 : q ≠ q + 7 := by omega
  have n8 : q ≠ q + 8 := by omega
  have n9 : q ≠ q + 9 := by omega
  have n10 : q ≠ q + 10 := by omega
  unfold c19
  rw [xq_nz, if_neg (Nat.ne_of_gt hq), Option.bind_some]
  rw [alc' (zn := 16) (a := q + 1) (q + 2) (sl + 16) hS n1 (by decide) (by decide) (by decide) rfl rfl rfl]
  rw [alc' (zn := 16) (a := q + 2) (q + 3) (sl + 32) (by rw [xup1_n n1]; exact hS) n2 (by decide) (by decide) (by decide) rfl rfl (Nat.add_assoc sl _ _)]
  rw [alc' (zn := 16) (a := q + 3) (q + 4) (sl + 48) (by rw [xup1_n n2, xup1_n n1]; exact hS) n3 (by decide) (by decide) (by decide) rfl rfl (Nat.add_assoc sl _ _)]
  rw [alc' (zn := 16) (a := q + 4) (q + 5) (sl + 64) (by rw [xup1_n n3, xup1_n n2, xup1_n n1]; exact hS) n4 (by decide) (by decide) (by decide) rfl rfl (Nat.add_assoc sl _ _)]
  rw [alc' (zn := 16) (a := q + 5) (q + 6) (sl + 80) (by rw [xup1_n n4, xup1_n n3, xup1_n n2, xup1_n n1]; exact hS) n5 (by decide) (by decide) (by decide) rfl rfl (Nat.add_assoc sl _ _)]
  rw [alc' (zn := 16) (a := q + 6) (q + 7) (sl + 96) (by rw [xup1_n n5, xup1_n n4, xup1_n n3, xup1_n n2, xup1_n n1]; exact hS) n6 (by decide) (by decide) (by decide) rfl rfl (Nat.add_assoc sl _ _)]
  rw [alcn' (zn := 24) (a := q + 7) (q + 8) (sl + 120) (by rw [xup1_n n6, xup1_n n5, xup1_n n4, xup1_n n3, xup1_n n2, xup1_n n1]; exact hS) n7 (by decide) (by decide) rfl rfl (Nat.add_assoc sl _ _)]
  rw [alc' (zn := 16) (a := q + 8) (q + 9) (sl + 136) (by rw [xup1_n n7, xup1_n n6, xup1_n n5, xup1_n n4, xup1_n n3, xup1_n n2, xup1_n n1]; exact hS) n8 (by decide) (by decide) (by decide) rfl rfl (Nat.add_assoc sl _ _)]
  rw [alc' (zn := 16) (a := q + 9) (q + 10) (sl + 152) (by rw [xup1_n n8, xup1_n n7, xup1_n n6, xup1_n n5, xup1_n n4, xup1_n n3, xup1_n n2, xup1_n n1]; exact hS) n9 (by decide) (by decide) (by decide) rfl rfl (Nat.add_assoc sl _ _)]
  rw [alc' (zn := 16) (a := q + 10) (q + 11) (sl + 168) (by rw [xup1_n n9, xup1_n n8, xup1_n n7, xup1_n n6, xup1_n n5, xup1_n n4, xup1_n n3, xup1_n n2, xup1_n n1]; exact hS) n10 (by decide) (by decide) (by decide) rfl rfl (Nat.add_assoc sl _ _)]
  unfold pSn pGn
  unfold cq_p
  rw [if_pos (by show xup1 _ _ _ q = _; rw [xup1_n n10, xup1_n n9, xup1_n n8, xup1_n n7, xup1_n n6, xup1_n n5, xup1_n n4, xup1_n n3, xup1_n n2, xup1_n n1]; exact hS)]
  rfl
theorem pSn_lt (a : Nat) (ha : a ≤ q) : pSn S q a = S a := by
  unfold pSn
  rw [xup1_n (Nat.ne_of_lt (Nat.lt_of_le_of_lt ha (Nat.lt_add_of_pos_right (by decide)))), xup1_n (Nat.ne_of_lt (Nat.lt_of_le_of_lt ha (Nat.lt_add_of_pos_right (by decide)))), xup1_n (Nat.ne_of_lt (Nat.lt_of_le_of_lt ha (Nat.lt_add_of_pos_right (by decide)))), xup1_n (Nat.ne_of_lt (Nat.lt_of_le_of_lt ha (Nat.lt_add_of_pos_right (by decide)))), xup1_n (Nat.ne_of_lt (Nat.lt_of_le_of_lt ha (Nat.lt_add_of_pos_right (by decide)))), xup1_n (Nat.ne_of_lt (Nat.lt_of_le_of_lt ha (Nat.lt_add_of_pos_right (by decide)))), xup1_n (Nat.ne_of_lt (Nat.lt_of_le_of_lt ha (Nat.lt_add_of_pos_right (by decide)))), xup1_n (Nat.ne_of_lt (Nat.lt_of_le_of_lt ha (Nat.lt_add_of_pos_right (by decide)))), xup1_n (Nat.ne_of_lt (Nat.lt_of_le_of_lt ha (Nat.lt_add_of_pos_right (by decide)))), xup1_n (Nat.ne_of_lt (Nat.lt_of_le_of_lt ha (Nat.lt_add_of_pos_right (by decide))))]
theorem pGn_lt (a j : Nat) (ha : a ≠ q) (h : a < q) : pGn G q a j = G a j := by
  unfold pGn
  rw [xup2_n (fun y => ha y.1), xz1_n _ (Nat.ne_of_lt (Nat.lt_add_right _ h)), xup2_n (fun y => ha y.1), xz1_n _ (Nat.ne_of_lt (Nat.lt_add_right _ h)), xup2_n (fun y => ha y.1), xz1_n _ (Nat.ne_of_lt (Nat.lt_add_right _ h)), xup2_n (fun y => ha y.1), xz1_n _ (Nat.ne_of_lt (Nat.lt_add_right _ h)), xup2_n (fun y => ha y.1), xz1_n _ (Nat.ne_of_lt (Nat.lt_add_right _ h)), xup2_n (fun y => ha y.1), xz1_n _ (Nat.ne_of_lt (Nat.lt_add_right _ h)), xup2_n (fun y => ha y.1), xz1_n _ (Nat.ne_of_lt (Nat.lt_add_right _ h)), xup2_n (fun y => ha y.1), xz1_n _ (Nat.ne_of_lt (Nat.lt_add_right _ h)), xup2_n (fun y => ha y.1), xz1_n _ (Nat.ne_of_lt (Nat.lt_add_right _ h)), xup2_n (fun y => ha y.1), xz1_n _ (Nat.ne_of_lt (Nat.lt_add_right _ h))]
theorem pSn_s (hS : S q = (1, 3, 14)) : cPgS (pSn S q) q := by
  refine ⟨by rw [pSn_lt q (Nat.le_refl q)]; exact hS, ?_, ?_, ?_, ?_, ?_, ?_, ?_, ?_, ?_, ?_⟩
  · unfold pSn; rw [xup1_n (by omega), xup1_n (by omega), xup1_n (by omega), xup1_n (by omega), xup1_n (by omega), xup1_n (by omega), xup1_n (by omega), xup1_n (by omega), xup1_n (by omega), xup1_s]
  · unfold pSn; rw [xup1_n (by omega), xup1_n (by omega), xup1_n (by omega), xup1_n (by omega), xup1_n (by omega), xup1_n (by omega), xup1_n (by omega), xup1_n (by omega), xup1_s]
  · unfold pSn; rw [xup1_n (by omega), xup1_n (by omega), xup1_n (by omega), xup1_n (by omega), xup1_n (by omega), xup1_n (by omega), xup1_n (by omega), xup1_s]
  · unfold pSn; rw [xup1_n (by omega), xup1_n (by omega), xup1_n (by omega), xup1_n (by omega), xup1_n (by omega), xup1_n (by omega), xup1_s]
  · unfold pSn; rw [xup1_n (by omega), xup1_n (by omega), xup1_n (by omega), xup1_n (by omega), xup1_n (by omega), xup1_s]
  · unfold pSn; rw [xup1_n (by omega), xup1_n (by omega), xup1_n (by omega), xup1_n (by omega), xup1_s]
  · unfold pSn; rw [xup1_n (by omega), xup1_n (by omega), xup1_n (by omega), xup1_s]
  · unfold pSn; rw [xup1_n (by omega), xup1_n (by omega), xup1_s]
  · unfold pSn; rw [xup1_n (by omega), xup1_s]
  · unfold pSn; rw [xup1_s]
theorem pGn_p : cPgP (pGn G q) q := by
  refine ⟨?_, ?_, ?_, ?_, ?_, ?_, ?_, ?_, ?_, ?_⟩
  · unfold pGn; rw [xup2_n (by omega), xz1_n _ (by omega), xup2_n (by omega), xz1_n _ (by omega), xup2_n (by omega), xz1_n _ (by omega), xup2_n (by omega), xz1_n _ (by omega), xup2_n (by omega), xz1_n _ (by omega), xup2_n (by omega), xz1_n _ (by omega), xup2_n (by omega), xz1_n _ (by omega), xup2_n (by omega), xz1_n _ (by omega), xup2_n (by omega), xz1_n _ (by omega), xup2_s]
  · unfold pGn; rw [xup2_n (by omega), xz1_n _ (by omega), xup2_n (by omega), xz1_n _ (by omega), xup2_n (by omega), xz1_n _ (by omega), xup2_n (by omega), xz1_n _ (by omega), xup2_n (by omega), xz1_n _ (by omega), xup2_n (by omega), xz1_n _ (by omega), xup2_n (by omega), xz1_n _ (by omega), xup2_n (by omega), xz1_n _ (by omega), xup2_s]
  · unfold pGn; rw [xup2_n (by omega), xz1_n _ (by omega), xup2_n (by omega), xz1_n _ (by omega), xup2_n (by omega), xz1_n _ (by omega), xup2_n (by omega), xz1_n _ (by omega), xup2_n (by omega), xz1_n _ (by omega), xup2_n (by omega), xz1_n _ (by omega), xup2_n (by omega), xz1_n _ (by omega), xup2_s]
  · unfold pGn; rw [xup2_n (by omega), xz1_n _ (by omega), xup2_n (by omega), xz1_n _ (by omega), xup2_n (by omega), xz1_n _ (by omega), xup2_n (by omega), xz1_n _ (by omega), xup2_n (by omega), xz1_n _ (by omega), xup2_n (by omega), xz1_n _ (by omega), xup2_s]
  · unfold pGn; rw [xup2_n (by omega), xz1_n _ (by omega), xup2_n (by omega), xz1_n _ (by omega), xup2_n (by omega), xz1_n _ (by omega), xup2_n (by omega), xz1_n _ (by omega), xup2_n (by omega), xz1_n _ (by omega), xup2_s]
  · unfold pGn; rw [xup2_n (by omega), xz1_n _ (by omega), xup2_n (by omega), xz1_n _ (by omega), xup2_n (by omega), xz1_n _ (by omega), xup2_n (by omega), xz1_n _ (by omega), xup2_s]
  · unfold pGn; rw [xup2_n (by omega), xz1_n _ (by omega), xup2_n (by omega), xz1_n _ (by omega), xup2_n (by omega), xz1_n _ (by omega), xup2_s]
  · unfold pGn; rw [xup2_n (by omega), xz1_n _ (by omega), xup2_n (by omega), xz1_n _ (by omega), xup2_s]
  · unfold pGn; rw [xup2_n (by omega), xz1_n _ (by omega), xup2_s]
  · unfold pGn; rw [xup2_s]
theorem pGn_f (j : Nat) (hj : j = 0 ∨ j = 1 ∨ j = 8 ∨ j = 12) : pGn G q q j = G q j := by
  unfold pGn
  rw [xup2_n (by omega), xz1_n _ (by omega), xup2_n (by omega), xz1_n _ (by omega), xup2_n (by omega), xz1_n _ (by omega), xup2_n (by omega), xz1_n _ (by omega), xup2_n (by omega), xz1_n _ (by omega), xup2_n (by omega), xz1_n _ (by omega), xup2_n (by omega), xz1_n _ (by omega), xup2_n (by omega), xz1_n _ (by omega), xup2_n (by omega), xz1_n _ (by omega), xup2_n (by omega), xz1_n _ (by omega)]
theorem pGn_z (a j : Nat) (h1 : q < a) (h2 : a ≤ q + 10) : pGn G q a j = 0 := by
  have n0 : a ≠ q := by omega
  unfold pGn
  rw [xup2_n (fun y => n0 y.1)]
  by_cases c10 : a = q + 10
  · rw [c10, xz1_s]
  rw [xz1_n _ c10]
  rw [xup2_n (fun y => n0 y.1)]
  by_cases c9 : a = q + 9
  · rw [c9, xz1_s]
  rw [xz1_n _ c9]
  rw [xup2_n (fun y => n0 y.1)]
  by_cases c8 : a = q + 8
  · rw [c8, xz1_s]
  rw [xz1_n _ c8]
  rw [xup2_n (fun y => n0 y.1)]
  by_cases c7 : a = q + 7
  · rw [c7, xz1_s]
  rw [xz1_n _ c7]
  rw [xup2_n (fun y => n0 y.1)]
  by_cases c6 : a = q + 6
  · rw [c6, xz1_s]
  rw [xz1_n _ c6]
  rw [xup2_n (fun y => n0 y.1)]
  by_cases c5 : a = q + 5
  · rw [c5, xz1_s]
  rw [xz1_n _ c5]
  rw [xup2_n (fun y => n0 y.1)]
  by_cases c4 : a = q + 4
  · rw [c4, xz1_s]
  rw [xz1_n _ c4]
  rw [xup2_n (fun y => n0 y.1)]
  by_cases c3 : a = q + 3
  · rw [c3, xz1_s]
  rw [xz1_n _ c3]
  rw [xup2_n (fun y => n0 y.1)]
  by_cases c2 : a = q + 2
  · rw [c2, xz1_s]
  rw [xz1_n _ c2]
  rw [xup2_n (fun y => n0 y.1)]
  by_cases c1 : a = q + 1
  · rw [c1, xz1_s]
  rw [xz1_n _ c1]
  exact absurd h2 (by omega)
/-- new Program() -/
theorem k_19 (hq : 0 < q) : ∃ S' G', c19 f q v (xup1 S q (1, 3, 14), xz1 G q (fun _ => 0), (q + 1, sl)) = some (S', G', (q + 11, sl + 168)) ∧ (∀ a, a < q → S' a = S a) ∧ (∀ a j, a < q → G' a j = G a j) ∧ cPgS S' q ∧ cPgP G' q ∧ G' q 0 = v ∧ G' q 1 = 0 ∧ G' q 8 = 0 ∧ G' q 12 = 0 ∧ ∀ a j, q < a → a ≤ q + 10 → G' a j = 0 := by
  refine ⟨_, _, k_19e hq (xup1_s _ _ _), fun a ha => by rw [pSn_lt a (by omega), xup1_n (by omega)], fun a j ha => by rw [xup2_n (by omega), pGn_lt a j (by omega) ha, xz1_n _ (by omega)], pSn_s (xup1_s _ _ _), (pGn_p).ge (fun j h1 _ _ => xup2_n (by omega)), xup2_s _ _ _ _, ?_, ?_, ?_, fun a j h1 h2 => by rw [xup2_n (by omega), pGn_z a j h1 h2]⟩
  · rw [xup2_n (by omega), pGn_f 1 (by omega), xz1_s]
  · rw [xup2_n (by omega), pGn_f 8 (by omega), xz1_s]
  · rw [xup2_n (by omega), pGn_f 12 (by omega), xz1_s]
end
end
section
/-! THE CLASS: readProgram() -/
/-- what reading leaves as it was, below nx -/
def xFR (nx : Nat) (G G' : xG_) : Prop := ∀ a j, a < nx → ¬ (a = 72 ∧ (1 ≤ j ∧ j ≤ 6 ∨ j = 9 ∨ j = 12 ∨ j = 14)) → ¬ (73 ≤ a ∧ a ≤ 82) → G' a j = G a j
def bUp (G : xG_) (q : Nat) (b : Int) : xG_ := xup2 (xup2 (xup2 (xup2 (xup2 G 72 3 (q : Int)) 72 4 b) 72 1 0) 72 9 0) 72 14 0
section
variable {f n N w q F nx sl : Nat} {S : Nat → Nat × Nat × Nat} {G G' : xG_} {m : Nat × Nat} {B : Nat → Int} {t : tStr} {b : Int}
theorem bUp_n (a j : Nat) (h : ¬ (a = 72 ∧ (j = 1 ∨ j = 3 ∨ j = 4 ∨ j = 9 ∨ j = 14))) : bUp G q b a j = G a j := by
  unfold bUp
  rw [xup2_n (fun y => h ⟨y.1, by omega⟩), xup2_n (fun y => h ⟨y.1, by omega⟩), xup2_n (fun y => h ⟨y.1, by omega⟩), xup2_n (fun y => h ⟨y.1, by omega⟩), xup2_n (fun y => h ⟨y.1, by omega⟩)]
theorem bUp_s : bUp G q b 72 3 = (q : Int) ∧ bUp G q b 72 4 = b ∧ bUp G q b 72 1 = 0 ∧ bUp G q b 72 9 = 0 ∧ bUp G q b 72 14 = 0 := by
  unfold bUp
  refine ⟨?_, ?_, ?_, ?_, xup2_s _ _ _ _⟩
  · rw [xup2_n (by omega), xup2_n (by omega), xup2_n (by omega), xup2_n (by omega), xup2_s]
  · rw [xup2_n (by omega), xup2_n (by omega), xup2_n (by omega), xup2_s]
  · rw [xup2_n (by omega), xup2_n (by omega), xup2_s]
  · rw [xup2_n (by omega), xup2_s]
/-- begin() -/
theorem k_34 (hs : cSs S) (hb : b = 0 ∨ b = 1) : c34 f 72 q b (S, G, m) = some (S, bUp G q b, m) := by
  have e : ∀ G : xG_, cq_pb 4 4 20 72 b (S, G, m) = some (S, xup2 G 72 4 b, m) := fun G => if_pos ⟨s72 hs, hb⟩
  unfold c34 bUp
  simp (disch := omega) only [cq_gi, cq_gr, cq_a, cq_s, cq_p, cq_pr, cq_is, cq_ar, cq_ab, cq_ln, xq_nz, Option.bind_some, xup2_n, xup2_s, Int.toNat_natCast, Int.reduceToNat, if_pos, if_neg, true_and, and_true, and_self, eq_self, if_true, reduceIte, not_true_eq_false, not_false_eq_true, or_true, true_or, s72 hs, e]
theorem bUp_e (hE : cEv S G B n t N w) : cEv S (bUp G q b) B n t N w := hE.ge (fun _ _ => rfl) (fun a j z1 z2 z3 => bUp_n a j (by omega))
/-- a program before its first TOKEN -/
theorem cPS_0 (hE : cEv S G B n t N N) (hq : 278 < q) (hnx : q + 10 < nx) (h1 : cPgS S q) (h2 : cPgP G q) (h3 : G q 1 = 0) (h4 : G q 8 = 0) (h5 : G q 12 = 0) (h6 : ∀ a j, q < a → a ≤ q + 10 → G a j = 0) : cPS S (bUp G q 1) B n t N N q nx ([], [], [], [], [], 0) := by
  obtain ⟨b1, b2, b3, b4, b5⟩ := bUp_s (G := G) (q := q) (b := 1)
  have z : ∀ a j, a ≠ 72 → bUp G q 1 a j = G a j := fun a j h => bUp_n a j (fun y => h y.1)
  have zz : ∀ a j, q < a → a ≤ q + 10 → bUp G q 1 a j = 0 := fun a j y1 y2 => by rw [z a j (by omega)]; exact h6 a j y1 y2
  refine ⟨bUp_e hE, ⟨?_, .inr rfl⟩, Nat.zero_le _, ⟨b1, by omega, fun _ => hq, b2, h1, h2.ge (fun j _ _ _ => z q j (by omega)), by rw [z q 1 (by omega), h3]; rfl, by decide, fun k hk => absurd hk (Nat.not_lt_zero k)⟩, ⟨⟨b5, fun k hk => absurd hk (Nat.not_lt_zero k)⟩, fun p _ => zz _ _ (by omega) (by omega), fun k hk => absurd hk (Nat.not_lt_zero k), Nat.le_refl _⟩, ⟨fun p _ => ⟨zz _ _ (by omega) (by omega), zz _ _ (by omega) (by omega), zz _ _ (by omega) (by omega)⟩, ⟨by rw [z q 8 (by omega), h4]; rfl, by decide, fun r hr => absurd hr (Nat.not_lt_zero r)⟩, fun a j y1 y2 => zz a j (by omega) y2, by rw [z q 12 (by omega)]; exact h5⟩, fun p _ => zz _ _ (by omega) (by omega), hnx⟩
  rw [b3]
  show (0 : Int) = ((min 0 N : Nat) : Int)
  rw [Nat.zero_min]
  rfl
theorem xFp.fr (h : xFp q nx (bUp G q 1) G') (hq : 278 < q) (hn : q ≤ nx) : xFR q G G' := fun a j z1 z2 z3 => by
  by_cases c : a < nx
  · rw [h a j c (by omega) (by omega) (by omega), bUp_n a j (by omega)]
  · omega
theorem k_30 {K : Nat} (hf : 3010 < f) (hok : tOk t) (hvi : vIn t B n) (hF : 4 * N + 2 ≤ F) (hK : N < K) (hE : cEv S G B n t N N) (hq : 278 < q) (hnx : nx = q + 11) (h1 : cPgS S q) (h2 : cPgP G q) (h3 : G q 1 = 0) (h4 : G q 8 = 0) (h5 : G q 12 = 0) (h6 : ∀ a j, q < a → a ≤ q + 10 → G a j = 0) :
    pok (pProg t F K ([], [], [], [], [], 0)) (fun x => ∃ S' G' m', c30 f 72 q (S, G, (nx, sl)) = some (.inl 0, cWr S' G' m' (x : Int)) ∧ (∀ a, a < nx → S' a = S a) ∧ xFR q G G' ∧ nx ≤ m'.1 ∧ m'.1 ≤ nx + 312 ∧ m'.2 ≤ sl + 10128)
      (fun s => ∃ S' G' nx' sl', c30 f 72 q (S, G, (nx, sl)) = some (.inr (), (S', G', (nx', sl'))) ∧ (∀ a, a < nx → S' a = S a) ∧ xFR q G G' ∧ cPS S' G' B n t N N q nx' s ∧ nx ≤ nx' ∧ nx' ≤ nx + 312 ∧ sl' ≤ sl + 10128 ∧ G' q 0 = G q 0) := by
  have hs := hE.1
  have hN := hE.2.2.2.1.2
  have p0 := cPS_0 hE hq (by omega : q + 10 < nx) h1 h2 h3 h4 h5 h6
  have p := k_30l (f := f) (N := N) (w := N) hf hok hvi hF K 0 f ([], [], [], [], [], 0) S (bUp G q 1) nx sl (Nat.le_refl _) (by show N < K + 0; omega) (by omega) wPg_0 (by omega) p0
  have e1 : c30 f 72 q (S, G, (nx, sl)) = c30_8 f f 72 ((0 : Nat) : Int) (S, bUp G q 1, (nx, sl)) := by
    unfold c30
    rw [show cq_is 4 20 72 (S, G, (nx, sl)) = some () from if_pos (s72 hs), Option.bind_some, k_34 hs (.inr rfl), Option.bind_some]
    rfl
  rw [e1]
  cases hz : pProg t F K ([], [], [], [], [], 0) with
  | inl x =>
    rw [hz] at p
    obtain ⟨S1, G1, m1, a1, a2, a3, a4, a5, a6⟩ := p
    replace a4 : m1.1 + 13 * 0 ≤ nx + 312 := a4
    replace a5 : m1.2 + 172 * 0 + 2 * 0 ≤ sl + 4128 + 6000 := a5
    exact ⟨S1, G1, m1, a1, a2, a3.fr hq (by omega), a6, by omega, by omega⟩
  | inr s =>
    rw [hz] at p
    obtain ⟨S1, G1, nx1, sl1, a1, a2, a3, a4, a5, a6, a7⟩ := p
    have r24 := a4.2.2.2.2.2.1.2.1.2.1
    have tN := a4.2.2.1
    replace a5 : nx1 + 13 * 0 = nx + 13 * s.2.2.2.2.1.length := a5
    replace a6 : sl1 + 172 * 0 + 2 * 0 ≤ sl + 172 * s.2.2.2.2.1.length + 2 * s.2.2.2.2.2 := a6
    exact ⟨S1, G1, nx1, sl1, a1, a2, a3.fr hq (by omega), a4, by omega, by omega, by omega, by rw [a3 q 0 (by omega) (by omega) (by omega) (by omega), bUp_n _ _ (by omega)]⟩
end
end
section
/-! THE CLASS: what is bound in a rule -/
def qC1 (x : pLt) (b : Nat) : Nat := match qBh x b with
  | some y => y
  | none => b
def qCl : List pLt → Nat → Nat
  | [], b => b
  | x :: r, b => qCl r (qC1 x b)
def qCi (Ls : List pLt) : Nat → Nat → Nat
  | 0, b => b
  | k + 1, b => qCi Ls k (qCl Ls b)
theorem qSub_r (a : Nat) : qSub a a := Nat.or_self a
theorem qSub_tr {a b c : Nat} (h : qSub a b) (h' : qSub b c) : qSub a c := qSub_t.mpr (fun j hj => qSub_t.mp h' j (qSub_t.mp h j hj))
theorem qSub_as {a b : Nat} (h : qSub a b) (h' : qSub b a) : a = b := by rw [← h', Nat.or_comm]; exact h
theorem sub_or_l (a b : Nat) : qSub a (a ||| b) := qSub_t.mpr (fun j hj => by rw [Nat.testBit_or, hj, Bool.true_or])
theorem sub_or_r (a b : Nat) : qSub b (a ||| b) := qSub_t.mpr (fun j hj => by rw [Nat.testBit_or, hj, Bool.or_true])
theorem or_sub2 {a b c : Nat} (h : qSub a c) (h' : qSub b c) : qSub (a ||| b) c := qSub_t.mpr (fun j hj => by
  rw [Nat.testBit_or, Bool.or_eq_true] at hj
  rcases hj with q | q
  · exact qSub_t.mp h j q
  · exact qSub_t.mp h' j q)
theorem qC1_up {x : pLt} {b nv : Nat} (hw : wLv nv x) (hnv : nv ≤ 8) (hb : b < 2 ^ 8) : qSub b (qC1 x b) ∧ qC1 x b < 2 ^ 8 := by
  unfold qC1
  cases h : qBh x b with
  | none => exact ⟨qSub_r b, hb⟩
  | some y =>
    obtain ⟨e1, e2⟩ := qBh_some hw hnv hb h
    exact ⟨by rw [e1]; exact sub_or_l _ _, e2⟩
theorem qCl_up {nv : Nat} (hnv : nv ≤ 8) : ∀ {Ls : List pLt} {b : Nat}, (∀ y ∈ Ls, wLv nv y) → b < 2 ^ 8 → qSub b (qCl Ls b) ∧ qCl Ls b < 2 ^ 8
  | [], b, _, hb => ⟨qSub_r b, hb⟩
  | x :: r, b, hw, hb => by
    obtain ⟨a1, a2⟩ := qC1_up (hw x (List.mem_cons_self ..)) hnv hb
    obtain ⟨b1, b2⟩ := qCl_up hnv (fun y hy => hw y (List.mem_cons_of_mem _ hy)) a2
    exact ⟨qSub_tr a1 b1, b2⟩
/-- where nothing more comes -/
theorem qCl_fix {nv : Nat} (hnv : nv ≤ 8) : ∀ {Ls : List pLt} {b : Nat}, (∀ y ∈ Ls, wLv nv y) → b < 2 ^ 8 → qCl Ls b = b → ∀ y ∈ Ls, qC1 y b = b
  | [], _, _, _, _ => fun y hy => by cases hy
  | x :: r, b, hw, hb, h => by
    obtain ⟨a1, a2⟩ := qC1_up (hw x (List.mem_cons_self ..)) hnv hb
    obtain ⟨b1, b2⟩ := qCl_up hnv (Ls := r) (fun y hy => hw y (List.mem_cons_of_mem _ hy)) a2
    have h' : qCl r (qC1 x b) = b := h
    rw [h'] at b1
    have e : qC1 x b = b := qSub_as b1 a1
    intro y hy
    rcases List.mem_cons.mp hy with q | q
    · rw [q]; exact e
    · rw [e] at h'
      exact qCl_fix hnv (fun y hy => hw y (List.mem_cons_of_mem _ hy)) hb h' y q
/-- how many bits of eight -/
def pc8 (a : Nat) : Nat := ((List.range 8).filter (fun k => a.testBit k)).length
theorem pc8_le (a : Nat) : pc8 a ≤ 8 := by
  unfold pc8
  have := List.length_filter_le (fun k => a.testBit k) (List.range 8)
  rw [List.length_range] at this
  exact this
theorem filt_lt {α : Type} {p q : α → Bool} : ∀ {l : List α}, (∀ x ∈ l, p x = true → q x = true) → (l.filter p).length ≤ (l.filter q).length ∧ ((∃ x ∈ l, q x = true ∧ p x = false) → (l.filter p).length < (l.filter q).length)
  | [], _ => ⟨Nat.le_refl _, fun ⟨x, hx, _⟩ => by cases hx⟩
  | a :: l, h => by
    obtain ⟨i1, i2⟩ := filt_lt (l := l) (fun x hx => h x (List.mem_cons_of_mem _ hx))
    have ha := h a (List.mem_cons_self ..)
    cases hp : p a with
    | true =>
      rw [List.filter_cons_of_pos hp, List.filter_cons_of_pos (ha hp), List.length_cons, List.length_cons]
      refine ⟨by omega, fun ⟨x, hx, q1, q2⟩ => ?_⟩
      rcases List.mem_cons.mp hx with z | z
      · rw [z, hp] at q2; cases q2
      · have := i2 ⟨x, z, q1, q2⟩; omega
    | false =>
      rw [List.filter_cons_of_neg (by rw [hp]; decide)]
      cases hq : q a with
      | true => rw [List.filter_cons_of_pos hq, List.length_cons]; exact ⟨by omega, fun _ => by omega⟩
      | false =>
        rw [List.filter_cons_of_neg (by rw [hq]; decide)]
        refine ⟨i1, fun ⟨x, hx, q1, q2⟩ => ?_⟩
        rcases List.mem_cons.mp hx with z | z
        · rw [z, hq] at q1; cases q1
        · exact i2 ⟨x, z, q1, q2⟩
theorem pc8_lt {a b : Nat} (hb : b < 2 ^ 8) (h : qSub a b) (hne : a ≠ b) : pc8 a < pc8 b := by
  unfold pc8
  refine (filt_lt (l := List.range 8) (p := fun k => a.testBit k) (q := fun k => b.testBit k) (fun x _ hx => qSub_t.mp h x hx)).2 ?_
  refine Classical.byContradiction (fun hno => hne (Nat.eq_of_testBit_eq (fun k => ?_)))
  by_cases ck : k < 8
  · cases ha : a.testBit k with
    | true => exact (qSub_t.mp h k ha).symm
    | false =>
      cases hbk : b.testBit k with
      | false => rfl
      | true => exact absurd ⟨k, List.mem_range.mpr ck, hbk, ha⟩ hno
  · have hbk : b.testBit k = false := Nat.testBit_lt_two_pow (Nat.lt_of_lt_of_le hb (Nat.pow_le_pow_right (by decide) (by omega)))
    cases ha : a.testBit k with
    | true => have := qSub_t.mp h k ha; rw [hbk] at this; cases this
    | false => exact hbk.symm
theorem qCi_fix {nv : Nat} {Ls : List pLt} (hnv : nv ≤ 8) (hw : ∀ y ∈ Ls, wLv nv y) : ∀ (k b : Nat), b < 2 ^ 8 → 8 < k + pc8 b → qCl Ls (qCi Ls k b) = qCi Ls k b ∧ qCi Ls k b < 2 ^ 8
  | 0, b, hb, h => by have := pc8_le b; omega
  | k + 1, b, hb, h => by
    obtain ⟨a1, a2⟩ := qCl_up hnv hw hb
    by_cases c : b = qCl Ls b
    · have : ∀ j, qCi Ls j b = b := fun j => by
        induction j with
        | zero => rfl
        | succ j ih => show qCi Ls j (qCl Ls b) = b; rw [← c]; exact ih
      rw [this]
      exact ⟨c.symm, hb⟩
    · have := pc8_lt a2 a1 c
      exact qCi_fix hnv hw k (qCl Ls b) a2 (by omega)
end
section
/-! THE CLASS binds what the reference binds -/
theorem wLt.lv {np nv : Nat} {y : pLt} (h : wLt np nv y) : wLv nv y := by
  rcases h with ⟨c1, _, _, _, _, c2⟩ | ⟨c1, _, c2, c3⟩
  · exact .inl ⟨c1, c2⟩
  · exact .inr ⟨c1, c2.1, c3.1⟩
theorem qIt_fix {np nv : Nat} {l : List pLt} (h : ∀ y ∈ l, wLt np nv y) (hv : nv ≤ 8) : ∀ (k s : Nat), s < 2 ^ 8 → 256 ≤ s + k → qSt l (qIt l k s) = qIt l k s
  | 0, s, hs, hk => by omega
  | k + 1, s, hs, hk => by
    show qSt l (if qSt l s = s then s else qIt l k (qSt l s)) = if qSt l s = s then s else qIt l k (qSt l s)
    by_cases c : qSt l s = s
    · rw [if_pos c]; exact c
    · rw [if_neg c]
      obtain ⟨a1, a2⟩ := qSt_lt h hv s hs
      exact qIt_fix h hv k (qSt l s) a1 (by omega)
theorem qIt_up {l : List pLt} (hup : ∀ s, qSub s (qSt l s)) : ∀ (k s : Nat), qSub s (qIt l k s)
  | 0, s => qSub_r s
  | k + 1, s => by
    show qSub s (if qSt l s = s then s else qIt l k (qSt l s))
    split
    · exact qSub_r s
    · exact qSub_tr (hup s) (qIt_up hup k (qSt l s))
theorem qS1_up (x : pLt) (s : Nat) : qSub s (qS1 x s) := by
  have h1 : qSub s (qL1 x s) := by unfold qL1; split; exact sub_or_l _ _; exact qSub_r s
  unfold qS1
  split
  · refine qSub_tr h1 ?_
    unfold qR1
    split
    · exact sub_or_l _ _
    · exact qSub_r _
  · exact qSub_r s
theorem qSt_up : ∀ (l : List pLt) (s : Nat), qSub s (qSt l s)
  | [], s => qSub_r s
  | x :: r, s => qSub_tr (qS1_up x s) (qSt_up r (qS1 x s))
theorem qSt_each : ∀ {l : List pLt} {s : Nat}, qSt l s = s → ∀ y ∈ l, qS1 y s = s
  | [], _, _ => fun y hy => by cases hy
  | x :: r, s, h => by
    have h' : qSt r (qS1 x s) = s := h
    have e : qS1 x s = s := by
      have q := qSt_up r (qS1 x s)
      rw [h'] at q
      exact qSub_as q (qS1_up x s)
    intro y hy
    rcases List.mem_cons.mp hy with q | q
    · rw [q]; exact e
    · rw [e] at h'
      exact qSt_each h' y q
theorem qA_in : ∀ {l : List pLt} {y : pLt}, y ∈ l → y.1 = 1 → qSub (qT y.2.2.2.1) (qA l)
  | [], _, hy, _ => by cases hy
  | x :: r, y, hy, h1 => by
    show qSub _ ((if x.1 = 1 then qT x.2.2.2.1 else 0) ||| qA r)
    rcases List.mem_cons.mp hy with q | q
    · rw [← q, if_pos h1]; exact sub_or_l _ _
    · exact qSub_tr (qA_in q h1) (sub_or_r _ _)
section
variable {np nv : Nat} {Ls : List pLt}
/-- what the class binds stays within what is closed -/
theorem qC1_in {t b : Nat} {x : pLt} (hw : wLv nv x) (hb : qSub b t) (hS : qS1 x t = t) (hA : x.1 = 1 → qSub (qT x.2.2.2.1) t) : qSub (qC1 x b) t := by
  unfold qC1
  cases h : qBh x b with
  | none => exact hb
  | some y =>
    show qSub y t
    unfold qBh at h
    split at h
    · rename_i c
      cases h
      refine or_sub2 hb ?_
      rcases c with c | c
      · unfold qLv
        rw [if_neg (by omega)]
        exact hA c
      · exact qSub_tr c hb
    · split at h
      · rename_i c
        cases h
        refine or_sub2 hb ?_
        unfold qLv
        rw [if_pos c.1]
        unfold qS1 at hS
        rw [if_pos ⟨c.1, c.2.1⟩] at hS
        have hL : qSub t (qL1 x t) := by unfold qL1; split; exact sub_or_l _ _; exact qSub_r t
        have hR : qSub (qL1 x t) (qR1 x (qL1 x t)) := by unfold qR1; split; exact sub_or_l _ _; exact qSub_r _
        rw [hS] at hR
        have eL : qL1 x t = t := qSub_as hR hL
        rw [eL] at hS
        rcases c.2.2 with ⟨d1, d2⟩ | ⟨d1, d2⟩
        · have d3 := qSub_tr d2 hb
          refine or_sub2 ?_ d3
          unfold qL1 at eL
          rw [if_pos ⟨d1, d3⟩] at eL
          rw [← eL]
          exact sub_or_r _ _
        · have d3 := qSub_tr d2 hb
          refine or_sub2 d3 ?_
          unfold qR1 at hS
          rw [if_pos ⟨d1, d3⟩] at hS
          rw [← hS]
          exact sub_or_r _ _
      · cases h
theorem qCl_in {t : Nat} : ∀ {l : List pLt} {b : Nat}, (∀ y ∈ l, wLv nv y ∧ qS1 y t = t ∧ (y.1 = 1 → qSub (qT y.2.2.2.1) t)) → qSub b t → qSub (qCl l b) t
  | [], _, _, hb => hb
  | x :: r, b, h, hb => by
    obtain ⟨a1, a2, a3⟩ := h x (List.mem_cons_self ..)
    exact qCl_in (l := r) (b := qC1 x b) (fun y hy => h y (List.mem_cons_of_mem _ hy)) (qC1_in a1 hb a2 a3)
theorem qCi_in {t : Nat} {l : List pLt} (h : ∀ y ∈ l, wLv nv y ∧ qS1 y t = t ∧ (y.1 = 1 → qSub (qT y.2.2.2.1) t)) : ∀ (k b : Nat), qSub b t → qSub (qCi l k b) t
  | 0, _, hb => hb
  | k + 1, b, hb => qCi_in h k (qCl l b) (qCl_in h hb)
theorem qCi_bd (hw : ∀ y ∈ Ls, wLt np nv y) (hnv : nv ≤ 8) : qCi Ls 9 0 = qBd Ls := by
  have hlv : ∀ y ∈ Ls, wLv nv y := fun y hy => (hw y hy).lv
  obtain ⟨f1, f2⟩ := qCi_fix hnv hlv 9 0 (by decide) (by omega)
  have each := qCl_fix hnv hlv f2 f1
  have hfix : qSt Ls (qBd Ls) = qBd Ls := qIt_fix hw hnv 256 _ (qA_lt hw hnv) (by omega)
  have e2 := qSt_each hfix
  have hAb : qSub (qA Ls) (qBd Ls) := qIt_up (qSt_up Ls) 256 (qA Ls)
  refine qSub_as (qCi_in (fun y hy => ⟨hlv y hy, e2 y hy, fun h1 => qSub_tr (qA_in hy h1) hAb⟩) 9 0 (qSub_t.mpr (fun j hj => by rw [Nat.zero_testBit] at hj; cases hj))) ?_
  refine qSub_t.mpr (qBd_in (qSt_id (fun y hy => ?_)) (qA_sub (fun y hy h1 => ?_)))
  · have e := each y hy
    unfold qC1 at e
    cases h : qBh y (qCi Ls 9 0) with
    | none => exact (qBh_none (hlv y hy) h).2.1
    | some z =>
      rw [h] at e
      have e' : z = qCi Ls 9 0 := e
      obtain ⟨g1, _⟩ := qBh_some (hlv y hy) hnv f2 h
      rw [e'] at g1
      exact qS1_in (hlv y hy) (by rw [g1]; exact qSub_tr (sub_or_r _ _) (by rw [← g1]; exact qSub_r _))
  · have e := each y hy
    have hb : qBh y (qCi Ls 9 0) = some (qCi Ls 9 0 ||| qLv y) := by unfold qBh; rw [if_pos (.inl h1)]
    unfold qC1 at e
    rw [hb] at e
    have e' : qCi Ls 9 0 ||| qLv y = qCi Ls 9 0 := e
    have hl : qLv y = qT y.2.2.2.1 := by unfold qLv; rw [if_neg (by omega)]
    rw [← hl]
    have q := sub_or_r (qCi Ls 9 0) (qLv y)
    rw [e'] at q
    exact q
end
end
section
/-! THE CLASS: unsafePlace() -/
section
variable {f u nv l b tn : Nat} {S : Nat → Nat × Nat × Nat} {G : xG_} {m : Nat × Nat} {K : pCd} {Ls : List pLt} {V : List (Int × Nat)} {r4 : Nat → Int → Int → xT_ → Option (Int × xT_)} {r12 : Nat → Int → Int → Int → xT_ → Option (Int × xT_)} {n : Nat} {v : Int}
theorem st_95a (us : S u = (1, 6, 20)) (h8 : G u 8 = (n : Int)) : c95_12b r4 r12 f u (b : Int) (tn : Int) (n : Int) (S, G, m) = r4 u (b : Int) (xwr ((tn : Int) + 1)) (S, G, m) := by
  unfold c95_12b
  simp (disch := omega) only [cq_gi, cq_gr, cq_a, cq_s, cq_p, cq_pr, cq_is, cq_ar, cq_ab, cq_ln, xq_nz, Option.bind_some, xup2_n, xup2_s, Int.toNat_natCast, Int.reduceToNat, if_pos, if_neg, true_and, and_true, and_self, eq_self, if_true, reduceIte, not_true_eq_false, not_false_eq_true, or_true, true_or, us, h8]
theorem st_95b (us : S u = (1, 6, 20)) (h8 : G u 8 = (n : Int)) (hl : l < n) (e : c94 f u (l : Int) (b : Int) (S, G, m) = some (v, (S, G, m))) : c95_12b r4 r12 f u (b : Int) (tn : Int) (l : Int) (S, G, m) = if v = -1 then r12 u (b : Int) (tn : Int) (xwr ((l : Int) + 1)) (S, G, m) else r12 u v (tn : Int) (xwr ((l : Int) + 1)) (S, G, m) := by
  by_cases c : v = -1
  · rw [if_pos c]
    rw [c] at e
    unfold c95_12b c95_40
    simp (disch := omega) only [cq_gi, cq_gr, cq_a, cq_s, cq_p, cq_pr, cq_is, cq_ar, cq_ab, cq_ln, xq_nz, Option.bind_some, xup2_n, xup2_s, Int.toNat_natCast, Int.reduceToNat, if_pos, if_neg, true_and, and_true, and_self, eq_self, if_true, reduceIte, not_true_eq_false, not_false_eq_true, or_true, true_or, us, h8, e]
  · rw [if_neg c]
    unfold c95_12b c95_40
    simp (disch := omega) only [cq_gi, cq_gr, cq_a, cq_s, cq_p, cq_pr, cq_is, cq_ar, cq_ab, cq_ln, xq_nz, Option.bind_some, xup2_n, xup2_s, Int.toNat_natCast, Int.reduceToNat, if_pos, if_neg, true_and, and_true, and_self, eq_self, if_true, reduceIte, not_true_eq_false, not_false_eq_true, or_true, true_or, us, h8, e, c]
theorem k_95i (hf : 3010 < f) (hR : cRq S G u K Ls) (hw : ∀ y ∈ Ls, wLv nv y) (hnv : nv ≤ 8) : ∀ (d l fu b : Nat), l + d = Ls.length → d < fu → b < 2 ^ 8 → c95_12 r4 f fu u (b : Int) (tn : Int) (l : Int) (S, G, m) = r4 u ((qCl (Ls.drop l) b : Nat) : Int) (xwr ((tn : Int) + 1)) (S, G, m) := by
  have us := hR.1.1
  have h8 := hR.2.2.2.1.1
  have hl8 := hR.2.2.2.1.2.1
  intro d
  induction d with
  | zero =>
    intro l fu b h1 h2 hb
    obtain ⟨fu, rfl⟩ : ∃ t, fu = t + 1 := ⟨fu - 1, by omega⟩
    have : l = Ls.length := by omega
    rw [this, List.drop_of_length_le (Nat.le_refl _)]
    show c95_12b r4 (c95_12 r4 f fu) f u _ _ _ _ = _
    rw [st_95a us h8]
    rfl
  | succ d ih =>
    intro l fu b h1 h2 hb
    obtain ⟨fu, rfl⟩ : ∃ t, fu = t + 1 := ⟨fu - 1, by omega⟩
    have hll : l < Ls.length := by omega
    have ek : xwr ((l : Int) + 1) = ((l + 1 : Nat) : Int) := by rw [xwr_g _ (by omega) (by omega)]; omega
    have hwl : wLv nv (Ls.getD l dLt) := by rw [getD_e hll]; exact hw _ (List.getElem_mem hll)
    have e94 := k_94 (f := f) (m := m) (b := b) hf hR (by omega) (hR.2.2.2.1.2.2 l hll) hwl hnv hb
    rw [show Ls.getD l (0, 0, 0, [], [], []) = Ls.getD l dLt from rfl] at e94
    have ed : qCl (Ls.drop l) b = qCl (Ls.drop (l + 1)) (qC1 (Ls.getD l dLt) b) := by
      rw [List.drop_eq_getElem_cons hll, getD_e hll]
      rfl
    show c95_12b r4 (c95_12 r4 f fu) f u _ _ _ _ = _
    rw [st_95b us h8 hll e94, ek, ed]
    obtain ⟨_, u2⟩ := qC1_up hwl hnv hb
    unfold qC1 at u2 ⊢
    cases hq : qBh (Ls.getD l dLt) b with
    | none =>
      rw [if_pos (show oNI none = -1 from rfl)]
      exact ih (l + 1) fu b (by omega) (by omega) hb
    | some y =>
      rw [hq] at u2
      rw [if_neg (by show ¬ (y : Int) = -1; omega)]
      exact ih (l + 1) fu y (by omega) (by omega) u2
theorem k_95t (hf : 3010 < f) (hR : cRq S G u K Ls) (hw : ∀ y ∈ Ls, wLv nv y) (hnv : nv ≤ 8) : ∀ (k tn fu b : Nat), tn + k = 9 → k < fu → b < 2 ^ 8 → c95_4 f fu u (b : Int) (tn : Int) (S, G, m) = c95_55 f f u ((qCi Ls k b : Nat) : Int) ((0 : Nat) : Int) (S, G, m) := by
  have hl8 := hR.2.2.2.1.2.1
  intro k
  induction k with
  | zero =>
    intro tn fu b h1 h2 hb
    obtain ⟨fu, rfl⟩ : ∃ t, fu = t + 1 := ⟨fu - 1, by omega⟩
    show c95_4b (c95_4 f fu) f u _ _ _ = _
    unfold c95_4b
    rw [if_pos (by omega)]
    rfl
  | succ k ih =>
    intro tn fu b h1 h2 hb
    obtain ⟨fu, rfl⟩ : ∃ t, fu = t + 1 := ⟨fu - 1, by omega⟩
    have ek : xwr ((tn : Int) + 1) = ((tn + 1 : Nat) : Int) := by rw [xwr_g _ (by omega) (by omega)]; omega
    show c95_4b (c95_4 f fu) f u _ _ _ = _
    unfold c95_4b
    rw [if_neg (by omega)]
    have e := k_95i (f := f) (m := m) (tn := tn) (r4 := c95_4 f fu) hf hR hw hnv Ls.length 0 f b (by omega) (by omega) hb
    rw [List.drop_zero, ek] at e
    have e' : c95_12 (c95_4 f fu) f f u (b : Int) (tn : Int) 0 (S, G, m) = c95_4 f fu u ((qCl Ls b : Nat) : Int) ((tn + 1 : Nat) : Int) (S, G, m) := e
    rw [e']
    exact ih (tn + 1) fu (qCl Ls b) (by omega) (by omega) (qCl_up hnv hw hb).2
theorem st_95v {k : Nat} {pl : Int} {r : Nat → Int → Int → xT_ → Option (Int × xT_)} (u2 : 278 < u) (hk : k < 8) (us : S u = (1, 6, 20)) (us1 : S (u + 1) = (2, 3, 8)) (w7 : G u 7 = ((u + 1 : Nat) : Int)) (h6 : G u 6 = (n : Int)) (hkn : k < n) (hp : G (u + 1) k = pl) : c95_55b r f u (b : Int) (k : Int) (S, G, m) = if xand (xshr (b : Int) (k : Int)) 1 = 0 then some (pl, (S, G, m)) else r u (b : Int) (xwr ((k : Int) + 1)) (S, G, m) := by
  by_cases c : xand (xshr (b : Int) (k : Int)) 1 = 0
  · rw [if_pos c]
    unfold c95_55b
    simp (disch := omega) only [cq_gi, cq_gr, cq_a, cq_s, cq_p, cq_pr, cq_is, cq_ar, cq_ab, cq_ln, xq_nz, Option.bind_some, xup2_n, xup2_s, Int.toNat_natCast, Int.reduceToNat, if_pos, if_neg, true_and, and_true, and_self, eq_self, if_true, reduceIte, not_true_eq_false, not_false_eq_true, or_true, true_or, us, us1, w7, h6, hp, c]
  · rw [if_neg c]
    unfold c95_55b
    simp (disch := omega) only [cq_gi, cq_gr, cq_a, cq_s, cq_p, cq_pr, cq_is, cq_ar, cq_ab, cq_ln, xq_nz, Option.bind_some, xup2_n, xup2_s, Int.toNat_natCast, Int.reduceToNat, if_pos, if_neg, true_and, and_true, and_self, eq_self, if_true, reduceIte, not_true_eq_false, not_false_eq_true, or_true, true_or, us, h6, c]
theorem st_95w {r : Nat → Int → Int → xT_ → Option (Int × xT_)} (us : S u = (1, 6, 20)) (h6 : G u 6 = (n : Int)) : c95_55b r f u (b : Int) (n : Int) (S, G, m) = some (-1, (S, G, m)) := by
  unfold c95_55b
  simp (disch := omega) only [cq_gi, cq_gr, cq_a, cq_s, cq_p, cq_pr, cq_is, cq_ar, cq_ab, cq_ln, xq_nz, Option.bind_some, xup2_n, xup2_s, Int.toNat_natCast, Int.reduceToNat, if_pos, if_neg, true_and, and_true, and_self, eq_self, if_true, reduceIte, not_true_eq_false, not_false_eq_true, or_true, true_or, us, h6]
/-- the first VARIABLE that is not bound -/
def uPl (V : List (Int × Nat)) (b : Nat) (k : Nat) (x : Int) : Prop := x = -1 ∧ (∀ v, k ≤ v → v < V.length → b.testBit v = true) ∨ ∃ v, k ≤ v ∧ v < V.length ∧ b.testBit v = false ∧ (∀ j, k ≤ j → j < v → b.testBit j = true) ∧ x = ((V.getD v (0, 0)).2 : Int)
theorem k_95v (hR : cRq S G u K Ls) (hb : b < 2 ^ 8) (h6 : G u 6 = (V.length : Int)) (hV : V.length ≤ 8) (hp : ∀ v, v < V.length → G (u + 1) v = ((V.getD v (0, 0)).2 : Int)) : ∀ (d k fu : Nat), k + d = V.length → d < fu → ∃ x, c95_55 f fu u (b : Int) (k : Int) (S, G, m) = some (x, (S, G, m)) ∧ uPl V b k x := by
  have us := hR.1.1
  have us1 := hR.1.2.1
  have w7 := hR.2.1.1
  have u2 := hR.2.2.2.2.1
  intro d
  induction d with
  | zero =>
    intro k fu h1 h2
    obtain ⟨fu, rfl⟩ : ∃ t, fu = t + 1 := ⟨fu - 1, by omega⟩
    have : k = V.length := by omega
    rw [this]
    exact ⟨-1, st_95w (r := c95_55 f fu) us h6, .inl ⟨rfl, fun v z1 z2 => by omega⟩⟩
  | succ d ih =>
    intro k fu h1 h2
    obtain ⟨fu, rfl⟩ : ∃ t, fu = t + 1 := ⟨fu - 1, by omega⟩
    have ek : xwr ((k : Int) + 1) = ((k + 1 : Nat) : Int) := by rw [xwr_g _ (by omega) (by omega)]; omega
    have e : c95_55 f (fu + 1) u (b : Int) (k : Int) (S, G, m) = _ := st_95v (r := c95_55 f fu) u2 (by omega) us us1 w7 h6 (by omega) (hp k (by omega))
    have hbit := xbit0 (a := b) (m := k) (by omega) (by omega)
    rw [e, ek]
    by_cases c : xand (xshr (b : Int) (k : Int)) 1 = 0
    · rw [if_pos c]
      exact ⟨_, rfl, .inr ⟨k, Nat.le_refl _, by omega, hbit.mp c, fun j z1 z2 => by omega, rfl⟩⟩
    · rw [if_neg c]
      have hb1 : b.testBit k = true := by cases hq : b.testBit k with
        | true => rfl
        | false => exact absurd (hbit.mpr hq) c
      obtain ⟨x, x1, x2⟩ := ih (k + 1) fu (by omega) (by omega)
      refine ⟨x, x1, ?_⟩
      rcases x2 with ⟨a1, a2⟩ | ⟨v, a1, a2, a3, a4, a5⟩
      · refine .inl ⟨a1, fun v z1 z2 => ?_⟩
        by_cases cv : v = k
        · rw [cv]; exact hb1
        · exact a2 v (by omega) z2
      · refine .inr ⟨v, by omega, a2, a3, fun j z1 z2 => ?_, a5⟩
        by_cases cv : j = k
        · rw [cv]; exact hb1
        · exact a4 j (by omega) z2
/-- unsafePlace() -/
theorem k_95 {np : Nat} (hf : 3010 < f) (hR : cRq S G u K Ls) (hw : ∀ y ∈ Ls, wLt np V.length y) (h6 : G u 6 = (V.length : Int)) (hV : V.length ≤ 8) (hp : ∀ v, v < V.length → G (u + 1) v = ((V.getD v (0, 0)).2 : Int)) : ∃ x, c95 f u (S, G, m) = some (x, (S, G, m)) ∧ uPl V (qBd Ls) 0 x := by
  have hlv : ∀ y ∈ Ls, wLv V.length y := fun y hy => (hw y hy).lv
  have e1 := k_95t (f := f) (m := m) hf hR hlv hV 9 0 f 0 rfl (by omega) (by decide)
  rw [qCi_bd hw hV] at e1
  obtain ⟨x, x1, x2⟩ := k_95v (f := f) (m := m) hR (qBd_lt hw hV) h6 hV hp V.length 0 f (by omega) (by omega)
  exact ⟨x, e1.trans x1, x2⟩
end
end
section
/-! THE CLASS: FAULTS 2 and 3 of a program -/
/-- the first of the mentions from k on that is such a FAULT -/
def fMp (M : List pMn) (P : Nat → Prop) (k : Nat) (x : Int) : Prop := x = -1 ∧ (∀ i, k ≤ i → i < M.length → ¬ P i) ∨ ∃ i, k ≤ i ∧ i < M.length ∧ P i ∧ (∀ j, k ≤ j → j < i → ¬ P j) ∧ x = (mP M i : Int)
theorem fMp.step {M : List pMn} {P : Nat → Prop} {k : Nat} {x : Int} (h : fMp M P (k + 1) x) (hk : ¬ P k) : fMp M P k x := by
  rcases h with ⟨a1, a2⟩ | ⟨i, a1, a2, a3, a4, a5⟩
  · refine .inl ⟨a1, fun i z1 z2 => ?_⟩
    by_cases c : i = k
    · rw [c]; exact hk
    · exact a2 i (by omega) z2
  · refine .inr ⟨i, by omega, a2, a3, fun j z1 z2 => ?_, a5⟩
    by_cases c : j = k
    · rw [c]; exact hk
    · exact a4 j (by omega) z2
section
variable {f n N w q nx c : Nat} {S : Nat → Nat × Nat × Nat} {G : xG_} {m : Nat × Nat} {M : List pMn} {L : List Int} {tell : Bool} {r : Nat → Int → xT_ → Option (Int × xT_)} {pr wi pl i1 h1 : Int}
theorem st_66a (hs : cSs S) (h14 : G 72 14 = (c : Int)) : c66_2b r f 72 (c : Int) (S, G, m) = some (-1, (S, G, m)) := by
  unfold c66_2b
  simp (disch := omega) only [cq_gi, cq_gr, cq_a, cq_s, cq_p, cq_pr, cq_is, cq_ar, cq_ab, cq_ln, xq_nz, Option.bind_some, xup2_n, xup2_s, Int.toNat_natCast, Int.reduceToNat, if_pos, if_neg, true_and, and_true, and_self, eq_self, if_true, reduceIte, not_true_eq_false, not_false_eq_true, or_true, true_or, s72 hs, h14]
theorem st_66b {k : Nat} (hs : cSs S) (hp : cPs G) (hk : k < c) (hc : c ≤ 1024) (h14 : G 72 14 = (c : Int)) (h78 : G 78 k = -1) (h80 : G 80 k = pl) : c66_2b r f 72 (k : Int) (S, G, m) = some (pl, (S, G, m)) := by
  unfold c66_2b c66_46
  simp (disch := omega) only [cq_gi, cq_gr, cq_a, cq_s, cq_p, cq_pr, cq_is, cq_ar, cq_ab, cq_ln, xq_nz, Option.bind_some, xup2_n, xup2_s, Int.toNat_natCast, Int.reduceToNat, if_pos, if_neg, true_and, and_true, and_self, eq_self, if_true, reduceIte, not_true_eq_false, not_false_eq_true, or_true, true_or, s72 hs, s78 hs, s80 hs, p72_15 hp, p72_17 hp, h14, h78, h80]
theorem st_66c {k p : Nat} (hs : cSs S) (hp : cPs G) (hk : k < c) (hc : c ≤ 1024) (hpr : p < 16) (hq : 82 < q) (qs : S q = (1, 3, 14)) (q4 : S (q + 4) = (2, 0, 16)) (q6 : S (q + 6) = (2, 0, 16)) (h3 : G 72 3 = (q : Int)) (w5 : G q 5 = ((q + 4 : Nat) : Int)) (w7 : G q 7 = ((q + 6 : Nat) : Int)) (h14 : G 72 14 = (c : Int)) (h78 : G 78 k = (p : Int)) (h80 : G 80 k = pl) (hi : G (q + 4) p = i1) (hh : G (q + 6) p = h1) : c66_2b r f 72 (k : Int) (S, G, m) = if i1 = 0 ∧ h1 = 0 then some (pl, (S, G, m)) else r 72 (xwr ((k : Int) + 1)) (S, G, m) := by
  have hp1 : ¬ ((p : Int) = -1) := by omega
  by_cases c1 : i1 = 0
  · rw [c1] at hi
    by_cases c2 : h1 = 0
    · rw [if_pos ⟨c1, c2⟩]
      rw [c2] at hh
      unfold c66_2b c66_46
      simp (disch := omega) only [cq_gi, cq_gr, cq_a, cq_s, cq_p, cq_pr, cq_is, cq_ar, cq_ab, cq_ln, xq_nz, Option.bind_some, xup2_n, xup2_s, Int.toNat_natCast, Int.reduceToNat, if_pos, if_neg, true_and, and_true, and_self, eq_self, if_true, reduceIte, not_true_eq_false, not_false_eq_true, or_true, true_or, s72 hs, s78 hs, s80 hs, p72_15 hp, p72_17 hp, h14, h78, h80, hp1, qs, q4, q6, h3, w5, w7, hi, hh]
    · rw [if_neg (fun y => c2 y.2)]
      unfold c66_2b c66_53
      simp (disch := omega) only [cq_gi, cq_gr, cq_a, cq_s, cq_p, cq_pr, cq_is, cq_ar, cq_ab, cq_ln, xq_nz, Option.bind_some, xup2_n, xup2_s, Int.toNat_natCast, Int.reduceToNat, if_pos, if_neg, true_and, and_true, and_self, eq_self, if_true, reduceIte, not_true_eq_false, not_false_eq_true, or_true, true_or, s72 hs, s78 hs, p72_15 hp, h14, h78, hp1, qs, q4, q6, h3, w5, w7, hi, hh, c2]
  · rw [if_neg (fun y => c1 y.1)]
    unfold c66_2b c66_53
    simp (disch := omega) only [cq_gi, cq_gr, cq_a, cq_s, cq_p, cq_pr, cq_is, cq_ar, cq_ab, cq_ln, xq_nz, Option.bind_some, xup2_n, xup2_s, Int.toNat_natCast, Int.reduceToNat, if_pos, if_neg, true_and, and_true, and_self, eq_self, if_true, reduceIte, not_true_eq_false, not_false_eq_true, or_true, true_or, s72 hs, s78 hs, p72_15 hp, h14, h78, hp1, qs, q4, h3, w5, hi, c1]
/-- unknownName(): fi, fh say what inputs and heads hold -/
theorem k_66 {fi fh : Nat → Bool} (hf : 1100 < f) (hs : cSs S) (hp : cPs G) (hr : cPr0 S G q tell L) (hM : cMe G M) (hM4 : M.length ≤ 1024) (hi : ∀ p, p < 16 → G (q + 4) p = b01 (fi p) ∧ G (q + 6) p = b01 (fh p)) (hn : ∀ k, k < M.length → mN M k = -1 ∨ 0 ≤ mN M k ∧ mN M k < 16) : ∃ x, c66 f 72 (S, G, m) = some (x, (S, G, m)) ∧ fMp M (fun i => mN M i = -1 ∨ fi (mN M i).toNat = false ∧ fh (mN M i).toNat = false) 0 x := by
  obtain ⟨r1, r2, r3, r4, r5, r6, r7⟩ := hr
  have loop : ∀ (d k fu : Nat), k + d = M.length → d < fu → ∃ x, c66_2 f fu 72 (k : Int) (S, G, m) = some (x, (S, G, m)) ∧ fMp M (fun i => mN M i = -1 ∨ fi (mN M i).toNat = false ∧ fh (mN M i).toNat = false) k x := by
    intro d
    induction d with
    | zero =>
      intro k fu h1 h2
      obtain ⟨fu, rfl⟩ : ∃ t, fu = t + 1 := ⟨fu - 1, by omega⟩
      have : k = M.length := by omega
      rw [this]
      exact ⟨-1, st_66a (r := c66_2 f fu) hs hM.1, .inl ⟨rfl, fun i z1 z2 => by omega⟩⟩
    | succ d ih =>
      intro k fu h1 h2
      obtain ⟨fu, rfl⟩ : ∃ t, fu = t + 1 := ⟨fu - 1, by omega⟩
      obtain ⟨a1, a2, a3, a4⟩ := hM.2 k (by omega)
      have ek : xwr ((k : Int) + 1) = ((k + 1 : Nat) : Int) := by rw [xwr_g _ (by omega) (by omega)]; omega
      rcases hn k (by omega) with c1 | c1
      · rw [c1] at a1
        exact ⟨_, st_66b (r := c66_2 f fu) hs hp (by omega) hM4 hM.1 a1 a3, .inr ⟨k, Nat.le_refl _, by omega, .inl c1, fun j z1 z2 => by omega, rfl⟩⟩
      · have e : mN M k = ((mN M k).toNat : Int) := by omega
        rw [e] at a1
        obtain ⟨b1, b2⟩ := hi (mN M k).toNat (by omega)
        have st : c66_2 f (fu + 1) 72 (k : Int) (S, G, m) = _ := st_66c (r := c66_2 f fu) hs hp (by omega) hM4 (by omega) r2 r5.1 r5.2.2.2.2.1 r5.2.2.2.2.2.2.1 r1 r6.2.2.2.1 r6.2.2.2.2.2.1 hM.1 a1 a3 b1 b2
        rw [st, ek]
        by_cases c2 : fi (mN M k).toNat = false ∧ fh (mN M k).toNat = false
        · rw [if_pos ⟨b01_0.mpr c2.1, b01_0.mpr c2.2⟩]
          exact ⟨_, rfl, .inr ⟨k, Nat.le_refl _, by omega, .inr c2, fun j z1 z2 => by omega, rfl⟩⟩
        · rw [if_neg (fun y => c2 ⟨b01_0.mp y.1, b01_0.mp y.2⟩)]
          obtain ⟨x, x1, x2⟩ := ih (k + 1) fu (by omega) (by omega)
          exact ⟨x, x1, x2.step (fun y => by rcases y with y | y; omega; exact c2 y)⟩
  exact loop M.length 0 f (by omega) (by omega)
theorem st_67a (hs : cSs S) (h14 : G 72 14 = (c : Int)) : c67_2b r f 72 (c : Int) (S, G, m) = some (-1, (S, G, m)) := by
  unfold c67_2b
  simp (disch := omega) only [cq_gi, cq_gr, cq_a, cq_s, cq_p, cq_pr, cq_is, cq_ar, cq_ab, cq_ln, xq_nz, Option.bind_some, xup2_n, xup2_s, Int.toNat_natCast, Int.reduceToNat, if_pos, if_neg, true_and, and_true, and_self, eq_self, if_true, reduceIte, not_true_eq_false, not_false_eq_true, or_true, true_or, s72 hs, h14]
theorem st_67b {k : Nat} (hs : cSs S) (hp : cPs G) (hk : k < c) (hc : c ≤ 1024) (h14 : G 72 14 = (c : Int)) (h79 : G 79 k = 7) : c67_2b r f 72 (k : Int) (S, G, m) = r 72 (xwr ((k : Int) + 1)) (S, G, m) := by
  unfold c67_2b c67_51
  simp (disch := omega) only [cq_gi, cq_gr, cq_a, cq_s, cq_p, cq_pr, cq_is, cq_ar, cq_ab, cq_ln, xq_nz, Option.bind_some, xup2_n, xup2_s, Int.toNat_natCast, Int.reduceToNat, if_pos, if_neg, true_and, and_true, and_self, eq_self, if_true, reduceIte, not_true_eq_false, not_false_eq_true, or_true, true_or, s72 hs, s79 hs, p72_16 hp, h14, h79]
theorem st_67c {k p : Nat} {kd : Int} (hs : cSs S) (hp : cPs G) (hk : k < c) (hc : c ≤ 1024) (hpr : p < 16) (hq : 82 < q) (qs : S q = (1, 3, 14)) (q2 : S (q + 2) = (2, 3, 16)) (h3 : G 72 3 = (q : Int)) (w3 : G q 3 = ((q + 2 : Nat) : Int)) (h14 : G 72 14 = (c : Int)) (h79 : G 79 k = kd) (hkd : kd ≠ 7) (h78 : G 78 k = (p : Int)) (h80 : G 80 k = pl) (h81 : G 81 k = wi) (hw : G (q + 2) p = pr) : c67_2b r f 72 (k : Int) (S, G, m) = if wi = pr then r 72 (xwr ((k : Int) + 1)) (S, G, m) else some (pl, (S, G, m)) := by
  by_cases c1 : wi = pr
  · rw [if_pos c1]
    rw [← c1] at hw
    unfold c67_2b c67_51
    simp (disch := omega) only [cq_gi, cq_gr, cq_a, cq_s, cq_p, cq_pr, cq_is, cq_ar, cq_ab, cq_ln, xq_nz, Option.bind_some, xup2_n, xup2_s, Int.toNat_natCast, Int.reduceToNat, if_pos, if_neg, true_and, and_true, and_self, eq_self, if_true, reduceIte, not_true_eq_false, not_false_eq_true, or_true, true_or, s72 hs, s78 hs, s79 hs, s81 hs, p72_15 hp, p72_16 hp, p72_18 hp, h14, h78, h79, h81, qs, q2, h3, w3, hw]
  · rw [if_neg c1]
    unfold c67_2b c67_51
    simp (disch := omega) only [cq_gi, cq_gr, cq_a, cq_s, cq_p, cq_pr, cq_is, cq_ar, cq_ab, cq_ln, xq_nz, Option.bind_some, xup2_n, xup2_s, Int.toNat_natCast, Int.reduceToNat, if_pos, if_neg, true_and, and_true, and_self, eq_self, if_true, reduceIte, not_true_eq_false, not_false_eq_true, or_true, true_or, s72 hs, s78 hs, s79 hs, s80 hs, s81 hs, p72_15 hp, p72_16 hp, p72_17 hp, p72_18 hp, h14, h78, h79, h80, h81, qs, q2, h3, w3, hw, c1]
/-- otherWidth() -/
theorem k_67 {fw : Nat → Int} (hf : 1100 < f) (hs : cSs S) (hp : cPs G) (hr : cPr0 S G q tell L) (hM : cMe G M) (hM4 : M.length ≤ 1024) (hi : ∀ p, p < 16 → G (q + 2) p = fw p) (hn : ∀ k, k < M.length → (0 ≤ mN M k ∧ mN M k < 16) ∧ (mW M k = 2 ∧ mK M k = -1 ∨ mW M k ≠ 2 ∧ mK M k ≠ -1)) : ∃ x, c67 f 72 (S, G, m) = some (x, (S, G, m)) ∧ fMp M (fun i => mK M i ≠ -1 ∧ mK M i ≠ fw (mN M i).toNat) 0 x := by
  obtain ⟨r1, r2, r3, r4, r5, r6, r7⟩ := hr
  have loop : ∀ (d k fu : Nat), k + d = M.length → d < fu → ∃ x, c67_2 f fu 72 (k : Int) (S, G, m) = some (x, (S, G, m)) ∧ fMp M (fun i => mK M i ≠ -1 ∧ mK M i ≠ fw (mN M i).toNat) k x := by
    intro d
    induction d with
    | zero =>
      intro k fu h1 h2
      obtain ⟨fu, rfl⟩ : ∃ t, fu = t + 1 := ⟨fu - 1, by omega⟩
      have : k = M.length := by omega
      rw [this]
      exact ⟨-1, st_67a (r := c67_2 f fu) hs hM.1, .inl ⟨rfl, fun i z1 z2 => by omega⟩⟩
    | succ d ih =>
      intro k fu h1 h2
      obtain ⟨fu, rfl⟩ : ∃ t, fu = t + 1 := ⟨fu - 1, by omega⟩
      obtain ⟨a1, a2, a3, a4⟩ := hM.2 k (by omega)
      have ek : xwr ((k : Int) + 1) = ((k + 1 : Nat) : Int) := by rw [xwr_g _ (by omega) (by omega)]; omega
      obtain ⟨c1, c2⟩ := hn k (by omega)
      obtain ⟨x, x1, x2⟩ := ih (k + 1) fu (by omega) (by omega)
      rcases c2 with ⟨d1, d2⟩ | ⟨d1, d2⟩
      · rw [d1] at a2
        have st : c67_2 f (fu + 1) 72 (k : Int) (S, G, m) = _ := st_67b (r := c67_2 f fu) hs hp (by omega) hM4 hM.1 a2
        rw [st, ek]
        exact ⟨x, x1, x2.step (fun y => y.1 d2)⟩
      · have e : mN M k = ((mN M k).toNat : Int) := by omega
        rw [e] at a1
        have hkd : mKd (mW M k) ≠ 7 := by
          unfold mKd
          by_cases z1 : mW M k = 1
          · rw [if_pos z1]; decide
          · rw [if_neg z1, if_neg d1]
            by_cases z3 : mW M k = 3
            · rw [if_pos z3]; decide
            · rw [if_neg z3]; decide
        have st : c67_2 f (fu + 1) 72 (k : Int) (S, G, m) = _ := st_67c (r := c67_2 f fu) hs hp (by omega) hM4 (by omega) r2 r5.1 r5.2.2.1 r1 r6.2.1 hM.1 a2 hkd a1 a3 (a4 d2) (hi _ (by omega))
        rw [st, ek]
        by_cases c3 : mK M k = fw (mN M k).toNat
        · rw [if_pos c3]
          exact ⟨x, x1, x2.step (fun y => y.2 c3)⟩
        · rw [if_neg c3]
          exact ⟨_, rfl, .inr ⟨k, Nat.le_refl _, by omega, ⟨d2, c3⟩, fun j z1 z2 => by omega, rfl⟩⟩
  exact loop M.length 0 f (by omega) (by omega)
end
end
section
/-! THE CLASS: FAULT 1 of a program -/
def rvl (w : Int) : Nat := if w = 6 then 16448 else if w = 7 then 128 else if w = 14 then 64 else 0
theorem and0 {a r : Nat} : a &&& r = 0 ↔ ∀ j, r.testBit j = true → a.testBit j = false := by
  constructor
  · intro h j hj
    have := congrArg (fun x => x.testBit j) h
    simp only [Nat.testBit_and, hj, Bool.and_true, Nat.zero_testBit] at this
    exact this
  · intro h
    apply Nat.eq_of_testBit_eq
    intro j
    rw [Nat.testBit_and, Nat.zero_testBit]
    cases hr : r.testBit j with
    | false => rw [Bool.and_false]
    | true => rw [h j hr, Bool.false_and]
theorem tb_2 (a j : Nat) : (2 ^ a).testBit j = true ↔ j = a := by
  rw [Nat.testBit_two_pow, decide_eq_true_iff]
  exact eq_comm
theorem rvl_t {b : Int} (hb : b = 1 ∨ b = 2 ∨ b = 3 ∨ b = 4) (j : Nat) : (rvl (mKd b)).testBit j = true ↔ b = 1 ∧ (j = 6 ∨ j = 14) ∨ b = 2 ∧ j = 7 ∨ b = 3 ∧ j = 6 := by
  rcases hb with h | h | h | h
  · rw [h, show rvl (mKd 1) = 2 ^ 6 ||| 2 ^ 14 from by decide, tb_or, tb_2]
    omega
  · rw [h, show rvl (mKd 2) = 2 ^ 7 from by decide, tb_2]
    omega
  · rw [h, show rvl (mKd 3) = 2 ^ 6 from by decide, tb_2]
    omega
  · rw [h, show rvl (mKd 4) = 0 from by decide, Nat.zero_testBit]
    constructor
    · intro q; cases q
    · intro q; omega
/-- which kinds were told of a predicate by the first mentions -/
def isTm (M : List pMn) (i p : Nat) (a : Nat) : Prop := a < 2 ^ 16 ∧ ∀ j, a.testBit j = true ↔ ∃ k, k < i ∧ mN M k = (p : Int) ∧ mKd (mW M k) = (j : Int)
section
variable {f n A c i p : Nat} {S : Nat → Nat × Nat × Nat} {G : xG_} {m : Nat × Nat} {M : List pMn} {r : Nat → Nat → Int → xT_ → Option (Int × xT_)} {pl kd : Int} {a : Nat}
theorem st_65a (hs : cSs S) (h14 : G 72 14 = (c : Int)) : c65_7b r f 72 A (c : Int) (S, G, m) = some (-1, (S, G, m)) := by
  unfold c65_7b
  simp (disch := omega) only [cq_gi, cq_gr, cq_a, cq_s, cq_p, cq_pr, cq_is, cq_ar, cq_ab, cq_ln, xq_nz, Option.bind_some, xup2_n, xup2_s, Int.toNat_natCast, Int.reduceToNat, if_pos, if_neg, true_and, and_true, and_self, eq_self, if_true, reduceIte, not_true_eq_false, not_false_eq_true, or_true, true_or, s72 hs, h14]
theorem st_65b (hs : cSs S) (hp : cPs G) (hi : i < c) (hc : c ≤ 1024) (h14 : G 72 14 = (c : Int)) (h79 : G 79 i = kd) : c65_7b r f 72 A (i : Int) (S, G, m) = c65_58 r f 72 A (i : Int) kd (rvl kd : Int) (S, G, m) := by
  unfold rvl
  by_cases c6 : kd = 6
  · rw [if_pos c6]
    rw [c6] at h79 ⊢
    unfold c65_7b
    simp (disch := omega) only [cq_gi, cq_gr, cq_a, cq_s, cq_p, cq_pr, cq_is, cq_ar, cq_ab, cq_ln, xq_nz, Option.bind_some, xup2_n, xup2_s, Int.toNat_natCast, Int.reduceToNat, if_pos, if_neg, true_and, and_true, and_self, eq_self, if_true, reduceIte, not_true_eq_false, not_false_eq_true, or_true, true_or, s72 hs, s79 hs, p72_16 hp, h14, h79]
    rfl
  · rw [if_neg c6]
    by_cases c7 : kd = 7
    · rw [if_pos c7]
      rw [c7] at h79 ⊢
      unfold c65_7b
      simp (disch := omega) only [cq_gi, cq_gr, cq_a, cq_s, cq_p, cq_pr, cq_is, cq_ar, cq_ab, cq_ln, xq_nz, Option.bind_some, xup2_n, xup2_s, Int.toNat_natCast, Int.reduceToNat, if_pos, if_neg, true_and, and_true, and_self, eq_self, if_true, reduceIte, not_true_eq_false, not_false_eq_true, or_true, true_or, s72 hs, s79 hs, p72_16 hp, h14, h79]
      rfl
    · rw [if_neg c7]
      by_cases c14 : kd = 14
      · rw [if_pos c14]
        rw [c14] at h79 ⊢
        unfold c65_7b
        simp (disch := omega) only [cq_gi, cq_gr, cq_a, cq_s, cq_p, cq_pr, cq_is, cq_ar, cq_ab, cq_ln, xq_nz, Option.bind_some, xup2_n, xup2_s, Int.toNat_natCast, Int.reduceToNat, if_pos, if_neg, true_and, and_true, and_self, eq_self, if_true, reduceIte, not_true_eq_false, not_false_eq_true, or_true, true_or, s72 hs, s79 hs, p72_16 hp, h14, h79]
        rfl
      · rw [if_neg c14]
        unfold c65_7b
        simp (disch := omega) only [cq_gi, cq_gr, cq_a, cq_s, cq_p, cq_pr, cq_is, cq_ar, cq_ab, cq_ln, xq_nz, Option.bind_some, xup2_n, xup2_s, Int.toNat_natCast, Int.reduceToNat, if_pos, if_neg, true_and, and_true, and_self, eq_self, if_true, reduceIte, not_true_eq_false, not_false_eq_true, or_true, true_or, s72 hs, s79 hs, p72_16 hp, h14, h79]
        rfl
theorem st_65c {y0 x3 : Int} (hs : cSs S) (hp : cPs G) (hA : 278 < A) (hi : i < 1024) (sA : S A = (2, 3, 16)) (hpp : p < 16) (h78 : G 78 i = (p : Int)) (h80 : G 80 i = pl) (ha : G A p = (a : Int)) : c65_58 r f 72 A (i : Int) x3 y0 (S, G, m) = if xand (a : Int) y0 = 0 then r 72 A (xwr ((i : Int) + 1)) (S, xup2 G A p (xor_ (a : Int) (xshl 1 x3)), m) else some (pl, (S, G, m)) := by
  by_cases c1 : xand (a : Int) y0 = 0
  · rw [if_pos c1]
    unfold c65_58
    simp (disch := omega) only [cq_gi, cq_gr, cq_a, cq_s, cq_p, cq_pr, cq_is, cq_ar, cq_ab, cq_ln, xq_nz, Option.bind_some, xup2_n, xup2_s, Int.toNat_natCast, Int.reduceToNat, if_pos, if_neg, true_and, and_true, and_self, eq_self, if_true, reduceIte, not_true_eq_false, not_false_eq_true, or_true, true_or, s72 hs, s78 hs, p72_15 hp, sA, h78, ha, c1]
  · rw [if_neg c1]
    unfold c65_58
    simp (disch := omega) only [cq_gi, cq_gr, cq_a, cq_s, cq_p, cq_pr, cq_is, cq_ar, cq_ab, cq_ln, xq_nz, Option.bind_some, xup2_n, xup2_s, Int.toNat_natCast, Int.reduceToNat, if_pos, if_neg, true_and, and_true, and_self, eq_self, if_true, reduceIte, not_true_eq_false, not_false_eq_true, or_true, true_or, s72 hs, s78 hs, s80 hs, p72_15 hp, p72_17 hp, sA, h78, h80, ha, c1]
theorem twc_k {x b : Int} (hx : x = 1 ∨ x = 2 ∨ x = 3 ∨ x = 4) : twc x b ↔ b = 1 ∧ (mKd x = 6 ∨ mKd x = 14) ∨ b = 2 ∧ mKd x = 7 ∨ b = 3 ∧ mKd x = 6 := by
  unfold twc
  rcases hx with h | h | h | h <;> rw [h]
  · rw [show mKd 1 = 6 from rfl]; omega
  · rw [show mKd 2 = 7 from rfl]; omega
  · rw [show mKd 3 = 14 from rfl]; omega
  · rw [show mKd 4 = 15 from rfl]; omega
theorem mKd_n {x : Int} : ∃ d : Nat, mKd x = (d : Int) ∧ d < 16 := by
  unfold mKd
  by_cases h1 : x = 1
  · rw [if_pos h1]; exact ⟨6, rfl, by decide⟩
  · rw [if_neg h1]
    by_cases h2 : x = 2
    · rw [if_pos h2]; exact ⟨7, rfl, by decide⟩
    · rw [if_neg h2]
      by_cases h3 : x = 3
      · rw [if_pos h3]; exact ⟨14, rfl, by decide⟩
      · rw [if_neg h3]; exact ⟨15, rfl, by decide⟩
/-- toldTwice() -/
theorem k_65l (hs : cSs S) (hA : 278 < A) (sA : S A = (2, 3, 16)) (hM4 : M.length ≤ 1024) (hn : ∀ k, k < M.length → (0 ≤ mN M k ∧ mN M k < 16) ∧ (mW M k = 1 ∨ mW M k = 2 ∨ mW M k = 3 ∨ mW M k = 4)) : ∀ (d i fu : Nat) (G : xG_), i + d = M.length → d < fu → cPs G → cMe G M → (∀ p, p < 16 → ∃ a : Nat, G A p = (a : Int) ∧ isTm M i p a) → ∃ x G', c65_7 f fu 72 A (i : Int) (S, G, m) = some (x, (S, G', m)) ∧ (∀ b j, b ≠ A → G' b j = G b j) ∧ fMp M (fun i => isF1 M i 0) i x := by
  intro d
  induction d with
  | zero =>
    intro i fu G h1 h2 hp hM hT
    obtain ⟨fu, rfl⟩ : ∃ t, fu = t + 1 := ⟨fu - 1, by omega⟩
    have : i = M.length := by omega
    rw [this]
    exact ⟨-1, G, st_65a (r := c65_7 f fu) hs hM.1, fun _ _ _ => rfl, .inl ⟨rfl, fun i z1 z2 => by omega⟩⟩
  | succ d ih =>
    intro i fu G h1 h2 hp hM hT
    obtain ⟨fu, rfl⟩ : ∃ t, fu = t + 1 := ⟨fu - 1, by omega⟩
    obtain ⟨a1, a2, a3, a4⟩ := hM.2 i (by omega)
    obtain ⟨c1, c2⟩ := hn i (by omega)
    have ek : xwr ((i : Int) + 1) = ((i + 1 : Nat) : Int) := by rw [xwr_g _ (by omega) (by omega)]; omega
    obtain ⟨pn, hpn⟩ : ∃ pn : Nat, mN M i = (pn : Int) := ⟨(mN M i).toNat, by omega⟩
    rw [hpn] at a1
    obtain ⟨a, t1, t2, t3⟩ := hT pn (by omega)
    obtain ⟨kd, kd1, kd2⟩ := mKd_n (x := mW M i)
    have hrv : rvl (mKd (mW M i)) < 2147483648 := by
      unfold rvl
      split
      · decide
      · split
        · decide
        · split <;> decide
    have st : c65_7 f (fu + 1) 72 A (i : Int) (S, G, m) = _ := st_65b (r := c65_7 f fu) (A := A) hs hp (by omega) hM4 hM.1 a2
    rw [st, st_65c hs hp hA (by omega) sA (by omega) a1 a3 t1, xand_nat (by omega) hrv, ek]
    have key : a &&& rvl (mKd (mW M i)) = 0 ↔ ¬ isF1 M i 0 := by
      rw [and0]
      constructor
      · rintro h ⟨k, _, k2, k3, k4⟩
        obtain ⟨dk, dk1, dk2⟩ := mKd_n (x := mW M k)
        have hk4 := (twc_k (hn k (by omega)).2).mp k4
        rw [dk1] at hk4
        have := h dk ((rvl_t c2 dk).mpr (by omega))
        rw [(t3 dk).mpr ⟨k, k2, by rw [k3, hpn], dk1⟩] at this
        cases this
      · intro h j hj
        cases hq : a.testBit j with
        | false => rfl
        | true =>
          obtain ⟨k, k1, k2, k3⟩ := (t3 j).mp hq
          refine absurd ⟨k, Nat.zero_le _, k1, by rw [k2, hpn], (twc_k (hn k (by omega)).2).mpr ?_⟩ h
          have := (rvl_t c2 j).mp hj
          rw [k3]
          omega
    by_cases cz : a &&& rvl (mKd (mW M i)) = 0
    · rw [if_pos (by rw [cz]; rfl), kd1, xorb (by omega) (by omega)]
      have hA72 : ∀ b j, b < 279 → xup2 G A pn ((a ||| 2 ^ kd : Nat) : Int) b j = G b j := fun b j hb => xup2_n (by omega)
      obtain ⟨x, G', x1, x2, x3⟩ := ih (i + 1) fu (xup2 G A pn ((a ||| 2 ^ kd : Nat) : Int)) (by omega) (by omega) (hp.read (fun b j _ _ hb => hA72 b j hb)) (hM.ge (hA72 _ _ (by omega)) (fun b k z1 z2 => hA72 _ _ (by omega))) (fun p hp' => by
        by_cases cp : p = pn
        · rw [cp, xup2_s]
          refine ⟨_, rfl, Nat.or_lt_two_pow t2 (Nat.pow_lt_pow_right (by decide) kd2), fun j => ?_⟩
          rw [tb_or, t3]
          constructor
          · rintro (⟨k, k1, k2, k3⟩ | k1)
            · exact ⟨k, by omega, k2, k3⟩
            · exact ⟨i, by omega, hpn, by rw [kd1, k1]⟩
          · rintro ⟨k, k1, k2, k3⟩
            by_cases ck : k = i
            · rw [ck, kd1] at k3
              exact .inr (by omega)
            · exact .inl ⟨k, by omega, k2, k3⟩
        · rw [xup2_n (fun y => cp y.2)]
          obtain ⟨a', u1, u2, u3⟩ := hT p hp'
          refine ⟨a', u1, u2, fun j => ?_⟩
          rw [u3]
          constructor
          · rintro ⟨k, k1, k2, k3⟩
            exact ⟨k, by omega, k2, k3⟩
          · rintro ⟨k, k1, k2, k3⟩
            by_cases ck : k = i
            · rw [ck, hpn] at k2
              omega
            · exact ⟨k, by omega, k2, k3⟩)
      exact ⟨x, G', x1, fun b j hb => by rw [x2 b j hb, xup2_n (fun y => hb y.1)], x3.step (key.mp cz)⟩
    · rw [if_neg (fun y => cz (by omega))]
      exact ⟨_, G, rfl, fun _ _ _ => rfl, .inr ⟨i, Nat.le_refl _, by omega, Classical.not_not.mp (fun y => cz (key.mpr y)), fun j z1 z2 => by omega, rfl⟩⟩
theorem k_65 {sl : Nat} (hf : 1100 < f) (hs : cSs S) (hp : cPs G) (hA : 278 < A) (hM : cMe G M) (hM4 : M.length ≤ 1024) (hn : ∀ k, k < M.length → (0 ≤ mN M k ∧ mN M k < 16) ∧ (mW M k = 1 ∨ mW M k = 2 ∨ mW M k = 3 ∨ mW M k = 4)) : ∃ x S' G', c65 f 72 (S, G, (A, sl)) = some (x, (S', G', (A + 1, sl + 16))) ∧ (∀ b, b < A → S' b = S b) ∧ (∀ b j, b < A → G' b j = G b j) ∧ fMp M (fun i => isF1 M i 0) 0 x := by
  have hs' : cSs (xup1 S A (2, 3, 16)) := fun k hk => by rw [xup1_n (by omega)]; exact hs k hk
  have z : ∀ b j, b < A → xz1 G A (fun _ => 0) b j = G b j := fun b j hb => xz1_n j (by omega)
  obtain ⟨x, G', x1, x2, x3⟩ := k_65l (f := f) (m := (A + 1, sl + 16)) hs' hA (xup1_s _ _ _) hM4 hn M.length 0 f (xz1 G A (fun _ => 0)) (by omega) (by omega) (hp.read (fun b j _ _ hb => z b j (by omega))) (hM.ge (z _ _ (by omega)) (fun b k z1 z2 => z _ _ (by omega))) (fun p _ => ⟨0, xz1_s _ _ _ _, by decide, fun j => by
    rw [Nat.zero_testBit]
    exact ⟨fun q => (by cases q), fun ⟨k, k1, _⟩ => absurd k1 (Nat.not_lt_zero k)⟩⟩)
  refine ⟨x, xup1 S A (2, 3, 16), G', ?_, fun b hb => xup1_n (Nat.ne_of_lt hb), fun b j hb => by rw [x2 b j (by omega), z b j hb], x3⟩
  unfold c65
  rw [cq_na_ok (by decide) (by decide) (by decide), Option.bind_some]
  exact x1
end
end
section
/-! THE CLASS: who reads whom -/
def cRd (G : xG_) (q : Nat) (T : Nat → Nat) : Prop := ∀ p : Nat, p < 16 → G (q + 10) p = (T p : Int)
def tUp (T : Nat → Nat) (h x : Nat) : Nat → Nat := fun p => if p = h then T p ||| x else T p
section
variable {f u q l n r : Nat} {S : Nat → Nat × Nat × Nat} {G : xG_} {m : Nat × Nat} {K : pCd} {Ls : List pLt} {T : Nat → Nat} {r2 : Nat → Int → xT_ → Option (xT_)} {r19 : Nat → Int → Nat → Int → xT_ → Option (xT_)}
theorem st_24a (us : S u = (1, 6, 20)) (h8 : G u 8 = (n : Int)) : c24_19b r2 r19 f q (r : Int) u (n : Int) (S, G, m) = r2 q (xwr ((r : Int) + 1)) (S, G, m) := by
  unfold c24_19b
  simp (disch := omega) only [cq_gi, cq_gr, cq_a, cq_s, cq_p, cq_pr, cq_is, cq_ar, cq_ab, cq_ln, xq_nz, Option.bind_some, xup2_n, xup2_s, Int.toNat_natCast, Int.reduceToNat, if_pos, if_neg, true_and, and_true, and_self, eq_self, if_true, reduceIte, not_true_eq_false, not_false_eq_true, or_true, true_or, us, h8]
theorem st_24b (us : S u = (1, 6, 20)) (h8 : G u 8 = (n : Int)) (hl : l < n) (e : c90 f u (l : Int) (S, G, m) = some (0, (S, G, m))) : c24_19b r2 r19 f q (r : Int) u (l : Int) (S, G, m) = r19 q (r : Int) u (xwr ((l : Int) + 1)) (S, G, m) := by
  unfold c24_19b c24_55
  simp (disch := omega) only [cq_gi, cq_gr, cq_a, cq_s, cq_p, cq_pr, cq_is, cq_ar, cq_ab, cq_ln, xq_nz, Option.bind_some, xup2_n, xup2_s, Int.toNat_natCast, Int.reduceToNat, if_pos, if_neg, true_and, and_true, and_self, eq_self, if_true, reduceIte, not_true_eq_false, not_false_eq_true, or_true, true_or, us, h8, e]
theorem st_24c {h p a : Nat} (hq : 82 < q) (hqu : q + 10 < u) (hl8 : l < 8) (hh : h < 16) (us : S u = (1, 6, 20)) (us3 : S (u + 3) = (2, 3, 8)) (qs : S q = (1, 3, 14)) (q10 : S (q + 10) = (2, 3, 16)) (w10 : G u 10 = ((u + 3 : Nat) : Int)) (w13 : G q 13 = ((q + 10 : Nat) : Int)) (h0 : G u 0 = (h : Int)) (h3 : G (u + 3) l = (p : Int)) (ha : G (q + 10) h = (a : Int)) (h8 : G u 8 = (n : Int)) (hl : l < n) (e : c90 f u (l : Int) (S, G, m) = some (1, (S, G, m))) : c24_19b r2 r19 f q (r : Int) u (l : Int) (S, G, m) = r19 q (r : Int) u (xwr ((l : Int) + 1)) (S, xup2 G (q + 10) h (xor_ (a : Int) (xshl 1 (p : Int))), m) := by
  unfold c24_19b c24_55
  simp (disch := omega) only [cq_gi, cq_gr, cq_a, cq_s, cq_p, cq_pr, cq_is, cq_ar, cq_ab, cq_ln, xq_nz, Option.bind_some, xup2_n, xup2_s, Int.toNat_natCast, Int.reduceToNat, if_pos, if_neg, true_and, and_true, and_self, eq_self, if_true, reduceIte, not_true_eq_false, not_false_eq_true, or_true, true_or, us, us3, qs, q10, w10, w13, h0, h3, ha, h8, e]
theorem cRq.fq {v : Int} {h : Nat} (hR : cRq S G u K Ls) (hqu : q + 10 < u) : cRq S (xup2 G (q + 10) h v) u K Ls := by
  obtain ⟨a1, a2, ⟨k1, k2, k3, k4, k5⟩, a4, a5, a6⟩ := hR
  exact ⟨a1, a2.ge (fun j _ _ => xup2_n (by omega)), ⟨by rw [xup2_n (by omega)]; exact k1, by rw [xup2_n (by omega)]; exact k2, k3, k4, fun k hk => by rw [xup2_n (by omega), xup2_n (by omega)]; exact k5 k hk⟩, a4.rule (xup2_n (by omega)) (fun a j _ _ => xup2_n (by omega)), a5, a6⟩
theorem k_24i {h : Nat} (hq : 82 < q) (hqu : q + 10 < u) (hh : h < 16) (qs : cPgS S q) (hw : ∀ y ∈ Ls, y.1 ≠ 3 → 0 ≤ y.2.1 ∧ y.2.1 < 16) : ∀ (d l fu : Nat) (G : xG_) (T : Nat → Nat), l + d = Ls.length → d < fu → cRq S G u K Ls → G q 13 = ((q + 10 : Nat) : Int) → G u 0 = (h : Int) → b16 T → cRd G q T → ∃ G', c24_19 r2 f fu q (r : Int) u (l : Int) (S, G, m) = r2 q (xwr ((r : Int) + 1)) (S, G', m) ∧ (∀ a j, a ≠ q + 10 → G' a j = G a j) ∧ b16 (tUp T h (qLm (Ls.drop l))) ∧ cRd G' q (tUp T h (qLm (Ls.drop l))) := by
  intro d
  induction d with
  | zero =>
    intro l fu G T h1 h2 hR h13 h0 hT hG
    obtain ⟨fu, rfl⟩ : ∃ t, fu = t + 1 := ⟨fu - 1, by omega⟩
    have : l = Ls.length := by omega
    have e : tUp T h (qLm (Ls.drop l)) = T := by
      rw [this, List.drop_of_length_le (Nat.le_refl _)]
      funext p
      unfold tUp
      split
      · show T p ||| 0 = T p
        exact Nat.or_zero _
      · rfl
    rw [e, this]
    exact ⟨G, st_24a (r19 := c24_19 r2 f fu) hR.1.1 hR.2.2.2.1.1, fun _ _ _ => rfl, hT, hG⟩
  | succ d ih =>
    intro l fu G T h1 h2 hR h13 h0 hT hG
    obtain ⟨fu, rfl⟩ : ∃ t, fu = t + 1 := ⟨fu - 1, by omega⟩
    have hl : l < Ls.length := by omega
    have hl8 := hR.2.2.2.1.2.1
    have hx := hR.2.2.2.1.2.2 l hl
    have ek : xwr ((l : Int) + 1) = ((l + 1 : Nat) : Int) := by rw [xwr_g _ (by omega) (by omega)]; omega
    have e90 := k_90 (f := f) (m := m) hR (by omega) hx
    have ed : qLm (Ls.drop l) = (if (Ls.getD l dLt).1 = 3 then 0 else 2 ^ (Ls.getD l dLt).2.1.toNat) ||| qLm (Ls.drop (l + 1)) := by
      rw [List.drop_eq_getElem_cons hl, getD_e hl]
      rfl
    have hwl := hw (Ls.getD l dLt) (by rw [getD_e hl]; exact List.getElem_mem hl)
    by_cases c3 : (Ls.getD l dLt).1 = 3
    · rw [show (Ls.getD l (0, 0, 0, [], [], [])) = Ls.getD l dLt from rfl, if_pos c3] at e90
      rw [if_pos c3, Nat.zero_or] at ed
      obtain ⟨G', x1, x2⟩ := ih (l + 1) fu G T (by omega) (by omega) hR h13 h0 hT hG
      rw [ed]
      refine ⟨G', ?_, x2⟩
      have st : c24_19 r2 f (fu + 1) q (r : Int) u (l : Int) (S, G, m) = _ := st_24b (r19 := c24_19 r2 f fu) hR.1.1 hR.2.2.2.1.1 hl e90
      rw [st, ek]
      exact x1
    · rw [show (Ls.getD l (0, 0, 0, [], [], [])) = Ls.getD l dLt from rfl, if_neg c3] at e90
      rw [if_neg c3] at ed
      obtain ⟨w1, w2⟩ := hwl c3
      obtain ⟨p, hp⟩ : ∃ p : Nat, (Ls.getD l dLt).2.1 = (p : Int) := ⟨(Ls.getD l dLt).2.1.toNat, by omega⟩
      have h3 : G (u + 3) l = (p : Int) := by
        rcases hx with ⟨_, _, a3, _⟩ | ⟨a1, _⟩
        · rw [a3]; exact hp
        · exact absurd a1 c3
      have hTh : T h < 2 ^ 16 := hT h
      have st : c24_19 r2 f (fu + 1) q (r : Int) u (l : Int) (S, G, m) = _ := st_24c (r19 := c24_19 r2 f fu) hq hqu (by omega) hh hR.1.1 hR.1.2.2.2.1 qs.1 qs.2.2.2.2.2.2.2.2.2.2 hR.2.1.2.2.1 h13 h0 h3 (hG h hh) hR.2.2.2.1.1 hl e90
      rw [xorb (by omega) (by omega), ek] at st
      have hT' : b16 (tUp T h (2 ^ p)) := fun x => by
        unfold tUp
        split
        · exact or_lt (hT x) (by omega)
        · exact hT x
      obtain ⟨G', x1, x2, x3, x4⟩ := ih (l + 1) fu (xup2 G (q + 10) h ((T h ||| 2 ^ p : Nat) : Int)) (tUp T h (2 ^ p)) (by omega) (by omega) (hR.fq hqu) (by rw [xup2_n (by omega)]; exact h13) (by rw [xup2_n (by omega)]; exact h0) hT' (fun x hx => by
        unfold tUp
        by_cases cx : x = h
        · rw [if_pos cx, cx, xup2_s]
        · rw [if_neg cx, xup2_n (fun y => cx y.2)]; exact hG x hx)
      have e : tUp (tUp T h (2 ^ p)) h (qLm (Ls.drop (l + 1))) = tUp T h (qLm (Ls.drop l)) := by
        funext x
        unfold tUp
        by_cases cx : x = h
        · rw [if_pos cx, if_pos cx, if_pos cx, ed, hp, Int.toNat_natCast, Nat.or_assoc]
        · rw [if_neg cx, if_neg cx, if_neg cx]
      rw [e] at x3 x4
      exact ⟨G', st.trans x1, fun a j ha => by rw [x2 a j ha, xup2_n (fun y => ha y.1)], x3, x4⟩
end
end
section
/-! THE CLASS: who reads whom, over all rules -/
theorem qRd_1 : ∀ (R : List pRu) (u : pRu) (p : Nat), qRd (R ++ [u]) p = qRd R p ||| (if (p : Int) = u.1 then qLm u.2.2.2.2.2 else 0)
  | [], u, p => by
    show (if (p : Int) = u.1 then qLm u.2.2.2.2.2 else 0) ||| 0 = 0 ||| _
    rw [Nat.or_zero, Nat.zero_or]
  | x :: R, u, p => by
    show (if (p : Int) = x.1 then qLm x.2.2.2.2.2 else 0) ||| qRd (R ++ [u]) p = (if (p : Int) = x.1 then qLm x.2.2.2.2.2 else 0) ||| qRd R p ||| _
    rw [qRd_1 R u p, Nat.or_assoc]
section
variable {f q nx r n : Nat} {S : Nat → Nat × Nat × Nat} {G : xG_} {m : Nat × Nat} {R : List pRu} {r2 : Nat → Int → xT_ → Option (xT_)}
theorem st_24r {u : Nat} (hq : 82 < q) (hr : r < n) (hn : n ≤ 24) (qs : S q = (1, 3, 14)) (q7 : S (q + 7) = (2, 11, 24)) (h8 : G q 8 = (n : Int)) (w9 : G q 9 = ((q + 7 : Nat) : Int)) (h7 : G (q + 7) r = (u : Int)) : c24_2b r2 f q (r : Int) (S, G, m) = c24_19 r2 f f q (r : Int) u ((0 : Nat) : Int) (S, G, m) := by
  unfold c24_2b
  simp (disch := omega) only [cq_gi, cq_gr, cq_a, cq_s, cq_p, cq_pr, cq_is, cq_ar, cq_ab, cq_ln, xq_nz, Option.bind_some, xup2_n, xup2_s, Int.toNat_natCast, Int.reduceToNat, if_pos, if_neg, true_and, and_true, and_self, eq_self, if_true, reduceIte, not_true_eq_false, not_false_eq_true, or_true, true_or, qs, q7, h8, w9, h7]
  rfl
theorem st_24e {A sl : Nat} (hq : 82 < q) (qs : S q = (1, 3, 14)) (q10 : S (q + 10) = (2, 3, 16)) (h8 : G q 8 = (n : Int)) (w13 : G q 13 = ((q + 10 : Nat) : Int)) : c24_2b r2 f q (n : Int) (S, G, (A, sl)) = c24_80 f f q A ((0 : Nat) : Int) (xup1 S A (2, 3, 16), xz1 G A (G (q + 10)), (A + 1, sl + 16)) := by
  have e1 : cq_cl 3 (q + 10) (S, G, (A, sl)) = some (A, (xup1 S A (2, 3, 16), xz1 G A (G (q + 10)), (A + 1, sl + 16))) := by
    have e0 : cq_cl 3 (q + 10) (S, G, (A, sl)) = some (A, cq_mk (S (q + 10)) (G (q + 10)) (S (q + 10)).2.2 (S, G, (A, sl))) := if_pos ⟨by show (S (q + 10)).1 = 2; rw [q10], by show (S (q + 10)).2.1 = 3; rw [q10], .inl rfl⟩
    rw [e0, q10]
    rfl
  have e2 : cq_ca 3 A (xup1 S A (2, 3, 16), xz1 G A (G (q + 10)), (A + 1, sl + 16)) = some () := by
    exact if_pos ⟨by show (xup1 S A (2, 3, 16) A).1 = 2; rw [xup1_s], by show (xup1 S A (2, 3, 16) A).2.1 = 3; rw [xup1_s]⟩
  unfold c24_2b
  simp (disch := omega) only [cq_gi, cq_gr, cq_a, cq_s, cq_p, cq_pr, cq_is, cq_ar, cq_ab, cq_ln, xq_nz, Option.bind_some, xup2_n, xup2_s, Int.toNat_natCast, Int.reduceToNat, if_pos, if_neg, true_and, and_true, and_self, eq_self, if_true, reduceIte, not_true_eq_false, not_false_eq_true, or_true, true_or, qs, h8, w13, e1, e2]
  rfl
theorem k_24r {A sl : Nat} (hf : 30 < f) (hq : 82 < q) (hP : cPgS S q) (hw : ∀ u ∈ R, (0 ≤ u.1 ∧ u.1 < 16) ∧ ∀ y ∈ u.2.2.2.2.2, y.1 ≠ 3 → 0 ≤ y.2.1 ∧ y.2.1 < 16) : ∀ (d r fu : Nat) (G : xG_), r + d = R.length → d < fu → cPgP G q → cRl S G q nx R → b16 (qRd (R.take r)) → cRd G q (qRd (R.take r)) → ∃ G', c24_2 f fu q (r : Int) (S, G, (A, sl)) = c24_80 f f q A ((0 : Nat) : Int) (xup1 S A (2, 3, 16), xz1 G' A (G' (q + 10)), (A + 1, sl + 16)) ∧ (∀ a j, a ≠ q + 10 → G' a j = G a j) ∧ b16 (qRd R) ∧ cRd G' q (qRd R) := by
  intro d
  induction d with
  | zero =>
    intro r fu G h1 h2 hG hR hT hC
    obtain ⟨fu, rfl⟩ : ∃ t, fu = t + 1 := ⟨fu - 1, by omega⟩
    have : r = R.length := by omega
    rw [this, List.take_length] at hT hC
    rw [this]
    exact ⟨G, st_24e (r2 := c24_2 f fu) hq hP.1 hP.2.2.2.2.2.2.2.2.2.2 hR.1 hG.2.2.2.2.2.2.2.2.2, fun _ _ _ => rfl, hT, hC⟩
  | succ d ih =>
    intro r fu G h1 h2 hG hR hT hC
    obtain ⟨fu, rfl⟩ : ∃ t, fu = t + 1 := ⟨fu - 1, by omega⟩
    have hr : r < R.length := by omega
    have hR24 := hR.2.1
    obtain ⟨u, u1, u2, u3, ⟨K, u4, _⟩, u5, u6⟩ := hR.2.2 r hr
    have hm : R.getD r dRu ∈ R := by rw [getD_e hr]; exact List.getElem_mem hr
    obtain ⟨w1, w2⟩ := hw _ hm
    obtain ⟨h, hh⟩ : ∃ h : Nat, (R.getD r dRu).1 = (h : Int) := ⟨(R.getD r dRu).1.toNat, by omega⟩
    have ek : xwr ((r : Int) + 1) = ((r + 1 : Nat) : Int) := by rw [xwr_g _ (by omega) (by omega)]; omega
    have hl8 := u4.2.2.2.1.2.1
    obtain ⟨G1, x1, x2, x3, x4⟩ := k_24i (f := f) (m := (A, sl)) (r := r) (r2 := c24_2 f fu) hq u2 (by omega : h < 16) hP w2 _ 0 f G (qRd (R.take r)) (Nat.zero_add _) (by omega) u4 hG.2.2.2.2.2.2.2.2.2 (by rw [u5, hh]) hT hC
    rw [List.drop_zero] at x3 x4
    have et : tUp (qRd (R.take r)) h (qLm (R.getD r dRu).2.2.2.2.2) = qRd (R.take (r + 1)) := by
      funext p
      rw [List.take_add_one, List.getElem?_eq_getElem hr, ← getD_e (d := dRu) hr]
      show _ = qRd (R.take r ++ [R.getD r dRu]) p
      rw [qRd_1]
      unfold tUp
      by_cases c : p = h
      · rw [if_pos c, if_pos (by rw [hh, c])]
      · rw [if_neg c, if_neg (by rw [hh]; omega), Nat.or_zero]
    rw [et] at x3 x4
    obtain ⟨G2, y1, y2, y3, y4⟩ := ih (r + 1) fu G1 (by omega) (by omega) (hG.ge (fun j _ _ _ => x2 q j (by omega))) (hR.ge (Nat.le_refl _) (x2 q 8 (by omega)) (fun j _ => x2 (q + 7) j (by omega)) (fun _ _ => rfl) (fun a j z1 z2 => x2 a j (by omega))) x3 x4
    refine ⟨G2, ?_, fun a j ha => by rw [y2 a j ha, x2 a j ha], y3, y4⟩
    have st : c24_2 f (fu + 1) q (r : Int) (S, G, (A, sl)) = _ := st_24r (r2 := c24_2 f fu) hq hr hR24 hP.1 hP.2.2.2.2.2.2.2.1 hR.1 hG.2.2.2.2.2.2.1 u1
    rw [st, x1, ek]
    exact y1
end
end
section
/-! THE CLASS: who reaches whom -/
def cRa (G : xG_) (A : Nat) (T : Nat → Nat) : Prop := ∀ p : Nat, p < 16 → G A p = (T p : Int)
theorem qW1_vv (T : Nat → Nat) (v i : Nat) : qW1 T v i v = T v := by
  unfold qW1
  split
  · exact Nat.or_self _
  · rfl
theorem qW1_ii (T : Nat → Nat) (v i : Nat) : qW1 T v i i = T i := by
  unfold qW1
  rw [if_neg (fun y => Nat.lt_irrefl _ y.1)]
theorem qW1_n (T : Nat → Nat) (v i x : Nat) : qW1 T v (i + 1) x = if x = i ∧ (T i).testBit v = true then T i ||| T v else qW1 T v i x := by
  unfold qW1
  by_cases c : x = i
  · rw [c]
    by_cases b : (T i).testBit v = true
    · rw [if_pos ⟨Nat.lt_succ_self i, b⟩, if_pos ⟨rfl, b⟩]
    · rw [if_neg (fun y => b y.2), if_neg (fun y => b y.2), if_neg (fun y => b y.2)]
  · rw [if_neg (show ¬ (x = i ∧ (T i).testBit v = true) from fun y => c y.1)]
    by_cases z : x < i ∧ (T x).testBit v = true
    · rw [if_pos (show x < i + 1 ∧ (T x).testBit v = true from ⟨by omega, z.2⟩), if_pos z]
    · rw [if_neg (show ¬ (x < i + 1 ∧ (T x).testBit v = true) from fun y => z ⟨by omega, y.2⟩), if_neg z]
section
variable {f q A v i np : Nat} {S : Nat → Nat × Nat × Nat} {G : xG_} {m : Nat × Nat} {T : Nat → Nat} {r80 : Nat → Nat → Int → xT_ → Option (xT_)} {r90 : Nat → Nat → Int → Int → xT_ → Option (xT_)}
theorem st_90a (qs : S q = (1, 3, 14)) (h1 : G q 1 = (np : Int)) : c24_90b r80 r90 f q A (v : Int) (np : Int) (S, G, m) = r80 q A (xwr ((v : Int) + 1)) (S, G, m) := by
  unfold c24_90b
  simp (disch := omega) only [cq_gi, cq_gr, cq_a, cq_s, cq_p, cq_pr, cq_is, cq_ar, cq_ab, cq_ln, xq_nz, Option.bind_some, xup2_n, xup2_s, Int.toNat_natCast, Int.reduceToNat, if_pos, if_neg, true_and, and_true, and_self, eq_self, if_true, reduceIte, not_true_eq_false, not_false_eq_true, or_true, true_or, qs, h1]
theorem st_90b {a b : Nat} (hi : i < np) (hv : v < 16) (hn : np ≤ 16) (qs : S q = (1, 3, 14)) (sA : S A = (2, 3, 16)) (h1 : G q 1 = (np : Int)) (ha : G A i = (a : Int)) (hb : G A v = (b : Int)) : c24_90b r80 r90 f q A (v : Int) (i : Int) (S, G, m) = if xand (xshr (a : Int) (v : Int)) 1 = 1 then r90 q A (v : Int) (xwr ((i : Int) + 1)) (S, xup2 G A i (xor_ (a : Int) (b : Int)), m) else r90 q A (v : Int) (xwr ((i : Int) + 1)) (S, G, m) := by
  by_cases c : xand (xshr (a : Int) (v : Int)) 1 = 1
  · rw [if_pos c]
    unfold c24_90b c24_118
    simp (disch := omega) only [cq_gi, cq_gr, cq_a, cq_s, cq_p, cq_pr, cq_is, cq_ar, cq_ab, cq_ln, xq_nz, Option.bind_some, xup2_n, xup2_s, Int.toNat_natCast, Int.reduceToNat, if_pos, if_neg, true_and, and_true, and_self, eq_self, if_true, reduceIte, not_true_eq_false, not_false_eq_true, or_true, true_or, qs, sA, h1, ha, hb, c]
  · rw [if_neg c]
    unfold c24_90b c24_118
    simp (disch := omega) only [cq_gi, cq_gr, cq_a, cq_s, cq_p, cq_pr, cq_is, cq_ar, cq_ab, cq_ln, xq_nz, Option.bind_some, xup2_n, xup2_s, Int.toNat_natCast, Int.reduceToNat, if_pos, if_neg, true_and, and_true, and_self, eq_self, if_true, reduceIte, not_true_eq_false, not_false_eq_true, or_true, true_or, qs, sA, h1, ha, c]
theorem k_90i (hqA : q ≠ A) (hv : v < np) (hn : np ≤ 16) (qs : S q = (1, 3, 14)) (sA : S A = (2, 3, 16)) (hT : b16 T) : ∀ (d i fu : Nat) (G : xG_), i + d = np → d < fu → G q 1 = (np : Int) → cRa G A (qW1 T v i) → ∃ G', c24_90 r80 f fu q A (v : Int) (i : Int) (S, G, m) = r80 q A ((v + 1 : Nat) : Int) (S, G', m) ∧ (∀ a j, a ≠ A → G' a j = G a j) ∧ cRa G' A (qW1 T v np) := by
  have ev : xwr ((v : Int) + 1) = ((v + 1 : Nat) : Int) := by rw [xwr_g _ (by omega) (by omega)]; omega
  intro d
  induction d with
  | zero =>
    intro i fu G h1 h2 hq1 hC
    obtain ⟨fu, rfl⟩ : ∃ t, fu = t + 1 := ⟨fu - 1, by omega⟩
    have : i = np := by omega
    rw [this] at hC ⊢
    refine ⟨G, ?_, fun _ _ _ => rfl, hC⟩
    have st : c24_90 r80 f (fu + 1) q A (v : Int) (np : Int) (S, G, m) = _ := st_90a (r90 := c24_90 r80 f fu) qs hq1
    rw [st, ev]
  | succ d ih =>
    intro i fu G h1 h2 hq1 hC
    obtain ⟨fu, rfl⟩ : ∃ t, fu = t + 1 := ⟨fu - 1, by omega⟩
    have ek : xwr ((i : Int) + 1) = ((i + 1 : Nat) : Int) := by rw [xwr_g _ (by omega) (by omega)]; omega
    have ha := hC i (by omega)
    have hb := hC v (by omega)
    rw [qW1_ii] at ha
    rw [qW1_vv] at hb
    have st : c24_90 r80 f (fu + 1) q A (v : Int) (i : Int) (S, G, m) = _ := st_90b (r90 := c24_90 r80 f fu) (by omega) (by omega) hn qs sA hq1 ha hb
    have hti := hT i
    have htv := hT v
    have hbit := xbit (a := T i) (m := v) (by omega) (by omega)
    rw [xor_nat (by omega) (by omega), ek] at st
    rw [st]
    by_cases c : xand (xshr (T i : Int) (v : Int)) 1 = 1
    · rw [if_pos c]
      obtain ⟨G', x1, x2, x3⟩ := ih (i + 1) fu (xup2 G A i ((T i ||| T v : Nat) : Int)) (by omega) (by omega) (by rw [xup2_n (fun y => hqA y.1)]; exact hq1) (fun x hx => by
        rw [qW1_n]
        by_cases cx : x = i
        · rw [cx, xup2_s, if_pos ⟨rfl, hbit.mp c⟩]
        · rw [xup2_n (fun y => cx y.2), if_neg (fun y => cx y.1)]; exact hC x hx)
      exact ⟨G', x1, fun a j ha => by rw [x2 a j ha, xup2_n (fun y => ha y.1)], x3⟩
    · rw [if_neg c]
      exact ih (i + 1) fu G (by omega) (by omega) hq1 (fun x hx => by
        rw [qW1_n, if_neg (fun y => c (hbit.mpr y.2))]
        exact hC x hx)
theorem st_80a (qs : S q = (1, 3, 14)) (h1 : G q 1 = (np : Int)) (hv : v < np) : c24_80b r80 f q A (v : Int) (S, G, m) = c24_90 r80 f f q A (v : Int) ((0 : Nat) : Int) (S, G, m) := by
  unfold c24_80b
  simp (disch := omega) only [cq_gi, cq_gr, cq_a, cq_s, cq_p, cq_pr, cq_is, cq_ar, cq_ab, cq_ln, xq_nz, Option.bind_some, xup2_n, xup2_s, Int.toNat_natCast, Int.reduceToNat, if_pos, if_neg, true_and, and_true, and_self, eq_self, if_true, reduceIte, not_true_eq_false, not_false_eq_true, or_true, true_or, qs, h1]
  rfl
theorem st_80b (qs : S q = (1, 3, 14)) (h1 : G q 1 = (np : Int)) : c24_80b r80 f q A (np : Int) (S, G, m) = c24_132 f f q A ((0 : Nat) : Int) (S, G, m) := by
  unfold c24_80b
  simp (disch := omega) only [cq_gi, cq_gr, cq_a, cq_s, cq_p, cq_pr, cq_is, cq_ar, cq_ab, cq_ln, xq_nz, Option.bind_some, xup2_n, xup2_s, Int.toNat_natCast, Int.reduceToNat, if_pos, if_neg, true_and, and_true, and_self, eq_self, if_true, reduceIte, not_true_eq_false, not_false_eq_true, or_true, true_or, qs, h1]
  rfl
theorem qW1_00 (T : Nat → Nat) (v : Nat) : qW1 T v 0 = T := by
  funext p
  unfold qW1
  rw [if_neg (fun y => Nat.not_lt_zero p y.1)]
theorem qWm_b {T : Nat → Nat} (hT : b16 T) : ∀ k, b16 (qWm np T k)
  | 0 => hT
  | k + 1 => qW1_lt (qWm_b hT k)
theorem k_80 (hf : 30 < f) (hqA : q ≠ A) (hn : np ≤ 16) (qs : S q = (1, 3, 14)) (sA : S A = (2, 3, 16)) (hT : b16 T) : ∀ (d v fu : Nat) (G : xG_), v + d = np → d < fu → G q 1 = (np : Int) → cRa G A (qWm np T v) → ∃ G', c24_80 f fu q A (v : Int) (S, G, m) = c24_132 f f q A ((0 : Nat) : Int) (S, G', m) ∧ (∀ a j, a ≠ A → G' a j = G a j) ∧ cRa G' A (qWm np T np) := by
  intro d
  induction d with
  | zero =>
    intro v fu G h1 h2 hq1 hC
    obtain ⟨fu, rfl⟩ : ∃ t, fu = t + 1 := ⟨fu - 1, by omega⟩
    have : v = np := by omega
    rw [this] at hC ⊢
    exact ⟨G, st_80b (r80 := c24_80 f fu) qs hq1, fun _ _ _ => rfl, hC⟩
  | succ d ih =>
    intro v fu G h1 h2 hq1 hC
    obtain ⟨fu, rfl⟩ : ∃ t, fu = t + 1 := ⟨fu - 1, by omega⟩
    obtain ⟨G1, x1, x2, x3⟩ := k_90i (f := f) (m := m) (r80 := c24_80 f fu) hqA (by omega : v < np) hn qs sA (qWm_b (np := np) hT v) np 0 f G (by omega) (by omega) hq1 (by rw [qW1_00]; exact hC)
    obtain ⟨G2, y1, y2, y3⟩ := ih (v + 1) fu G1 (by omega) (by omega) (by rw [x2 q 1 hqA]; exact hq1) x3
    refine ⟨G2, ?_, fun a j ha => by rw [y2 a j ha, x2 a j ha], y3⟩
    have st : c24_80 f (fu + 1) q A (v : Int) (S, G, m) = _ := st_80a (r80 := c24_80 f fu) qs hq1 (by omega)
    rw [st, x1]
    exact y1
end
end
section
/-! THE CLASS: RINGS -/
section
variable {f q A x k np : Nat} {S : Nat → Nat × Nat × Nat} {G : xG_} {m : Nat × Nat} {T : Nat → Nat} {r132 : Nat → Nat → Int → xT_ → Option (xT_)} {r151 : Nat → Nat → Int → Int → xT_ → Option (xT_)}
theorem st_151 {a b : Nat} (hq : 82 < q) (hk : k < 16) (hx : x < 16) (qs : S q = (1, 3, 14)) (q8 : S (q + 8) = (2, 3, 16)) (sA : S A = (2, 3, 16)) (w10 : G q 10 = ((q + 8 : Nat) : Int)) (ha : G A x = (a : Int)) (hb : G A k = (b : Int)) : c24_151b r132 r151 f q A (x : Int) (k : Int) (S, G, m) = if xand (xshr (a : Int) (k : Int)) 1 = 1 ∧ xand (xshr (b : Int) (x : Int)) 1 = 1 then r151 q A (x : Int) (xwr ((k : Int) + (-1))) (S, xup2 G (q + 8) x (k : Int), m) else r151 q A (x : Int) (xwr ((k : Int) + (-1))) (S, G, m) := by
  by_cases c1 : xand (xshr (a : Int) (k : Int)) 1 = 1
  · by_cases c2 : xand (xshr (b : Int) (x : Int)) 1 = 1
    · rw [if_pos ⟨c1, c2⟩]
      unfold c24_151b c24_184
      simp (disch := omega) only [cq_gi, cq_gr, cq_a, cq_s, cq_p, cq_pr, cq_is, cq_ar, cq_ab, cq_ln, xq_nz, Option.bind_some, xup2_n, xup2_s, Int.toNat_natCast, Int.reduceToNat, if_pos, if_neg, true_and, and_true, and_self, eq_self, if_true, reduceIte, not_true_eq_false, not_false_eq_true, or_true, true_or, qs, q8, sA, w10, ha, hb, c1, c2]
    · rw [if_neg (fun y => c2 y.2)]
      unfold c24_151b c24_184
      simp (disch := omega) only [cq_gi, cq_gr, cq_a, cq_s, cq_p, cq_pr, cq_is, cq_ar, cq_ab, cq_ln, xq_nz, Option.bind_some, xup2_n, xup2_s, Int.toNat_natCast, Int.reduceToNat, if_pos, if_neg, true_and, and_true, and_self, eq_self, if_true, reduceIte, not_true_eq_false, not_false_eq_true, or_true, true_or, sA, ha, hb, c1, c2]
  · rw [if_neg (fun y => c1 y.1)]
    unfold c24_151b c24_184
    simp (disch := omega) only [cq_gi, cq_gr, cq_a, cq_s, cq_p, cq_pr, cq_is, cq_ar, cq_ab, cq_ln, xq_nz, Option.bind_some, xup2_n, xup2_s, Int.toNat_natCast, Int.reduceToNat, if_pos, if_neg, true_and, and_true, and_self, eq_self, if_true, reduceIte, not_true_eq_false, not_false_eq_true, or_true, true_or, sA, ha, c1]
/-- one RING's number -/
theorem k_151 (hq : 82 < q) (hqA : q + 10 < A) (hx : x < 16) (qs : cPgS S q) (sA : S A = (2, 3, 16)) (hT : b16 T) : ∀ (k fu c : Nat) (G : xG_), k ≤ x → k < fu → G q 10 = ((q + 8 : Nat) : Int) → cRa G A T → G (q + 8) x = (c : Int) → ∃ G', c24_151 r132 f fu q A (x : Int) ((k : Int) - 1) (S, G, m) = r132 q A ((x + 1 : Nat) : Int) (S, G', m) ∧ (∀ a j, ¬ (a = q + 8 ∧ j = x) → G' a j = G a j) ∧ G' (q + 8) x = ((qRg T x k c : Nat) : Int) := by
  have ex : xwr ((x : Int) + 1) = ((x + 1 : Nat) : Int) := by rw [xwr_g _ (by omega) (by omega)]; omega
  intro k
  induction k with
  | zero =>
    intro fu c G h1 h2 hw hC hc
    obtain ⟨fu, rfl⟩ : ∃ t, fu = t + 1 := ⟨fu - 1, by omega⟩
    refine ⟨G, ?_, fun _ _ _ => rfl, hc⟩
    show c24_151b r132 (c24_151 r132 f fu) f q A _ _ _ = _
    unfold c24_151b
    rw [if_pos (by omega), ex]
  | succ k ih =>
    intro fu c G h1 h2 hw hC hc
    obtain ⟨fu, rfl⟩ : ∃ t, fu = t + 1 := ⟨fu - 1, by omega⟩
    have ek : xwr ((k : Int) + (-1)) = (k : Int) - 1 := by rw [xwr_g _ (by omega) (by omega)]; omega
    have ek' : ((k + 1 : Nat) : Int) - 1 = (k : Int) := by omega
    have h1' := hT x
    have h2' := hT k
    have b1 := xbit (a := T x) (m := k) (by omega) (by omega)
    have b2 := xbit (a := T k) (m := x) (by omega) (by omega)
    have st := st_151 (f := f) (m := m) (r132 := r132) (r151 := c24_151 r132 f fu) hq (by omega : k < 16) hx qs.1 qs.2.2.2.2.2.2.2.2.1 sA hw (hC x hx) (hC k (by omega))
    rw [ek] at st
    rw [ek']
    show ∃ G' : xG_, c24_151b r132 (c24_151 r132 f fu) f q A _ _ _ = _ ∧ _ ∧ G' (q + 8) x = ((qRg T x k (if (T x).testBit k = true ∧ (T k).testBit x = true then k else c) : Nat) : Int)
    rw [st]
    by_cases cc : (T x).testBit k = true ∧ (T k).testBit x = true
    · rw [if_pos cc, if_pos ⟨b1.mpr cc.1, b2.mpr cc.2⟩]
      obtain ⟨G', x1, x2, x3⟩ := ih fu k (xup2 G (q + 8) x (k : Int)) (by omega) (by omega) (by rw [xup2_n (by omega)]; exact hw) (fun p hp => by rw [xup2_n (by omega)]; exact hC p hp) (xup2_s _ _ _ _)
      exact ⟨G', x1, fun a j z => by rw [x2 a j z, xup2_n z], x3⟩
    · rw [if_neg cc, if_neg (fun y => cc ⟨b1.mp y.1, b2.mp y.2⟩)]
      exact ih fu c G (by omega) (by omega) hw hC hc
theorem st_132 (hq : 82 < q) (hx : x < np) (hn : np ≤ 16) (qs : S q = (1, 3, 14)) (q8 : S (q + 8) = (2, 3, 16)) (w10 : G q 10 = ((q + 8 : Nat) : Int)) (h1 : G q 1 = (np : Int)) (ex : xwr ((x : Int) - 1) = (x : Int) - 1) : c24_132b r132 f q A (x : Int) (S, G, m) = c24_151 r132 f f q A (x : Int) ((x : Int) - 1) (S, xup2 G (q + 8) x (x : Int), m) := by
  unfold c24_132b
  simp (disch := omega) only [cq_gi, cq_gr, cq_a, cq_s, cq_p, cq_pr, cq_is, cq_ar, cq_ab, cq_ln, xq_nz, Option.bind_some, xup2_n, xup2_s, Int.toNat_natCast, Int.reduceToNat, if_pos, if_neg, true_and, and_true, and_self, eq_self, if_true, reduceIte, not_true_eq_false, not_false_eq_true, or_true, true_or, qs, q8, w10, h1, ex]
theorem st_132e {T' : xT_} (qs : S q = (1, 3, 14)) (h1 : G q 1 = (np : Int)) (e : c25 f q (S, G, m) = some T') : c24_132b r132 f q A (np : Int) (S, G, m) = some T' := by
  unfold c24_132b
  simp (disch := omega) only [cq_gi, cq_gr, cq_a, cq_s, cq_p, cq_pr, cq_is, cq_ar, cq_ab, cq_ln, xq_nz, Option.bind_some, xup2_n, xup2_s, Int.toNat_natCast, Int.reduceToNat, if_pos, if_neg, true_and, and_true, and_self, eq_self, if_true, reduceIte, not_true_eq_false, not_false_eq_true, or_true, true_or, qs, h1, e]
/-- all RINGS -/
theorem k_132 {T' : xT_} (hf : 30 < f) (hq : 82 < q) (hqA : q + 10 < A) (hn : np ≤ 16) (qs : cPgS S q) (sA : S A = (2, 3, 16)) (hT : b16 T) : ∀ (d x fu : Nat) (G : xG_), x + d = np → d < fu → G q 10 = ((q + 8 : Nat) : Int) → G q 1 = (np : Int) → cRa G A T → (∀ p, p < x → G (q + 8) p = ((qRing T p : Nat) : Int)) → ∃ G', (∀ T', c25 f q (S, G', m) = some T' → c24_132 f fu q A (x : Int) (S, G, m) = some T') ∧ (∀ a j, a ≠ q + 8 → G' a j = G a j) ∧ ∀ p, p < np → G' (q + 8) p = ((qRing T p : Nat) : Int) := by
  intro d
  induction d with
  | zero =>
    intro x fu G h1 h2 hw hq1 hC hR
    obtain ⟨fu, rfl⟩ : ∃ t, fu = t + 1 := ⟨fu - 1, by omega⟩
    have : x = np := by omega
    rw [this] at hR ⊢
    exact ⟨G, fun T' e => st_132e (r132 := c24_132 f fu) qs.1 hq1 e, fun _ _ _ => rfl, hR⟩
  | succ d ih =>
    intro x fu G h1 h2 hw hq1 hC hR
    obtain ⟨fu, rfl⟩ : ∃ t, fu = t + 1 := ⟨fu - 1, by omega⟩
    have ex : xwr ((x : Int) - 1) = (x : Int) - 1 := xwr_g _ (by omega) (by omega)
    obtain ⟨G1, x1, x2, x3⟩ := k_151 (f := f) (m := m) (r132 := c24_132 f fu) hq hqA (by omega : x < 16) qs sA hT x f x (xup2 G (q + 8) x (x : Int)) (Nat.le_refl _) (by omega) (by rw [xup2_n (by omega)]; exact hw) (fun p hp => by rw [xup2_n (by omega)]; exact hC p hp) (xup2_s _ _ _ _)
    have z1 : ∀ a j, ¬ (a = q + 8 ∧ j = x) → G1 a j = G a j := fun a j z => by rw [x2 a j z, xup2_n z]
    obtain ⟨G2, y1, y2, y3⟩ := ih (x + 1) fu G1 (by omega) (by omega) (by rw [z1 _ _ (by omega)]; exact hw) (by rw [z1 _ _ (by omega)]; exact hq1) (fun p hp => by rw [z1 _ _ (by omega)]; exact hC p hp) (fun p hp => by
      by_cases cp : p = x
      · rw [cp]; exact x3
      · rw [z1 _ _ (fun y => cp y.2)]; exact hR p (by omega))
    refine ⟨G2, fun T' e => ?_, fun a j ha => by rw [y2 a j ha, z1 a j (fun y => ha y.1)], y3⟩
    have st : c24_132 f (fu + 1) q A (x : Int) (S, G, m) = _ := st_132 (r132 := c24_132 f fu) (A := A) hq (by omega) hn qs.1 qs.2.2.2.2.2.2.2.2.1 hw hq1 ex
    rw [st, x1]
    exact y1 T' e
end
end
section
/-! THE CLASS: members of a RING, what it reads -/
/-- the predicates below k of a RING -/
def qMb (T : Nat → Nat) (g : Nat) : Nat → Nat
  | 0 => 0
  | k + 1 => qMb T g k ||| (if qRing T k = g then 2 ^ k else 0)
/-- what those read -/
def qMr (T D : Nat → Nat) (g : Nat) : Nat → Nat
  | 0 => 0
  | k + 1 => qMr T D g k ||| (if qRing T k = g then D k else 0)
theorem qMb_16 (T : Nat → Nat) (g : Nat) : ∀ k, k ≤ 16 → qMb T g k < 2 ^ 16
  | 0, _ => by show 0 < 2 ^ 16; decide
  | k + 1, h => Nat.or_lt_two_pow (qMb_16 T g k (by omega)) (by
      split
      · exact Nat.pow_lt_pow_right (by decide) (by omega)
      · decide)
theorem qMr_16 {T D : Nat → Nat} {g : Nat} (hD : b16 D) : ∀ k, qMr T D g k < 2 ^ 16
  | 0 => by show 0 < 2 ^ 16; decide
  | k + 1 => Nat.or_lt_two_pow (qMr_16 hD k) (by
      split
      · exact hD k
      · decide)
section
variable {f q g k np : Nat} {S : Nat → Nat × Nat × Nat} {G : xG_} {m : Nat × Nat} {T D : Nat → Nat} {r4 : Nat → Int → Int → Int → xT_ → Option (Int × xT_)} {a : Int}
theorem st_26a (qs : S q = (1, 3, 14)) (h1 : G q 1 = (np : Int)) : c26_4b r4 f q (g : Int) a (np : Int) (S, G, m) = some (a, (S, G, m)) := by
  unfold c26_4b
  simp (disch := omega) only [cq_gi, cq_gr, cq_a, cq_s, cq_p, cq_pr, cq_is, cq_ar, cq_ab, cq_ln, xq_nz, Option.bind_some, xup2_n, xup2_s, Int.toNat_natCast, Int.reduceToNat, if_pos, if_neg, true_and, and_true, and_self, eq_self, if_true, reduceIte, not_true_eq_false, not_false_eq_true, or_true, true_or, qs, h1]
theorem st_26b {x : Nat} (hq : 82 < q) (hk : k < np) (hn : np ≤ 16) (qs : S q = (1, 3, 14)) (q8 : S (q + 8) = (2, 3, 16)) (w10 : G q 10 = ((q + 8 : Nat) : Int)) (h1 : G q 1 = (np : Int)) (hx : G (q + 8) k = (x : Int)) : c26_4b r4 f q (g : Int) a (k : Int) (S, G, m) = if x = g then r4 q (g : Int) (xor_ a (xshl 1 (k : Int))) (xwr ((k : Int) + 1)) (S, G, m) else r4 q (g : Int) (xor_ a 0) (xwr ((k : Int) + 1)) (S, G, m) := by
  by_cases c : x = g
  · rw [if_pos c]
    rw [c] at hx
    unfold c26_4b c26_30
    simp (disch := omega) only [cq_gi, cq_gr, cq_a, cq_s, cq_p, cq_pr, cq_is, cq_ar, cq_ab, cq_ln, xq_nz, Option.bind_some, xup2_n, xup2_s, Int.toNat_natCast, Int.reduceToNat, if_pos, if_neg, true_and, and_true, and_self, eq_self, if_true, reduceIte, not_true_eq_false, not_false_eq_true, or_true, true_or, qs, q8, w10, h1, hx]
  · rw [if_neg c]
    unfold c26_4b c26_30
    simp (disch := omega) only [cq_gi, cq_gr, cq_a, cq_s, cq_p, cq_pr, cq_is, cq_ar, cq_ab, cq_ln, xq_nz, Option.bind_some, xup2_n, xup2_s, Int.toNat_natCast, Int.reduceToNat, if_pos, if_neg, true_and, and_true, and_self, eq_self, if_true, reduceIte, not_true_eq_false, not_false_eq_true, or_true, true_or, qs, q8, w10, h1, hx]
theorem xor_0 {x : Nat} (h : x < 2147483648) : xor_ (x : Int) 0 = (x : Int) := by
  have := xor_nat (a := x) (b := 0) h (by decide)
  rw [Nat.or_zero] at this
  exact this
/-- membersOf() -/
theorem k_26 (hf : 30 < f) (hq : 82 < q) (hn : np ≤ 16) (qs : cPgS S q) (hG : cPgP G q) (h1 : G q 1 = (np : Int)) (hR : ∀ p, p < np → G (q + 8) p = ((qRing T p : Nat) : Int)) : c26 f q (g : Int) (S, G, m) = some ((qMb T g np : Int), (S, G, m)) := by
  have loop : ∀ (d k fu : Nat), k + d = np → d < fu → c26_4 f fu q (g : Int) ((qMb T g k : Nat) : Int) (k : Int) (S, G, m) = some ((qMb T g np : Int), (S, G, m)) := by
    intro d
    induction d with
    | zero =>
      intro k fu e1 e2
      obtain ⟨fu, rfl⟩ : ∃ t, fu = t + 1 := ⟨fu - 1, by omega⟩
      have : k = np := by omega
      rw [this]
      exact st_26a (r4 := c26_4 f fu) qs.1 h1
    | succ d ih =>
      intro k fu e1 e2
      obtain ⟨fu, rfl⟩ : ∃ t, fu = t + 1 := ⟨fu - 1, by omega⟩
      have ek : xwr ((k : Int) + 1) = ((k + 1 : Nat) : Int) := by rw [xwr_g _ (by omega) (by omega)]; omega
      have b := qMb_16 T g k (by omega)
      have st : c26_4 f (fu + 1) q (g : Int) ((qMb T g k : Nat) : Int) (k : Int) (S, G, m) = _ := st_26b (r4 := c26_4 f fu) hq (by omega) hn qs.1 qs.2.2.2.2.2.2.2.2.1 hG.2.2.2.2.2.2.2.1 h1 (hR k (by omega))
      have i := ih (k + 1) fu (by omega) (by omega)
      rw [show qMb T g (k + 1) = qMb T g k ||| (if qRing T k = g then 2 ^ k else 0) from rfl] at i
      rw [st, ek]
      by_cases c : qRing T k = g
      · rw [if_pos c] at i ⊢
        rw [xorb (by omega) (by omega)]
        exact i
      · rw [if_neg c, Nat.or_zero] at i
        rw [if_neg c, xor_0 (by omega)]
        exact i
  exact loop np 0 f (by omega) (by omega)
end
end
section
/-! THE CLASS: what a RING reads outside itself -/
section
variable {f q g k np : Nat} {S : Nat → Nat × Nat × Nat} {G : xG_} {m : Nat × Nat} {T D : Nat → Nat} {r4 : Nat → Int → Int → Int → xT_ → Option (Int × xT_)} {a : Int}
theorem st_27a {b : Int} (qs : S q = (1, 3, 14)) (h1 : G q 1 = (np : Int)) (e : c26 f q (g : Int) (S, G, m) = some (b, (S, G, m))) : c27_4b r4 f q (g : Int) a (np : Int) (S, G, m) = some (xand a (xxor b (-1)), (S, G, m)) := by
  unfold c27_4b
  simp (disch := omega) only [cq_gi, cq_gr, cq_a, cq_s, cq_p, cq_pr, cq_is, cq_ar, cq_ab, cq_ln, xq_nz, Option.bind_some, xup2_n, xup2_s, Int.toNat_natCast, Int.reduceToNat, if_pos, if_neg, true_and, and_true, and_self, eq_self, if_true, reduceIte, not_true_eq_false, not_false_eq_true, or_true, true_or, qs, h1, e]
theorem st_27b {x y : Nat} (hq : 82 < q) (hk : k < np) (hn : np ≤ 16) (qs : S q = (1, 3, 14)) (q8 : S (q + 8) = (2, 3, 16)) (q10 : S (q + 10) = (2, 3, 16)) (w10 : G q 10 = ((q + 8 : Nat) : Int)) (w13 : G q 13 = ((q + 10 : Nat) : Int)) (h1 : G q 1 = (np : Int)) (hx : G (q + 8) k = (x : Int)) (hy : G (q + 10) k = (y : Int)) : c27_4b r4 f q (g : Int) a (k : Int) (S, G, m) = if x = g then r4 q (g : Int) (xor_ a (y : Int)) (xwr ((k : Int) + 1)) (S, G, m) else r4 q (g : Int) (xor_ a 0) (xwr ((k : Int) + 1)) (S, G, m) := by
  by_cases c : x = g
  · rw [if_pos c]
    rw [c] at hx
    unfold c27_4b c27_33
    simp (disch := omega) only [cq_gi, cq_gr, cq_a, cq_s, cq_p, cq_pr, cq_is, cq_ar, cq_ab, cq_ln, xq_nz, Option.bind_some, xup2_n, xup2_s, Int.toNat_natCast, Int.reduceToNat, if_pos, if_neg, true_and, and_true, and_self, eq_self, if_true, reduceIte, not_true_eq_false, not_false_eq_true, or_true, true_or, qs, q8, q10, w10, w13, h1, hx, hy]
  · rw [if_neg c]
    unfold c27_4b c27_33
    simp (disch := omega) only [cq_gi, cq_gr, cq_a, cq_s, cq_p, cq_pr, cq_is, cq_ar, cq_ab, cq_ln, xq_nz, Option.bind_some, xup2_n, xup2_s, Int.toNat_natCast, Int.reduceToNat, if_pos, if_neg, true_and, and_true, and_self, eq_self, if_true, reduceIte, not_true_eq_false, not_false_eq_true, or_true, true_or, qs, q8, w10, h1, hx]
/-- readsOf() -/
theorem k_27 (hf : 30 < f) (hq : 82 < q) (hn : np ≤ 16) (qs : cPgS S q) (hG : cPgP G q) (h1 : G q 1 = (np : Int)) (hR : ∀ p, p < np → G (q + 8) p = ((qRing T p : Nat) : Int)) (hD : b16 D) (hC : cRd G q D) : ∃ w : Nat, w < 65536 ∧ c27 f q (g : Int) (S, G, m) = some ((w : Int), (S, G, m)) ∧ ∀ j, w.testBit j = true ↔ (qMr T D g np).testBit j = true ∧ (qMb T g np).testBit j = false := by
  have e26 := k_26 (f := f) (m := m) (g := g) hf hq hn qs hG h1 hR
  obtain ⟨w, w1, w2, w3⟩ := xandn (qMr_16 (T := T) (g := g) hD np) (qMb_16 T g np hn)
  have loop : ∀ (d k fu : Nat), k + d = np → d < fu → c27_4 f fu q (g : Int) ((qMr T D g k : Nat) : Int) (k : Int) (S, G, m) = some ((w : Int), (S, G, m)) := by
    intro d
    induction d with
    | zero =>
      intro k fu e1 e2
      obtain ⟨fu, rfl⟩ : ∃ t, fu = t + 1 := ⟨fu - 1, by omega⟩
      have : k = np := by omega
      rw [this, ← w2]
      exact st_27a (r4 := c27_4 f fu) qs.1 h1 e26
    | succ d ih =>
      intro k fu e1 e2
      obtain ⟨fu, rfl⟩ : ∃ t, fu = t + 1 := ⟨fu - 1, by omega⟩
      have ek : xwr ((k : Int) + 1) = ((k + 1 : Nat) : Int) := by rw [xwr_g _ (by omega) (by omega)]; omega
      have b := qMr_16 (T := T) (g := g) hD k
      have b' := hD k
      have st : c27_4 f (fu + 1) q (g : Int) ((qMr T D g k : Nat) : Int) (k : Int) (S, G, m) = _ := st_27b (r4 := c27_4 f fu) hq (by omega) hn qs.1 qs.2.2.2.2.2.2.2.2.1 qs.2.2.2.2.2.2.2.2.2.2 hG.2.2.2.2.2.2.2.1 hG.2.2.2.2.2.2.2.2.2 h1 (hR k (by omega)) (hC k (by omega))
      have i := ih (k + 1) fu (by omega) (by omega)
      rw [show qMr T D g (k + 1) = qMr T D g k ||| (if qRing T k = g then D k else 0) from rfl] at i
      rw [st, ek]
      by_cases c : qRing T k = g
      · rw [if_pos c] at i ⊢
        rw [xor_nat (by omega) (by omega)]
        exact i
      · rw [if_neg c, Nat.or_zero] at i
        rw [if_neg c, xor_0 (by omega)]
        exact i
  exact ⟨w, w1, loop np 0 f (by omega) (by omega), w3⟩
end
end
