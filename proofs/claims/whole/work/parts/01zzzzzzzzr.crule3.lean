/-! THE CLASS reads rules: behind the ITEMS -/
def c43_99t (f : Nat) (x0 : Nat) (x1 : Int) (R171 : ((Nat ⊕ Unit) × xT_)) : Option ((Nat ⊕ Unit) × xT_) := cth R171 (fun _ => ((cq_gr 4 5 20 (x0) R171.2).bind fun v179 => ((cq_gi 6 0 20 (v179) R171.2).bind fun v181 => ((cq_gr 4 5 20 (x0) R171.2).bind fun v183 => ((cq_gi 6 2 20 (v183) R171.2).bind fun v185 => ((cq_is 4 20 (x0) R171.2).bind fun _ => ((c40 f (x0) (14) (v181) (x1) (v185) R171.2).bind fun R187 => ((cq_gr 4 3 20 (x0) R187).bind fun v193 => ((cq_gr 3 7 14 (v193) R187).bind fun v195 => ((cq_gr 4 5 20 (x0) R187).bind fun v197 => ((cq_gi 6 0 20 (v197) R187).bind fun v199 => ((cq_sb (v195) (v199) (1) R187).bind fun T202 => ((cq_gr 4 3 20 (x0) T202).bind fun v206 => ((cq_gr 4 5 20 (x0) T202).bind fun v208 => ((cq_gi 6 0 20 (v208) T202).bind fun v210 => ((cq_gr 4 5 20 (x0) T202).bind fun v212 => ((cq_gi 6 2 20 (v212) T202).bind fun v214 => ((cq_is 3 14 (v206) T202).bind fun _ => ((c23 f (v206) (v210) (v214) T202).bind fun R216 => c43_169  f f (x0) (256) (0) R216)))))))))))))))))))
theorem c43_99t_e (f : Nat) (x0 : Nat) (x1 : Int) (T : xT_) : c43_99 f x0 x1 T = ((cq_is 4 20 (x0) T).bind fun _ => ((c38 f (x0) (41) T).bind fun R171 => c43_99t f x0 x1 R171)) := rfl
def c43_99u (f : Nat) (x0 : Nat) (R187 : (xT_)) : Option ((Nat ⊕ Unit) × xT_) := ((cq_gr 4 3 20 (x0) R187).bind fun v193 => ((cq_gr 3 7 14 (v193) R187).bind fun v195 => ((cq_gr 4 5 20 (x0) R187).bind fun v197 => ((cq_gi 6 0 20 (v197) R187).bind fun v199 => ((cq_sb (v195) (v199) (1) R187).bind fun T202 => ((cq_gr 4 3 20 (x0) T202).bind fun v206 => ((cq_gr 4 5 20 (x0) T202).bind fun v208 => ((cq_gi 6 0 20 (v208) T202).bind fun v210 => ((cq_gr 4 5 20 (x0) T202).bind fun v212 => ((cq_gi 6 2 20 (v212) T202).bind fun v214 => ((cq_is 3 14 (v206) T202).bind fun _ => ((c23 f (v206) (v210) (v214) T202).bind fun R216 => c43_169  f f (x0) (256) (0) R216))))))))))))
theorem c43_99u_e (f : Nat) (x0 : Nat) (x1 : Int) (R171 : ((Nat ⊕ Unit) × xT_)) : c43_99t f x0 x1 R171 = cth R171 (fun _ => ((cq_gr 4 5 20 (x0) R171.2).bind fun v179 => ((cq_gi 6 0 20 (v179) R171.2).bind fun v181 => ((cq_gr 4 5 20 (x0) R171.2).bind fun v183 => ((cq_gi 6 2 20 (v183) R171.2).bind fun v185 => ((cq_is 4 20 (x0) R171.2).bind fun _ => ((c40 f (x0) (14) (v181) (x1) (v185) R171.2).bind fun R187 => c43_99u f x0 R187))))))) := rfl
def xF9 (q p : Nat) (G G' : xG_) : Prop := ∀ a j, ¬ (a = 72 ∧ (j = 1 ∨ j = 14)) → ¬ (78 ≤ a ∧ a ≤ 81) → a ≠ q + 2 → ¬ (a = q + 6 ∧ j = p) → G' a j = G a j
section
variable {f n N w i i' u q l F i0 sl p : Nat} {S S' : Nat → Nat × Nat × Nat} {G G1 G2 G' G'' : xG_} {m : Nat × Nat} {B : Nat → Int} {t : tStr} {V V' : List (Int × Nat)} {K K' : pCd} {I : List pCd} {g : Int × Int × Int} {x1 sp v : Int} {L : List Int} {M : List pMn}
theorem cq_sb_ok {x k : Nat} (hS : S x = (2, 0, 16)) (hk : k < 16) : cq_sb x (k : Int) 1 (S, G, m) = some (S, xup2 G x k 1, m) := by
  unfold cq_sb
  show (if (S x).2.1 = 1 then cq_s 1 x (k : Int) (xnar .byte 1) (S, G, m) else if (S x).2.1 = 0 then cq_s 0 x (k : Int) (xnar .boolean 1) (S, G, m) else none) = _
  rw [hS, if_neg (by decide), if_pos rfl]
  unfold cq_s
  show (if (S x).1 = 2 ∧ (S x).2.1 = 0 ∧ 0 ≤ (k : Int) ∧ (k : Int) < (((S x).2.2 : Nat) : Int) then some (S, xup2 G x (k : Int).toNat (xnar .boolean 1), m) else none) = _
  rw [hS, if_pos ⟨rfl, rfl, by omega, by show (k : Int) < 16; omega⟩, Int.toNat_natCast]
  rfl
theorem st_99 {R : (Nat ⊕ Unit) × xT_} (hs : cSs S) (e : c38 f 72 41 (S, G, m) = some R) : c43_99 f 72 sp (S, G, m) = c43_99t f 72 sp R := by
  rw [c43_99t_e]
  simp (disch := omega) only [cq_gi, cq_gr, cq_a, cq_s, cq_p, cq_pr, cq_is, cq_ar, cq_ab, cq_ln, xq_nz, Option.bind_some, xup2_n, xup2_s, Int.toNat_natCast, Int.reduceToNat, if_pos, if_neg, true_and, and_true, and_self, eq_self, if_true, reduceIte, not_true_eq_false, not_false_eq_true, or_true, true_or, s72 hs, e]
theorem st_99t (hs : cSs S) (u2 : 278 < u) (us : S u = (1, 6, 20)) (u1 : G 72 5 = (u : Int)) (h0 : G u 0 = (p : Int)) (h2 : G u 2 = (l : Int)) (e : c40 f 72 14 (p : Int) sp (l : Int) (S, G, m) = some (S, G1, m)) : c43_99t f 72 sp (.inr (), (S, G, m)) = c43_99u f 72 (S, G1, m) := by
  rw [c43_99u_e]
  simp (disch := omega) only [cq_gi, cq_gr, cq_a, cq_s, cq_p, cq_pr, cq_is, cq_ar, cq_ab, cq_ln, xq_nz, Option.bind_some, xup2_n, xup2_s, Int.toNat_natCast, Int.reduceToNat, if_pos, if_neg, true_and, and_true, and_self, eq_self, if_true, reduceIte, not_true_eq_false, not_false_eq_true, or_true, true_or, s72 hs, us, u1, h0, h2, e, cth]
theorem st_99u (hs : cSs S) (hp : p < 16) (u2 : 278 < u) (hq : 82 < q) (hqu : q + 10 < u) (us : S u = (1, 6, 20)) (qs : S q = (1, 3, 14)) (q6 : S (q + 6) = (2, 0, 16)) (u1 : G 72 5 = (u : Int)) (h3 : G 72 3 = (q : Int)) (w7 : G q 7 = ((q + 6 : Nat) : Int)) (h0 : G u 0 = (p : Int)) (h2 : G u 2 = (l : Int)) (e : c23 f q (p : Int) (l : Int) (S, xup2 G (q + 6) p 1, m) = some (S, G1, m)) : c43_99u f 72 (S, G, m) = c43_169 f f 72 256 0 (S, G1, m) := by
  have eb := cq_sb_ok (G := G) (m := m) q6 hp
  unfold c43_99u
  simp (disch := omega) only [cq_gi, cq_gr, cq_a, cq_s, cq_p, cq_pr, cq_is, cq_ar, cq_ab, cq_ln, xq_nz, Option.bind_some, xup2_n, xup2_s, Int.toNat_natCast, Int.reduceToNat, if_pos, if_neg, true_and, and_true, and_self, eq_self, if_true, reduceIte, not_true_eq_false, not_false_eq_true, or_true, true_or, s72 hs, us, qs, u1, h3, w7, h0, h2, eb, e]
theorem cXr.pq {k : Nat} (h : cXr S G B n t N w u V K i) (hq : 278 < q) (hqu : q + 10 < u) : cXr S (xup2 G (q + 6) k v) B n t N w u V K i := by
  have hu := h.2.2.2.1.2.1
  exact h.st1 (by omega) (by omega) (by omega)
theorem cPr0.pq {k : Nat} (h : cPr0 S G q true L) : cPr0 S (xup2 G (q + 6) k v) q true L := by
  have hq := h.2.1
  exact h.ge (xup2_n (by omega)) (xup2_n (by omega)) (fun j _ _ _ => xup2_n (by omega)) (fun j => xup2_n (by omega))
theorem cMe.pq {k : Nat} (h : cMe G M) (hq : 278 < q) : cMe (xup2 G (q + 6) k v) M := h.ge (xup2_n (by omega)) (fun a k z1 z2 => xup2_n (by omega))
theorem cWd.pq {k : Nat} (h : cWd G q M) : cWd (xup2 G (q + 6) k v) q M := h.ge (fun j => xup2_n (by omega))
theorem k_99f {k' p' s' d' : Int} {e : Nat} {v1 : Int} (hw : ∀ a j, a ≠ q + 2 → G' a j = xup2 (mSt (xup2 G 72 1 v1) e k' p' s' d') (q + 6) p 1 a j) : xF9 q p G G' := fun a j z1 z2 z3 z4 => by
  rw [hw a j z3, xup2_n z4, mSt_n a j (fun y => z1 ⟨y.1, .inr y.2⟩) z2, xup2_n (fun y => z1 ⟨y.1, .inl y.2⟩)]
theorem k_99 (h : cXr S G B n t N w u V K i) (hr : cPr0 S G q true L) (hqu : q + 10 < u) (hM : cMe G M) (hW : cWd G q M) (hmp : mPos M) (h0 : G u 0 = (p : Int)) (hp : p < 16) (h2 : G u 2 = (l : Int)) (hl : 1 ≤ l) (hm : M.length < 1024) {s : Nat} :
    pok (pNeed t 41 i) (fun x => c43_99 f 72 (s : Int) (S, G, m) = some (.inl 0, cWr S G m (x : Int)))
      (fun j => ∃ G', c43_99 f 72 (s : Int) (S, G, m) = c43_169 f f 72 256 0 (S, G', m) ∧ j = i + 1 ∧ cXr S G' B n t N w u V K j ∧ cPr0 S G' q true L ∧ cMe G' (M ++ [((p : Int), s, (l : Int), 3)]) ∧ cWd G' q (M ++ [((p : Int), s, (l : Int), 3)]) ∧ G' (q + 6) p = 1 ∧ xF9 q p G G') := by
  have hs := h.1.1
  obtain ⟨u1, u2, ⟨us, _⟩, _⟩ := h.2.2.2.1
  have hq := hr.2.2.1 rfl
  have p38 := k_38 (f := f) (m := m) (c := 41) (by decide) h.1 h.2.1
  cases hn : pNeed t 41 i with
  | inl x =>
    rw [hn] at p38
    show c43_99 f 72 (s : Int) (S, G, m) = _
    rw [st_99 hs p38]
    rfl
  | inr j =>
    rw [hn] at p38
    obtain ⟨a1, a2, a3, a4⟩ := p38
    have hlt := (h.1.lt h.2.1 (by omega)).1
    obtain ⟨b1, b2⟩ := h.at a4 (by omega)
    have hM1 := at_m (v := ((min j N : Nat) : Int)) hM
    have e40 := mSt_40 (f := f) (m := m) (k := 14) (p := (p : Int)) (s := (s : Int)) (d := (l : Int)) hs b2.1.2.1 hM1.1 hm
    have d3 := mSt_x (k := 14) (p := (p : Int)) (s := (s : Int)) (d := (l : Int)) (c := M.length) b2
    have hM3 := mSt_m (k := 14) (p := (p : Int)) (s := (s : Int)) (d := (l : Int)) (y := ((p : Int), s, (l : Int), 3)) hM1 rfl rfl rfl (fun _ => rfl)
    have z3 : ∀ a k, ¬ (a = 72 ∧ (k = 1 ∨ k = 14)) → ¬ (78 ≤ a ∧ a ≤ 81) → mSt (xup2 G 72 1 ((min j N : Nat) : Int)) M.length 14 (p : Int) (s : Int) (l : Int) a k = G a k := fun a k z1 z2 => by rw [mSt_n a k (fun y => z1 ⟨y.1, .inr y.2⟩) z2, xup2_n (fun y => z1 ⟨y.1, .inl y.2⟩)]
    obtain ⟨G3, hG3⟩ : ∃ G3, G3 = mSt (xup2 G 72 1 ((min j N : Nat) : Int)) M.length 14 (p : Int) (s : Int) (l : Int) := ⟨_, rfl⟩
    rw [← hG3] at e40 d3 hM3 z3
    have hr3 : cPr0 S G3 q true L := hr.ge (z3 72 3 (by omega) (by omega)) (z3 72 4 (by omega) (by omega)) (fun k _ _ _ => z3 q k (by omega) (by omega)) (fun k => z3 (q + 1) k (by omega) (by omega))
    have hW3 : cWd G3 q M := hW.ge (fun k => z3 (q + 2) k (by omega) (by omega))
    have d4 := d3.pq (k := p) (v := 1) hq hqu
    have hr4 := hr3.pq (k := p) (v := 1)
    have hM4 := hM3.pq (k := p) (v := 1) hq
    have hW4 := hW3.pq (k := p) (v := 1)
    obtain ⟨G5, f1, f2, f3⟩ := k_23 (f := f) (m := m) (p := p) (c := l) hr4.2.2.2.2.1 hr4.2.2.2.2.2.1 hp hmp hW4 (y := ((p : Int), s, (l : Int), 3)) rfl rfl hl
    have e99 := st_99u (f := f) (m := m) (l := l) hs hp u2 hr.2.1 hqu us hr.2.2.2.2.1.1 hr.2.2.2.2.1.2.2.2.2.2.2.1 d3.2.2.2.1.1 hr3.1 hr3.2.2.2.2.2.1.2.2.2.2.2.1 (by rw [z3 u 0 (by omega) (by omega)]; exact h0) (by rw [z3 u 2 (by omega) (by omega)]; exact h2) f1
    have e98 := st_99t (f := f) (m := m) (sp := (s : Int)) hs u2 us b2.2.2.2.1.1 (by rw [xup2_n (by omega)]; exact h0) (by rw [xup2_n (by omega)]; exact h2) e40
    refine ⟨G5, ?_, a2, ?_, ?_, ?_, f2, ?_, ?_⟩
    · rw [st_99 hs a1, e98, e99]
    · exact d4.st (fun a k z => f3 a k (by omega)) (fun k z1 z2 z3 z4 => f3 u k (by omega)) (fun k => f3 (u + 1) k (by omega))
    · exact hr4.ge (f3 _ _ (by omega)) (f3 _ _ (by omega)) (fun k _ _ _ => f3 _ _ (by omega)) (fun k => f3 _ _ (by omega))
    · exact hM4.ge (f3 _ _ (by omega)) (fun a k z1 z2 => f3 _ _ (by omega))
    · rw [f3 _ _ (by omega), xup2_s]
    · rw [hG3] at f3
      exact k_99f f3
end
