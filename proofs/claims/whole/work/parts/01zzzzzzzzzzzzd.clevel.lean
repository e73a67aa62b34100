/-! THE CLASS: openLevel() -/
/-- bounds of a LITERAL's RANKS at a level -/
def lvLo (Ls : List pLt) (mb : Nat) (lv : Int) (ld l : Nat) : Int := if (Ls.getD l dLt).1 = 1 ∧ mb.testBit (Ls.getD l dLt).2.1.toNat = true ∧ l = ld then lv - 1 else 0
def lvHi (Ls : List pLt) (mb : Nat) (lv : Int) (ld l : Nat) : Int := if (Ls.getD l dLt).1 = 1 ∧ mb.testBit (Ls.getD l dLt).2.1.toNat = true then (if l < ld then lv - 2 else lv - 1) else 1700
section
variable {f u l mb nl ld fa : Nat} {S : Nat → Nat × Nat × Nat} {G : xG_} {m : Nat × Nat} {K : pCd} {Ls : List pLt} {lv v w : Int} {r16 : Nat → Nat → Int → Int → Int → Int → xT_ → Option (xT_)}
theorem st_153z (us : S u = (1, 6, 20)) (h8 : G u 8 = (nl : Int)) : c153_16b r16 f 93 u v lv (ld : Int) (nl : Int) (S, G, m) = some (S, G, m) := by
  unfold c153_16b
  simp (disch := omega) only [cq_gi, cq_gr, cq_a, cq_s, cq_p, cq_pr, cq_is, cq_ar, cq_ab, cq_ln, xq_nz, Option.bind_some, xup2_n, xup2_s, Int.toNat_natCast, Int.reduceToNat, if_pos, if_neg, true_and, and_true, and_self, eq_self, if_true, reduceIte, not_true_eq_false, not_false_eq_true, or_true, true_or, us, h8]
theorem st_153n (us : S u = (1, 6, 20)) (h8 : G u 8 = (nl : Int)) (hl : l < nl) (e : c152 f u (l : Int) v (S, G, m) = some (0, (S, G, m))) (ei : xwr ((l : Int) + 1) = ((l + 1 : Nat) : Int)) : c153_16b r16 f 93 u v lv (ld : Int) (l : Int) (S, G, m) = r16 93 u v lv (ld : Int) ((l + 1 : Nat) : Int) (S, G, m) := by
  unfold c153_16b c153_85
  simp (disch := omega) only [cq_gi, cq_gr, cq_a, cq_s, cq_p, cq_pr, cq_is, cq_ar, cq_ab, cq_ln, xq_nz, Option.bind_some, xup2_n, xup2_s, Int.toNat_natCast, Int.reduceToNat, if_pos, if_neg, true_and, and_true, and_self, eq_self, if_true, reduceIte, not_true_eq_false, not_false_eq_true, or_true, true_or, us, h8, e, ei]
theorem st_153y (hs : cSs S) (hp : cPs G) (us : S u = (1, 6, 20)) (h8 : G u 8 = (nl : Int)) (hl : l < nl) (hn : nl ≤ 8) (e : c152 f u (l : Int) v (S, G, m) = some (1, (S, G, m))) (ei : xwr ((l : Int) + 1) = ((l + 1 : Nat) : Int)) (e1 : xwr (lv - 1) = lv - 1) (e2 : xwr (lv - 2) = lv - 2) : c153_16b r16 f 93 u v lv (ld : Int) (l : Int) (S, G, m) = r16 93 u v lv (ld : Int) ((l + 1 : Nat) : Int) (S, xup2 (xup2 G 85 l (if l = ld then lv - 1 else 0)) 86 l (if l < ld then lv - 2 else lv - 1), m) := by
  by_cases c1 : l = ld
  · subst c1
    rw [if_pos rfl, if_neg (Nat.lt_irrefl l)]
    unfold c153_16b c153_58 c153_84 c153_85
    simp (disch := omega) only [cq_gi, cq_gr, cq_a, cq_s, cq_p, cq_pr, cq_is, cq_ar, cq_ab, cq_ln, xq_nz, Option.bind_some, xup2_n, xup2_s, Int.toNat_natCast, Int.reduceToNat, if_pos, if_neg, true_and, and_true, and_self, eq_self, if_true, reduceIte, not_true_eq_false, not_false_eq_true, or_true, true_or, us, h8, e, ei, e1, e2, s93 hs, s83 hs, s85 hs, s86 hs, p93_0 hp, p83_1 hp, p83_2 hp]
  · have c1' : ¬ (l : Int) = (ld : Int) := by omega
    rw [if_neg c1]
    by_cases c2 : l < ld
    · rw [if_pos c2]
      unfold c153_16b c153_58 c153_84 c153_85
      simp (disch := omega) only [cq_gi, cq_gr, cq_a, cq_s, cq_p, cq_pr, cq_is, cq_ar, cq_ab, cq_ln, xq_nz, Option.bind_some, xup2_n, xup2_s, Int.toNat_natCast, Int.reduceToNat, if_pos, if_neg, true_and, and_true, and_self, eq_self, if_true, reduceIte, not_true_eq_false, not_false_eq_true, or_true, true_or, us, h8, e, ei, e1, e2, c1', s93 hs, s83 hs, s85 hs, s86 hs, p93_0 hp, p83_1 hp, p83_2 hp]
    · rw [if_neg c2]
      unfold c153_16b c153_58 c153_84 c153_85
      simp (disch := omega) only [cq_gi, cq_gr, cq_a, cq_s, cq_p, cq_pr, cq_is, cq_ar, cq_ab, cq_ln, xq_nz, Option.bind_some, xup2_n, xup2_s, Int.toNat_natCast, Int.reduceToNat, if_pos, if_neg, true_and, and_true, and_self, eq_self, if_true, reduceIte, not_true_eq_false, not_false_eq_true, or_true, true_or, us, h8, e, ei, e1, e2, c1', s93 hs, s83 hs, s85 hs, s86 hs, p93_0 hp, p83_1 hp, p83_2 hp]
theorem k_153l (hs : cSs S) (hmb : mb < 2 ^ 16) (hw : ∀ l, l < Ls.length → (Ls.getD l dLt).1 = 1 → 0 ≤ (Ls.getD l dLt).2.1 ∧ (Ls.getD l dLt).2.1 < 16) (hlv : 0 ≤ lv ∧ lv ≤ 2000) : ∀ (d l fu : Nat) (G : xG_), l + d = Ls.length → d < fu → cPs G → cRq S G u K Ls → (∀ j, j < 8 → G 85 j = (if j < l then lvLo Ls mb lv ld j else 0) ∧ G 86 j = (if j < l then lvHi Ls mb lv ld j else 1700)) → ∃ G', c153_16 f fu 93 u (mb : Int) lv (ld : Int) (l : Int) (S, G, m) = some (S, G', m) ∧ (∀ a j, a ≠ 85 → a ≠ 86 → G' a j = G a j) ∧ cPs G' ∧ ∀ j, j < 8 → G' 85 j = (if j < Ls.length then lvLo Ls mb lv ld j else 0) ∧ G' 86 j = (if j < Ls.length then lvHi Ls mb lv ld j else 1700) := by
  intro d
  induction d with
  | zero =>
    intro l fu G e1 e2 hp hR h
    obtain ⟨fu, rfl⟩ : ∃ t, fu = t + 1 := ⟨fu - 1, by omega⟩
    have e : l = Ls.length := by omega
    subst e
    exact ⟨G, st_153z (r16 := c153_16 f fu) hR.1.1 hR.2.2.2.1.1, fun _ _ _ _ => rfl, hp, h⟩
  | succ d ih =>
    intro l fu G e1 e2 hp hR h
    obtain ⟨fu, rfl⟩ : ∃ t, fu = t + 1 := ⟨fu - 1, by omega⟩
    have us := hR.1.1
    have h8 := hR.2.2.2.1.1
    have hl8 := hR.2.2.2.1.2.1
    have hu := hR.2.2.2.2.1
    obtain ⟨w, w1, w2, w3⟩ := k_152 (f := f) (m := m) (l := l) hR (by omega) hmb (hw l (by omega))
    have ei : xwr ((l : Int) + 1) = ((l + 1 : Nat) : Int) := by rw [xwr_g _ (by omega) (by omega)]; omega
    by_cases c : w = 0
    · have st : c153_16 f (fu + 1) 93 u (mb : Int) lv (ld : Int) (l : Int) (S, G, m) = _ := st_153n (r16 := c153_16 f fu) us h8 (by omega) (c ▸ w1) ei
      rw [st]
      refine ih (l + 1) fu G (by omega) (by omega) hp hR (fun j hj => ?_)
      obtain ⟨y1, y2⟩ := h j hj
      by_cases cj : j = l
      · subst cj
        rw [if_neg (Nat.lt_irrefl _)] at y1 y2
        rw [if_pos (by omega), if_pos (by omega), y1, y2]
        have hn : ¬ ownL Ls mb j := fun y => by have := w3.mpr y; omega
        unfold lvLo lvHi
        rw [if_neg (fun y => hn ⟨y.1, y.2.1⟩), if_neg (fun y => hn ⟨y.1, y.2⟩)]
        exact ⟨rfl, rfl⟩
      · rw [y1, y2]
        by_cases cl : j < l
        · rw [if_pos cl, if_pos cl, if_pos (by omega), if_pos (by omega)]; exact ⟨rfl, rfl⟩
        · rw [if_neg cl, if_neg cl, if_neg (by omega), if_neg (by omega)]; exact ⟨rfl, rfl⟩
    · have c1 : w = 1 := by omega
      have st : c153_16 f (fu + 1) 93 u (mb : Int) lv (ld : Int) (l : Int) (S, G, m) = _ := st_153y (r16 := c153_16 f fu) hs hp us h8 (by omega) hl8 (c1 ▸ w1) ei (by rw [xwr_g _ (by omega) (by omega)]) (by rw [xwr_g _ (by omega) (by omega)])
      obtain ⟨G1, hG1⟩ : ∃ G1, G1 = xup2 (xup2 G 85 l (if l = ld then lv - 1 else 0)) 86 l (if l < ld then lv - 2 else lv - 1) := ⟨_, rfl⟩
      rw [← hG1] at st
      have z : ∀ a j, a ≠ 85 → a ≠ 86 → G1 a j = G a j := fun a j y1 y2 => by rw [hG1, xup2_n (by omega), xup2_n (by omega)]
      have hp1 : cPs G1 := hp.ge (fun b j hz => by
        have : b ≠ 85 ∧ b ≠ 86 := by
          rcases hz with z | z | z | z | z | z | z | ⟨z, z1, z2, k, z3⟩ | z | z | z | ⟨k, z1, z2, z3⟩ <;> omega
        exact z b j this.1 this.2)
      have hown : ownL Ls mb l := w3.mp c1
      obtain ⟨G2, i1, i2, i3, i4⟩ := ih (l + 1) fu G1 (by omega) (by omega) hp1 (hR.fx (fun a j y => z a j (by omega) (by omega))) (fun j hj => by
        obtain ⟨y1, y2⟩ := h j hj
        by_cases cj : j = l
        · subst cj
          rw [if_pos (by omega), if_pos (by omega), hG1, xup2_n (by omega), xup2_s, xup2_s]
          unfold lvLo lvHi
          rw [if_pos (show (Ls.getD j dLt).1 = 1 ∧ mb.testBit (Ls.getD j dLt).2.1.toNat = true from hown)]
          refine ⟨?_, rfl⟩
          by_cases c3 : j = ld
          · rw [if_pos c3, if_pos ⟨hown.1, hown.2, c3⟩]
          · rw [if_neg c3, if_neg (fun y => c3 y.2.2)]
        · have e1 : G1 85 j = G 85 j := by rw [hG1, xup2_n (by omega), xup2_n (by omega)]
          have e2 : G1 86 j = G 86 j := by rw [hG1, xup2_n (by omega), xup2_n (by omega)]
          rw [e1, e2, y1, y2]
          by_cases cl : j < l
          · rw [if_pos cl, if_pos cl, if_pos (by omega), if_pos (by omega)]; exact ⟨rfl, rfl⟩
          · rw [if_neg cl, if_neg cl, if_neg (by omega), if_neg (by omega)]; exact ⟨rfl, rfl⟩)
      exact ⟨G2, st.trans i1, fun a j y1 y2 => (i2 a j y1 y2).trans (z a j y1 y2), i3, i4⟩
theorem st_153 (hs : cSs S) (hp : cPs G) {G1 : xG_} (e : c130 f 83 u 94 1 (S, G, m) = some (S, G1, m)) : c153 f 93 u v lv (ld : Int) (S, G, m) = c153_16 f f 93 u v lv (ld : Int) 0 (S, G1, m) := by
  unfold c153
  simp (disch := omega) only [cq_gi, cq_gr, cq_a, cq_s, cq_p, cq_pr, cq_is, cq_ar, cq_ab, cq_ln, xq_nz, Option.bind_some, xup2_n, xup2_s, Int.toNat_natCast, Int.reduceToNat, if_pos, if_neg, true_and, and_true, and_self, eq_self, if_true, reduceIte, not_true_eq_false, not_false_eq_true, or_true, true_or, s93 hs, s83 hs, p93_0 hp, p93_2 hp, e]
/-- openLevel() -/
theorem k_153 (hf : 20 < f) (hs : cSs S) (hp : cPs G) (hR : cRq S G u K Ls) (hmb : mb < 2 ^ 16) (hw : ∀ l, l < Ls.length → (Ls.getD l dLt).1 = 1 → 0 ≤ (Ls.getD l dLt).2.1 ∧ (Ls.getD l dLt).2.1 < 16) (hlv : 0 ≤ lv ∧ lv ≤ 2000) : ∃ G', c153 f 93 u (mb : Int) lv (ld : Int) (S, G, m) = some (S, G', m) ∧ (∀ a j, ¬ (a = 83 ∧ 3 ≤ j ∧ j ≤ 7) → a ≠ 85 → a ≠ 86 → ¬ (a = 87 ∧ j = 0) → G' a j = G a j) ∧ cPs G' ∧ G' 83 3 = (u : Int) ∧ G' 83 4 = 94 ∧ G' 83 5 = 1 ∧ G' 83 6 = 0 ∧ G' 83 7 = 1 ∧ G' 87 0 = 0 ∧ ∀ l, l < 8 → G' 85 l = lvLo Ls mb lv ld l ∧ G' 86 l = lvHi Ls mb lv ld l := by
  obtain ⟨G1, a1, a2, a3, a4, a5, a6, a7, a8, a9, a10, a11⟩ := k_130 (u := u) (fa := 94) (m := m) hf hs hp (.inr rfl)
  have hu := hR.2.2.2.2.1
  have hl8 := hR.2.2.2.1.2.1
  have hR1 : cRq S G1 u K Ls := hR.fx (fun a j y => a2 a j (by omega) (by omega) (by omega) (by omega))
  obtain ⟨G2, b1, b2, b3, b4⟩ := k_153l (f := f) (m := m) (ld := ld) hs hmb hw hlv Ls.length 0 f G1 (by omega) (by omega) a3 hR1 (fun j hj => by
    rw [if_neg (by omega), if_neg (by omega)]; exact ⟨a10 j hj, a11 j hj⟩)
  refine ⟨G2, (st_153 hs hp a1).trans b1, fun a j y1 y2 y3 y4 => (b2 a j y2 y3).trans (a2 a j y1 y2 y3 y4), b3, by rw [b2 _ _ (by omega) (by omega)]; exact a4, by rw [b2 _ _ (by omega) (by omega)]; exact a5, by rw [b2 _ _ (by omega) (by omega)]; exact a6, by rw [b2 _ _ (by omega) (by omega)]; exact a7, by rw [b2 _ _ (by omega) (by omega)]; exact a8, by rw [b2 _ _ (by omega) (by omega)]; exact a9, fun l hl => ?_⟩
  obtain ⟨y1, y2⟩ := b4 l hl
  by_cases c : l < Ls.length
  · rw [if_pos c] at y1 y2; exact ⟨y1, y2⟩
  · rw [if_neg c] at y1 y2
    rw [y1, y2]
    have e : Ls.getD l dLt = dLt := by rw [List.getD_eq_getElem?_getD, List.getElem?_eq_none (by omega)]; rfl
    unfold lvLo lvHi
    rw [e, if_neg (fun y => absurd y.1 (by decide)), if_neg (fun y => absurd y.1 (by decide))]
    exact ⟨rfl, rfl⟩
end
