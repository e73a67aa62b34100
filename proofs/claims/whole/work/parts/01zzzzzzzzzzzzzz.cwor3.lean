/-! THE CLASS: the SHEET: reckon() with its ERRORS, operand() -/
theorem x_s8 : ∀ n : Fin 1100, xshr ((n.val : Nat) : Int) 8 = ((n.val / 256 : Nat) : Int) := by decide +kernel
theorem x_s8' {c : Int} (h : 0 ≤ c ∧ c < 1100) : xshr c 8 = c / 256 := by
  have := x_s8 ⟨c.toNat, by omega⟩
  have e : ((c.toNat : Nat) : Int) = c := by omega
  rw [show ((⟨c.toNat, by omega⟩ : Fin 1100).val) = c.toNat from rfl, e] at this
  rw [this]
  omega
/-- what a node without parts is worth -/
def fL (C : fCs) (s : pPg) (M : Nat → List pRw) (y : pNd) : fWo := if y.1 = 1 then .inr y.2.2.2.2 else if y.1 = 2 then fCe (C y.2.1.toNat) else if y.1 = 4 ∨ y.1 = 5 then fOv C y.1 y.2.1 y.2.2.1 else fRo s M y.1 y.2.1 y.2.2.2.2
section
variable {f nx mo cc q rp : Nat} {S : Nat → Nat × Nat × Nat} {G G' : xG_} {m : Nat × Nat} {s : pPg} {xr cr : Nat → Nat} {M : Nat → List pRw} {C : fCs} {D : Nat → Prop} {T : xT_}
def eQ (o : Option Int) : Int := match o with
  | none => -8999999999999999997
  | some w => w
theorem eQ_b {x : Int} {op a b : Int} (hx : x = qWv op a b) (h0 : ¬ (2000000000000 ≤ a ∨ 2000000000000 ≤ b ∨ ((op = 47 ∨ op = 37) ∧ b = 0))) : (if 1000000000000 < x ∨ x < -1000000000000 then -8999999999999999997 else x) = eQ (qWk op a b) := by
  unfold qWk
  rw [← hx]
  by_cases c : 1000000000000 < x ∨ x < -1000000000000
  · rw [if_pos c, if_pos (.inr (.inr (.inr c)))]
    rfl
  · rw [if_neg c, if_neg (fun q => by rcases q with q | q | q | q | q; exact h0 (.inl q); exact h0 (.inr (.inl q)); exact h0 (.inr (.inr q)); exact c (.inl q); exact c (.inr q))]
    rfl
theorem k_192v {op a b : Int} (ho : op = 43 ∨ op = 45 ∨ op = 42 ∨ op = 47 ∨ op = 37) (ha : -1000000000000 ≤ a ∧ a ≤ 1000000000000) (hb : -1000000000000 ≤ b ∧ b ≤ 1000000000000) : c192 f op a b T = some (eQ (qWk op a b), T) := by
  have ax := ha.1
  have bx := hb.1
  have wa : ¬ 1000000000000 < a := by omega
  have wb := hb.2
  rcases ho with rfl | rfl | rfl | rfl | rfl
  · rw [← eQ_b (x := a + b) (by unfold qWv; rw [if_pos rfl]) (by omega)]
    unfold c192; rw [if_pos ax, if_pos bx, if_neg wa, if_pos wb, if_neg (by decide), k_192b, xwl_g _ (by omega) (by omega)]
  · rw [← eQ_b (x := a - b) (by unfold qWv; rw [if_neg (by decide), if_pos rfl]) (by omega)]
    unfold c192; rw [if_pos ax, if_pos bx, if_neg wa, if_pos wb, if_pos (by decide), if_neg (by decide), k_192b, xwl_g _ (by omega) (by omega)]
  · have eq : qWv 42 a b = a * b := by unfold qWv; rw [if_neg (by decide), if_neg (by decide), if_pos rfl]
    rw [← eQ_b (x := a * b) eq.symm (by omega)]
    by_cases za : a = 0
    · unfold c192 c192_103
      rw [if_pos ax, if_pos bx, if_neg wa, if_pos wb, if_pos (by decide), if_pos (by decide), if_neg (by decide), if_pos za, k_192b, za, Int.zero_mul]
      rfl
    · have hp : 0 < a.natAbs := by omega
      have e1 : Int.tdiv 1000000000000 (a.natAbs : Int) = ((1000000000000 / a.natAbs : Nat) : Int) := rfl
      have e2 : (b.natAbs : Int) ≤ ((1000000000000 / a.natAbs : Nat) : Int) ↔ ¬ 1000000000000 < (a * b).natAbs := by
        rw [Int.natAbs_mul, Int.ofNat_le, Nat.le_div_iff_mul_le hp, Nat.mul_comm]
        omega
      have base : c192 f 42 a b T = if (b.natAbs : Int) ≤ ((1000000000000 / a.natAbs : Nat) : Int) then c192_103 f a b T else some (-8999999999999999997, T) := by
        unfold c192
        rw [if_pos ax, if_pos bx, if_neg wa, if_pos wb, if_pos (by decide), if_pos (by decide), if_neg (by decide), if_neg za, xabs8_g (by omega) (by omega), xabs8_g (by omega) (by omega), if_neg (by omega), xdiv8_g (by omega) (by omega) (by omega) (by omega), e1]
      by_cases c2 : 1000000000000 < (a * b).natAbs
      · rw [if_neg (fun h => (e2.mp h) c2)] at base
        rw [base, if_pos (by omega)]
      · rw [if_pos (e2.mpr c2)] at base
        rw [base]
        unfold c192_103
        rw [k_192b, xwl_g _ (by omega) (by omega)]
  · by_cases zb : b = 0
    · unfold c192; rw [if_pos ax, if_pos bx, if_neg wa, if_pos wb, if_pos (by decide), if_pos (by decide), if_pos (by decide), if_neg (fun q => q zb)]
      unfold qWk
      rw [if_pos (.inr (.inr (.inl ⟨.inl rfl, zb⟩)))]
      rfl
    · rw [← eQ_b (x := a.tdiv b) (by unfold qWv; rw [if_neg (by decide), if_neg (by decide), if_neg (by decide), if_pos rfl]) (by omega)]
      unfold c192 c192_136; rw [if_pos ax, if_pos bx, if_neg wa, if_pos wb, if_pos (by decide), if_pos (by decide), if_pos (by decide), if_pos zb, if_neg (by decide), if_neg zb, k_192b, xdiv8_g (by omega) (by omega) (by omega) (by omega)]
  · by_cases zb : b = 0
    · unfold c192; rw [if_pos ax, if_pos bx, if_neg wa, if_pos wb, if_pos (by decide), if_pos (by decide), if_pos (by decide), if_neg (fun q => q zb)]
      unfold qWk
      rw [if_pos (.inr (.inr (.inl ⟨.inr rfl, zb⟩)))]
      rfl
    · rw [← eQ_b (x := a.tmod b) (by unfold qWv; rw [if_neg (by decide), if_neg (by decide), if_neg (by decide), if_neg (by decide)]) (by omega)]
      unfold c192 c192_136; rw [if_pos ax, if_pos bx, if_neg wa, if_pos wb, if_pos (by decide), if_pos (by decide), if_pos (by decide), if_pos zb, if_pos (by decide), if_neg zb, k_192b, xrem8_g (by omega) (by omega) (by omega) (by omega)]
/-- reckon() of the SHEET -/
theorem k_192s {op : Int} {x y : fWo} (ho : op = 43 ∨ op = 45 ∨ op = 42 ∨ op = 47 ∨ op = 37) (hx : okW x) (hy : okW y) : c192 f op (eW x) (eW y) T = some (eW (ebind x fun a => ebind y fun b => fSg op a b), T) := by
  cases x with
  | inl e =>
    have he : 1 ≤ e ∧ e ≤ 4 := hx
    show c192 f op (-9000000000000000000 + e) _ T = some (-9000000000000000000 + e, T)
    unfold c192
    rw [if_neg (by omega)]
  | inr a =>
    have ha : vOk a := hx
    have ax : -1000000000000 ≤ a := by rcases ha with q | q <;> omega
    cases y with
    | inl e =>
      have he : 1 ≤ e ∧ e ≤ 4 := hy
      show c192 f op a (-9000000000000000000 + e) T = some (-9000000000000000000 + e, T)
      unfold c192
      rw [if_pos ax, if_neg (by omega)]
    | inr b =>
      have hb : vOk b := hy
      have bx : -1000000000000 ≤ b := by rcases hb with q | q <;> omega
      show c192 f op a b T = some (eW (fSg op a b), T)
      unfold fSg
      by_cases c : 2000000000000 ≤ a ∨ 2000000000000 ≤ b
      · rw [if_pos c]
        show c192 f op a b T = some (-8999999999999999998, T)
        unfold c192 c192_36
        by_cases wa : 1000000000000 < a
        · rw [if_pos ax, if_pos bx, if_pos wa]
        · rw [if_pos ax, if_pos bx, if_neg wa, if_neg (by omega)]
      · rw [if_neg c, k_192v ho (by unfold vOk at ha; omega) (by unfold vOk at hb; omega)]
        cases qWk op a b with
        | none => rfl
        | some w => rfl
theorem eC_f {x : Int × Int} (h : x.1 = 0 ∧ x.2 = 0 ∨ x.1 = 1 ∧ vOk x.2 ∨ x.1 = 2 ∧ 1 ≤ x.2 ∧ x.2 ≤ 4) : (if eC x = 9000000000000000000 then 0 else eC x) = eW (fCe x) := by
  unfold eC fCe
  rcases h with ⟨z1, z2⟩ | ⟨z1, z2⟩ | ⟨z1, z2, z3⟩
  · rw [z1]; rfl
  · rw [z1]
    unfold vOk at z2
    show (if x.2 = 9000000000000000000 then 0 else x.2) = x.2
    rw [if_neg (by omega)]
  · rw [z1]
    show (if -9000000000000000000 + x.2 = 9000000000000000000 then 0 else -9000000000000000000 + x.2) = -9000000000000000000 + x.2
    rw [if_neg (by omega)]
/-- operand() -/
theorem k_106 {y : pNd} {c : Int × Int} {N : List pNd} {k : Nat} (hf : 600 < f) (h : cSe S G nx mo cc q rp s xr cr M C D) (hy : wNd N k y) (hl : lf y = some c) (hD : ∀ x, (nR1 y).testBit x = true → D x) : c106 f 216 (c.1 % 256) (c.1 / 256) c.2 (S, G, m) = some (eW (fL C s M y), (S, G, m)) := by
  unfold wNd at hy
  unfold lf at hl
  unfold fL
  unfold nR1 at hD
  by_cases c1 : y.1 = 1
  · rw [if_pos c1] at hl ⊢
    cases hl
    rfl
  · rw [if_neg c1] at hl ⊢
    by_cases c2 : y.1 = 2
    · rw [if_pos c2] at hl hD ⊢
      cases hl
      have hr : 0 ≤ y.2.1 ∧ y.2.1 < 72 := by omega
      obtain ⟨hs, hp, ⟨_, h1⟩, ⟨hc, hG⟩, _, _, _, hC, _⟩ := h
      have hG' := hG y.2.1.toNat (by omega) (hD _ (by rw [Nat.testBit_two_pow_self]))
      have w0 : xwr y.2.1 = ((y.2.1.toNat : Nat) : Int) := by rw [xwr_g _ (by omega) (by omega)]; omega
      have hlt : y.2.1.toNat < 72 := by omega
      rw [← eC_f (hC y.2.1.toNat hlt)]
      show c106 f 216 2 0 y.2.1 (S, G, m) = _
      have e0 : c106 f 216 2 0 y.2.1 (S, G, m) = if ¬ eC (C y.2.1.toNat) = 9000000000000000000 then some (eC (C y.2.1.toNat), (S, G, m)) else some (0, (S, G, m)) := by
        unfold c106 c106_36
        rw [if_pos (by decide), if_neg (by decide)]
        simp (disch := omega) only [cq_gi, cq_gr, cq_a, cq_s, cq_p, cq_pr, cq_is, cq_ar, cq_ab, cq_ln, xq_nz, Option.bind_some, xup2_n, xup2_s, Int.toNat_natCast, Int.reduceToNat, if_pos, if_neg, true_and, and_true, and_self, eq_self, if_true, reduceIte, not_true_eq_false, not_false_eq_true, or_true, true_or, s216 hs, h1, hc, hG', w0, hlt]
      rw [e0]
      by_cases z : eC (C y.2.1.toNat) = 9000000000000000000
      · rw [if_neg (fun q => q z), if_pos z]
      · rw [if_pos z, if_neg z]
    · rw [if_neg c2] at hl hD ⊢
      by_cases c4 : y.1 = 4 ∨ y.1 = 5
      · rw [if_pos c4] at hl hD ⊢
        cases hl
        have hr : (0 ≤ y.2.1 ∧ y.2.1 < 72) ∧ 0 ≤ y.2.2.1 ∧ y.2.2.1 < 72 := by omega
        have hs := h.1
        obtain ⟨d1, d2⟩ := x_d72' (c := y.2.1 + 72 * y.2.2.1) (by omega)
        have e1 : (y.2.1 + 72 * y.2.2.1) % 72 = ((y.2.1.toNat : Nat) : Int) := by omega
        have e2 : (y.2.1 + 72 * y.2.2.1) / 72 = ((y.2.2.1.toNat : Nat) : Int) := by omega
        have e3 : y.2.1 = ((y.2.1.toNat : Nat) : Int) := by omega
        have e4 : y.2.2.1 = ((y.2.2.1.toNat : Nat) : Int) := by omega
        rw [e1] at d1
        rw [e2] at d2
        have w0 : xwr (y.2.1 + 72 * y.2.2.1) = y.2.1 + 72 * y.2.2.1 := xwr_g _ (by omega) (by omega)
        have hD' : ∀ x, x < 72 → fIn x ((y.2.1.toNat : Nat) : Int) ((y.2.2.1.toNat : Nat) : Int) → D x := fun x hx q => hD x (by rw [nBx_t]; rw [← e3, ← e4] at q; exact ⟨hx, q⟩)
        have key : ∀ sm : Int, y.1 = 5 ∧ sm = 0 ∨ y.1 = 4 ∧ sm = 1 → c107 f 216 sm ((y.2.1.toNat : Nat) : Int) ((y.2.2.1.toNat : Nat) : Int) (S, G, m) = some (eW (fOv C y.1 y.2.1 y.2.2.1), (S, G, m)) := fun sm hsm => by
          have := k_107 (f := f) (m := m) (by omega) h (by omega : y.2.1.toNat < 72) (by omega : y.2.2.1.toNat < 72) hD' hsm
          rw [← e3, ← e4] at this ⊢
          exact this
        rcases c4 with q | q
        · have kk := key 1 (.inr ⟨q, rfl⟩)
          show c106 f 216 ((y.1 - 1) % 256) ((y.1 - 1) / 256) (y.2.1 + 72 * y.2.2.1) (S, G, m) = _
          rw [show (y.1 - 1) % 256 = 3 by omega, show (y.1 - 1) / 256 = 0 by omega]
          unfold c106 c106_47 c106_58
          rw [if_pos (by decide), if_pos (by decide), if_pos (by decide), if_neg (by decide)]
          simp (disch := omega) only [cq_gi, cq_gr, cq_a, cq_s, cq_p, cq_pr, cq_is, cq_ar, cq_ab, cq_ln, xq_nz, Option.bind_some, xup2_n, xup2_s, Int.toNat_natCast, Int.reduceToNat, if_pos, if_neg, true_and, and_true, and_self, eq_self, if_true, reduceIte, not_true_eq_false, not_false_eq_true, or_true, true_or, s216 hs, w0, d1, d2, kk]
        · have kk := key 0 (.inl ⟨q, rfl⟩)
          show c106 f 216 ((y.1 - 1) % 256) ((y.1 - 1) / 256) (y.2.1 + 72 * y.2.2.1) (S, G, m) = _
          rw [show (y.1 - 1) % 256 = 4 by omega, show (y.1 - 1) / 256 = 0 by omega]
          unfold c106 c106_47 c106_58
          rw [if_pos (by decide), if_pos (by decide), if_neg (by decide), if_neg (by decide), if_pos (by decide)]
          simp (disch := omega) only [cq_gi, cq_gr, cq_a, cq_s, cq_p, cq_pr, cq_is, cq_ar, cq_ab, cq_ln, xq_nz, Option.bind_some, xup2_n, xup2_s, Int.toNat_natCast, Int.reduceToNat, if_pos, if_neg, true_and, and_true, and_self, eq_self, if_true, reduceIte, not_true_eq_false, not_false_eq_true, or_true, true_or, s216 hs, w0, d1, d2, kk]
      · rw [if_neg c4] at hl ⊢
        by_cases c6 : 6 ≤ y.1 ∧ y.1 ≤ 9
        · rw [if_pos c6] at hl
          cases hl
          have hs := h.1
          have ek := k_109 (f := f) (m := m) (op := y.1 + 4) (k := y.2.1) (x := y.2.2.2.2) hf h (by omega) (by omega)
          have e4 : y.1 + 4 - 4 = y.1 := by omega
          rw [e4] at ek
          show c106 f 216 ((y.1 + 4 + 256 * y.2.1) % 256) ((y.1 + 4 + 256 * y.2.1) / 256) y.2.2.2.2 (S, G, m) = _
          rw [show (y.1 + 4 + 256 * y.2.1) % 256 = y.1 + 4 by omega, show (y.1 + 4 + 256 * y.2.1) / 256 = y.2.1 by omega]
          have w0 : xwr (y.2.1 - 1) = y.2.1 - 1 := xwr_g _ (by omega) (by omega)
          unfold c106
          rw [if_pos (by omega), if_pos (by omega), if_neg (by omega), if_pos (by omega)]
          simp (disch := omega) only [cq_gi, cq_gr, cq_a, cq_s, cq_p, cq_pr, cq_is, cq_ar, cq_ab, cq_ln, xq_nz, Option.bind_some, xup2_n, xup2_s, Int.toNat_natCast, Int.reduceToNat, if_pos, if_neg, true_and, and_true, and_self, eq_self, if_true, reduceIte, not_true_eq_false, not_false_eq_true, or_true, true_or, s216 hs, w0, ek]
        · rw [if_neg c6] at hl
          cases hl
end
