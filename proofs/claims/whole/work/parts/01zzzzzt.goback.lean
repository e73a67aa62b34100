/-! goBack: facts as they were -/
/-- one entry of the log, taken back -/
def gbS (x : pLg) (P : pFc → Prop) : pFc → Prop := fun y => if 0 < x.2.1 then P y ∧ y ≠ x.2.2 else P y ∨ y = x.2.2
def gbP : List pLg → (pFc → Prop) → pFc → Prop
  | [], P => P
  | x :: L, P => gbP L (gbS x P)
theorem gbS_c {x : pLg} {P Q : pFc → Prop} (h : ∀ y, P y ↔ Q y) (y : pFc) : gbS x P y ↔ gbS x Q y := by
  unfold gbS
  split
  · rw [h y]
  · rw [h y]
theorem gbP_c : ∀ (L : List pLg) {P Q : pFc → Prop}, (∀ y, P y ↔ Q y) → ∀ y, gbP L P y ↔ gbP L Q y
  | [], _, _, h => h
  | x :: L, _, _, h => gbP_c L (gbS_c h)
theorem gbP_app : ∀ (L L' : List pLg) (P : pFc → Prop), gbP (L ++ L') P = gbP L' (gbP L P)
  | [], _, _ => rfl
  | x :: L, L', P => gbP_app L L' (gbS x P)
theorem gbP_pos : ∀ (L : List pLg) (P : pFc → Prop), (∀ x ∈ L, 0 < x.2.1) → ∀ y, gbP L P y ↔ P y ∧ ∀ x ∈ L, y ≠ x.2.2
  | [], P, _, y => ⟨fun h => ⟨h, fun x hx => by cases hx⟩, fun h => h.1⟩
  | x :: L, P, h, y => by
    have h1 := h x (List.mem_cons_self ..)
    refine (gbP_pos L (gbS x P) (fun z hz => h z (List.mem_cons_of_mem _ hz)) y).trans ?_
    unfold gbS
    rw [if_pos h1]
    constructor
    · rintro ⟨⟨a, b⟩, c⟩
      refine ⟨a, fun z hz => ?_⟩
      rcases List.mem_cons.mp hz with q | q
      · rw [q]; exact b
      · exact c z q
    · rintro ⟨a, b⟩
      exact ⟨⟨a, b x (List.mem_cons_self ..)⟩, fun z hz => b z (List.mem_cons_of_mem _ hz)⟩
theorem gbP_neg : ∀ (L : List pLg) (P : pFc → Prop), (∀ x ∈ L, ¬ 0 < x.2.1) → ∀ y, gbP L P y ↔ P y ∨ ∃ x ∈ L, y = x.2.2
  | [], P, _, y => ⟨fun h => .inl h, fun h => h.elim id (fun ⟨x, hx, _⟩ => by cases hx)⟩
  | x :: L, P, h, y => by
    have h1 := h x (List.mem_cons_self ..)
    refine (gbP_neg L (gbS x P) (fun z hz => h z (List.mem_cons_of_mem _ hz)) y).trans ?_
    unfold gbS
    rw [if_neg h1]
    constructor
    · rintro ((a | a) | ⟨z, z1, z2⟩)
      · exact .inl a
      · exact .inr ⟨x, List.mem_cons_self .., a⟩
      · exact .inr ⟨z, List.mem_cons_of_mem _ z1, z2⟩
    · rintro (a | ⟨z, z1, z2⟩)
      · exact .inl (.inl a)
      · rcases List.mem_cons.mp z1 with q | q
        · rw [q] at z2; exact .inl (.inr z2)
        · exact .inr ⟨z, q, z2⟩
/-- a round taken back -/
theorem gbP_lgR {rd : Int} {A B : List pFc} (y : pFc) : gbP (lgR rd A B).reverse (fun z => z ∈ A) y ↔ y ∈ B := by
  unfold lgR
  rw [List.reverse_append, gbP_app]
  refine (gbP_neg _ _ (fun x hx => ?_) y).trans ?_
  · have := (lgD_mem.mp (List.mem_reverse.mp hx)).2.1
    omega
  have h1 := gbP_pos (lgD rd 1 A B).reverse (fun z => z ∈ A) (fun x hx => by
    have := (lgD_mem.mp (List.mem_reverse.mp hx)).2.1
    omega) y
  constructor
  · rintro (h | ⟨x, x1, x2⟩)
    · obtain ⟨a1, a2⟩ := h1.mp h
      by_cases c : y ∈ B
      · exact c
      · exact absurd rfl (a2 (rd, 1, y) (List.mem_reverse.mpr (lgD_mem.mpr ⟨rfl, rfl, a1, c⟩)))
    · rw [x2]
      exact (lgD_mem.mp (List.mem_reverse.mp x1)).2.2.1
  · intro hy
    by_cases c : y ∈ A
    · refine .inl (h1.mpr ⟨c, fun x hx q => ?_⟩)
      rw [q] at hy
      exact (lgD_mem.mp (List.mem_reverse.mp hx)).2.2.2 hy
    · exact .inr ⟨(rd, -1, y), List.mem_reverse.mpr (lgD_mem.mpr ⟨rfl, rfl, hy, c⟩), rfl⟩
theorem getD_apr {α : Type} {l : List α} {d : α} (l' : List α) (k : Nat) : (l ++ l').getD (l.length + k) d = l'.getD k d := by
  rw [List.getD_eq_getElem?_getD, List.getElem?_append_right (by omega), ← List.getD_eq_getElem?_getD, show l.length + k - l.length = k by omega]
/-- entries d of the log from b on, taken back from the last -/
def gbI (L : List pLg) (b : Nat) : Nat → (pFc → Prop) → pFc → Prop
  | 0, P => P
  | d + 1, P => gbI L b d (gbS (L.getD (b + d) dLg) P)
/-- how many of them come back -/
def gbN (L : List pLg) (b : Nat) : Nat → Nat
  | 0 => 0
  | d + 1 => gbN L b d + if 0 < (L.getD (b + d) dLg).2.1 then 0 else 1
theorem gbI_c {L : List pLg} {b : Nat} : ∀ (d : Nat) {P Q : pFc → Prop}, (∀ y, P y ↔ Q y) → ∀ y, gbI L b d P y ↔ gbI L b d Q y
  | 0, _, _, h => h
  | d + 1, _, _, h => gbI_c d (gbS_c h)
theorem gbI_is {L0 L1 L2 : List pLg} : ∀ (d : Nat) (P : pFc → Prop), d ≤ L1.length → gbI (L0 ++ (L1 ++ L2)) L0.length d P = gbP (L1.take d).reverse P
  | 0, P, _ => by
    rw [List.take_zero]
    rfl
  | d + 1, P, h => by
    have e1 : (L0 ++ (L1 ++ L2)).getD (L0.length + d) dLg = L1.getD d dLg := by
      rw [getD_apr, getD_app _ (by omega)]
    have e2 : L1.take (d + 1) = L1.take d ++ [L1.getD d dLg] := by
      rw [List.take_succ_eq_append_getElem (by omega), getD_e (by omega)]
    rw [e2, List.reverse_append]
    show gbI _ _ d (gbS ((L0 ++ (L1 ++ L2)).getD (L0.length + d) dLg) P) = gbP (L1.take d).reverse (gbS (L1.getD d dLg) P)
    rw [e1]
    exact gbI_is d _ (by omega)
theorem gbN_is {L0 L1 L2 : List pLg} : ∀ (d : Nat), d ≤ L1.length → gbN (L0 ++ (L1 ++ L2)) L0.length d = (L1.take d).countP (fun x => ! decide (0 < x.2.1))
  | 0, _ => by
    rw [List.take_zero]
    rfl
  | d + 1, h => by
    have e1 : (L0 ++ (L1 ++ L2)).getD (L0.length + d) dLg = L1.getD d dLg := by
      rw [getD_apr, getD_app _ (by omega)]
    have e2 : L1.take (d + 1) = L1.take d ++ [L1.getD d dLg] := by
      rw [List.take_succ_eq_append_getElem (by omega), getD_e (by omega)]
    rw [e2, List.countP_append, List.countP_singleton]
    show gbN _ _ d + (if 0 < ((L0 ++ (L1 ++ L2)).getD (L0.length + d) dLg).2.1 then 0 else 1) = _
    rw [e1, gbN_is d (by omega)]
    by_cases c : 0 < (L1.getD d dLg).2.1
    · rw [if_pos c, decide_eq_true c]; rfl
    · rw [if_neg c, decide_eq_false c]; rfl
theorem lgR_n {rd : Int} {A B : List pFc} : (lgR rd A B).countP (fun x => ! decide (0 < x.2.1)) ≤ B.length := by
  unfold lgR
  rw [List.countP_append]
  have h1 : (lgD rd (-1) B A).countP (fun x => ! decide (0 < x.2.1)) ≤ B.length := Nat.le_trans List.countP_le_length lgD_len
  have h2 : (lgD rd 1 A B).countP (fun x => ! decide (0 < x.2.1)) = 0 := by
    rw [List.countP_eq_zero]
    intro x hx
    rw [(lgD_mem.mp hx).2.1]
    decide
  omega
section
variable {f o h : Nat} {L : List pLg} {r : Int}
theorem l_311_seg {b : Nat} (hf : 3500 < f) (hh : h < 4) (ho : o = 123 + 29 * h) : ∀ (d fu : Nat) (G : xG_) (F : List pFc), d < fu → b + d ≤ L.length → (∀ i, b ≤ i → i < b + d → r < (L.getD i dLg).1) → rLg G o L → rFa G 253 F → F.Pairwise fLt → F.length + gbN L b d ≤ 3400 →
    ∃ G' F', g311_16 f fu o r 253 (((b + d : Nat) : Int) - 1) G = g311_16 f (fu - d) o r 253 ((b : Int) - 1) G' ∧ rFa G' 253 F' ∧ F'.Pairwise fLt ∧ (∀ y, y ∈ F' ↔ gbI L b d (fun z => z ∈ F) y) ∧ xfy 253 G G' := by
  intro d
  induction d with
  | zero =>
    intro fu G F h1 h2 h3 h4 h5 h6 h7
    exact ⟨G, F, rfl, h5, h6, fun y => Iff.rfl, fun _ _ _ _ _ _ => rfl⟩
  | succ d ih =>
    intro fu G F h1 h2 h3 h4 h5 h6 h7
    obtain ⟨fu, rfl⟩ : ∃ t, fu = t + 1 := ⟨fu - 1, by omega⟩
    have hi : b + d < L.length := by omega
    have hl := h4.2.1
    obtain ⟨q1, q2, q3, q4, q5, q6⟩ := h4.2.2 (b + d) hi
    have hr := h3 (b + d) (by omega) (by omega)
    have e1 : (((b + (d + 1) : Nat) : Int) - 1) = ((b + d : Nat) : Int) := by omega
    have e2 : xwr (((b + d : Nat) : Int) + -1) = ((b + d : Nat) : Int) - 1 := by rw [xwr_g _ (by omega) (by omega)]; omega
    have e4 : xwr (4 * ((b + d : Nat) : Int)) = ((4 * (b + d) : Nat) : Int) := by rw [xwr_g _ (by omega) (by omega)]; omega
    have hi2 : 0 ≤ ((b + d : Nat) : Int) ∧ ((b + d : Nat) : Int) < 12000 := by omega
    have hb : isFb 253 := by unfold isFb; omega
    have h9 : ((xl_t (o + 9)).2.2 : Int) = 48000 := by
      obtain rfl | rfl | rfl | rfl : h = 0 ∨ h = 1 ∨ h = 2 ∨ h = 3 := by omega
      all_goals (subst ho; decide +kernel)
    have hv : rVe G (o + 9) (4 * (b + d)) (L.getD (b + d) dLg).2.2.2 := ⟨by rw [h9]; omega, by omega, by omega, fun k hk => q6 k (by omega)⟩
    have hsz : F.length + gbN L b (d + 1) ≤ 3400 := h7
    unfold gbN at hsz
    have e0 : g311_16 f (fu + 1) o r 253 (((b + (d + 1) : Nat) : Int) - 1) G = g311_16b (g311_16 f fu) f o r 253 ((b + d : Nat) : Int) G := by rw [e1]; rfl
    have e3 : fu + 1 - (d + 1) = fu - d := by omega
    by_cases c : 0 < (L.getD (b + d) dLg).2.1
    · obtain ⟨G1, F1, k1, k2, k3, k4, k5⟩ := l_199 (f := f) (b := 253) (x := (L.getD (b + d) dLg).2.2) hf hb h5 h6 hv
      have hlen : F1.length ≤ F.length := by
        refine nodup_len F1 F ?_ (fun y hy => ((k4 y).mp hy).1)
        refine List.nodup_iff_pairwise_ne.mpr (List.Pairwise.imp (S := fun x y => x ≠ y) (fun {a b} h => ?_) k3)
        intro q
        rw [q] at h
        exact fLt_irr _ h
      rw [if_pos c] at hsz
      obtain ⟨G', F', u1, u2, u3, u4, u5⟩ := ih fu G1 F1 (by omega) (by omega) (fun i i1 i2 => h3 i i1 (by omega)) (h4.ge (k5 _ _ (by omega) (by omega) (by omega) (by omega)) (fun a j _ _ => k5 _ _ (by omega) (by omega) (by omega) (by omega))) k2 k3 (by omega)
      refine ⟨G', F', ?_, u2, u3, fun y => ?_, fun a j z1 z2 z3 z4 => by rw [u5 a j z1 z2 z3 z4, k5 a j z1 z2 z3 z4]⟩
      · rw [e0, e3]
        unfold g311_16b g311_97
        rw [if_neg (by omega), if_pos hi2, Int.toNat_natCast, q1, if_neg (by omega), if_pos hi2, q2, if_neg (by omega), if_pos hi2, if_pos hi2, q3, q4, e4, k1, Option.bind_some, e2]
        exact u1
      · rw [u4 y]
        show gbI L b d _ y ↔ gbI L b d (gbS (L.getD (b + d) dLg) (fun z => z ∈ F)) y
        refine gbI_c d (fun z => ?_) y
        unfold gbS
        rw [if_pos c]
        exact k4 z
    · rw [if_neg c] at hsz
      obtain ⟨G1, F1, k1, k2, k3, k4, k5, k6⟩ := l_198 (f := f) (b := 253) (x := (L.getD (b + d) dLg).2.2) hf hb h5 h6 hv q5 (by omega) (by omega)
      have hlen : F1.length ≤ F.length + 1 := by
        rcases k5 with q | q
        · rw [q]; omega
        · omega
      obtain ⟨G', F', u1, u2, u3, u4, u5⟩ := ih fu G1 F1 (by omega) (by omega) (fun i i1 i2 => h3 i i1 (by omega)) (h4.ge (k6 _ _ (by omega) (by omega) (by omega) (by omega)) (fun a j _ _ => k6 _ _ (by omega) (by omega) (by omega) (by omega))) k2 k3 (by omega)
      refine ⟨G', F', ?_, u2, u3, fun y => ?_, fun a j z1 z2 z3 z4 => by rw [u5 a j z1 z2 z3 z4, k6 a j z1 z2 z3 z4]⟩
      · rw [e0, e3]
        unfold g311_16b g311_97
        rw [if_neg (by omega), if_pos hi2, Int.toNat_natCast, q1, if_neg (by omega), if_pos hi2, q2, if_pos (by omega), if_pos hi2, if_pos hi2, q3, q4, e4, k1, Option.bind_some, e2]
        exact u1
      · rw [u4 y]
        show gbI L b d _ y ↔ gbI L b d (gbS (L.getD (b + d) dLg) (fun z => z ∈ F)) y
        refine gbI_c d (fun z => ?_) y
        unfold gbS
        rw [if_neg c]
        exact k4 z
end
