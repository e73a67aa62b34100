section
/-! goBack: facts as they were -/
/-- one entry of the log, taken back -/
def gbS (x : pLg) (P : pFc → Prop) : pFc → Prop := fun y => if 0 < x.2.1 then P y ∧ y ≠ x.2.2 else P y ∨ y = x.2.2
def gbP : List pLg → (pFc → Prop) → pFc → Prop
  | [], P => P
  | x :: L, P => gbP L (gbS x P)
theorem gbS_c {x : pLg} {P Q : pFc → Prop} (h : ∀ y, P y ↔ Q y) (y : pFc) : gbS x P y ↔ gbS x Q y := by
  unfold gbS
  split
  · rw [h y]
  · rw [h y]
theorem gbP_c : ∀ (L : List pLg) {P Q : pFc → Prop}, (∀ y, P y ↔ Q y) → ∀ y, gbP L P y ↔ gbP L Q y
  | [], _, _, h => h
  | x :: L, _, _, h => gbP_c L (gbS_c h)
theorem gbP_app : ∀ (L L' : List pLg) (P : pFc → Prop), gbP (L ++ L') P = gbP L' (gbP L P)
  | [], _, _ => rfl
  | x :: L, L', P => gbP_app L L' (gbS x P)
theorem gbP_pos : ∀ (L : List pLg) (P : pFc → Prop), (∀ x ∈ L, 0 < x.2.1) → ∀ y, gbP L P y ↔ P y ∧ ∀ x ∈ L, y ≠ x.2.2
  | [], P, _, y => ⟨fun h => ⟨h, fun x hx => by cases hx⟩, fun h => h.1⟩
  | x :: L, P, h, y => by
    have h1 := h x (List.mem_cons_self ..)
    refine (gbP_pos L (gbS x P) (fun z hz => h z (List.mem_cons_of_mem _ hz)) y).trans ?_
    unfold gbS
    rw [if_pos h1]
    constructor
    · rintro ⟨⟨a, b⟩, c⟩
      refine ⟨a, fun z hz => ?_⟩
      rcases List.mem_cons.mp hz with q | q
      · rw [q]; exact b
      · exact c z q
    · rintro ⟨a, b⟩
      exact ⟨⟨a, b x (List.mem_cons_self ..)⟩, fun z hz => b z (List.mem_cons_of_mem _ hz)⟩
theorem gbP_neg : ∀ (L : List pLg) (P : pFc → Prop), (∀ x ∈ L, ¬ 0 < x.2.1) → ∀ y, gbP L P y ↔ P y ∨ ∃ x ∈ L, y = x.2.2
  | [], P, _, y => ⟨fun h => .inl h, fun h => h.elim id (fun ⟨x, hx, _⟩ => by cases hx)⟩
  | x :: L, P, h, y => by
    have h1 := h x (List.mem_cons_self ..)
    refine (gbP_neg L (gbS x P) (fun z hz => h z (List.mem_cons_of_mem _ hz)) y).trans ?_
    unfold gbS
    rw [if_neg h1]
    constructor
    · rintro ((a | a) | ⟨z, z1, z2⟩)
      · exact .inl a
      · exact .inr ⟨x, List.mem_cons_self .., a⟩
      · exact .inr ⟨z, List.mem_cons_of_mem _ z1, z2⟩
    · rintro (a | ⟨z, z1, z2⟩)
      · exact .inl (.inl a)
      · rcases List.mem_cons.mp z1 with q | q
        · rw [q] at z2; exact .inl (.inr z2)
        · exact .inr ⟨z, q, z2⟩
/-- a round taken back -/
theorem gbP_lgR {rd : Int} {A B : List pFc} (y : pFc) : gbP (lgR rd A B).reverse (fun z => z ∈ A) y ↔ y ∈ B := by
  unfold lgR
  rw [List.reverse_append, gbP_app]
  refine (gbP_neg _ _ (fun x hx => ?_) y).trans ?_
  · have := (lgD_mem.mp (List.mem_reverse.mp hx)).2.1
    omega
  have h1 := gbP_pos (lgD rd 1 A B).reverse (fun z => z ∈ A) (fun x hx => by
    have := (lgD_mem.mp (List.mem_reverse.mp hx)).2.1
    omega) y
  constructor
  · rintro (h | ⟨x, x1, x2⟩)
    · obtain ⟨a1, a2⟩ := h1.mp h
      by_cases c : y ∈ B
      · exact c
      · exact absurd rfl (a2 (rd, 1, y) (List.mem_reverse.mpr (lgD_mem.mpr ⟨rfl, rfl, a1, c⟩)))
    · rw [x2]
      exact (lgD_mem.mp (List.mem_reverse.mp x1)).2.2.1
  · intro hy
    by_cases c : y ∈ A
    · refine .inl (h1.mpr ⟨c, fun x hx q => ?_⟩)
      rw [q] at hy
      exact (lgD_mem.mp (List.mem_reverse.mp hx)).2.2.2 hy
    · exact .inr ⟨(rd, -1, y), List.mem_reverse.mpr (lgD_mem.mpr ⟨rfl, rfl, hy, c⟩), rfl⟩
theorem getD_apr {α : Type} {l : List α} {d : α} (l' : List α) (k : Nat) : (l ++ l').getD (l.length + k) d = l'.getD k d := by
  rw [List.getD_eq_getElem?_getD, List.getElem?_append_right (by omega), ← List.getD_eq_getElem?_getD, show l.length + k - l.length = k by omega]
/-- entries d of the log from b on, taken back from the last -/
def gbI (L : List pLg) (b : Nat) : Nat → (pFc → Prop) → pFc → Prop
  | 0, P => P
  | d + 1, P => gbI L b d (gbS (L.getD (b + d) dLg) P)
/-- how many of them come back -/
def gbN (L : List pLg) (b : Nat) : Nat → Nat
  | 0 => 0
  | d + 1 => gbN L b d + if 0 < (L.getD (b + d) dLg).2.1 then 0 else 1
theorem gbI_c {L : List pLg} {b : Nat} : ∀ (d : Nat) {P Q : pFc → Prop}, (∀ y, P y ↔ Q y) → ∀ y, gbI L b d P y ↔ gbI L b d Q y
  | 0, _, _, h => h
  | d + 1, _, _, h => gbI_c d (gbS_c h)
theorem gbI_is {L0 L1 L2 : List pLg} : ∀ (d : Nat) (P : pFc → Prop), d ≤ L1.length → gbI (L0 ++ (L1 ++ L2)) L0.length d P = gbP (L1.take d).reverse P
  | 0, P, _ => by
    rw [List.take_zero]
    rfl
  | d + 1, P, h => by
    have e1 : (L0 ++ (L1 ++ L2)).getD (L0.length + d) dLg = L1.getD d dLg := by
      rw [getD_apr, getD_app _ (by omega)]
    have e2 : L1.take (d + 1) = L1.take d ++ [L1.getD d dLg] := by
      rw [List.take_succ_eq_append_getElem (by omega), getD_e (by omega)]
    rw [e2, List.reverse_append]
    show gbI _ _ d (gbS ((L0 ++ (L1 ++ L2)).getD (L0.length + d) dLg) P) = gbP (L1.take d).reverse (gbS (L1.getD d dLg) P)
    rw [e1]
    exact gbI_is d _ (by omega)
theorem gbN_is {L0 L1 L2 : List pLg} : ∀ (d : Nat), d ≤ L1.length → gbN (L0 ++ (L1 ++ L2)) L0.length d = (L1.take d).countP (fun x => ! decide (0 < x.2.1))
  | 0, _ => by
    rw [List.take_zero]
    rfl
  | d + 1, h => by
    have e1 : (L0 ++ (L1 ++ L2)).getD (L0.length + d) dLg = L1.getD d dLg := by
      rw [getD_apr, getD_app _ (by omega)]
    have e2 : L1.take (d + 1) = L1.take d ++ [L1.getD d dLg] := by
      rw [List.take_succ_eq_append_getElem (by omega), getD_e (by omega)]
    rw [e2, List.countP_append, List.countP_singleton]
    show gbN _ _ d + (if 0 < ((L0 ++ (L1 ++ L2)).getD (L0.length + d) dLg).2.1 then 0 else 1) = _
    rw [e1, gbN_is d (by omega)]
    by_cases c : 0 < (L1.getD d dLg).2.1
    · rw [if_pos c, decide_eq_true c]; rfl
    · rw [if_neg c, decide_eq_false c]; rfl
theorem lgR_n {rd : Int} {A B : List pFc} : (lgR rd A B).countP (fun x => ! decide (0 < x.2.1)) ≤ B.length := by
  unfold lgR
  rw [List.countP_append]
  have h1 : (lgD rd (-1) B A).countP (fun x => ! decide (0 < x.2.1)) ≤ B.length := Nat.le_trans List.countP_le_length lgD_len
  have h2 : (lgD rd 1 A B).countP (fun x => ! decide (0 < x.2.1)) = 0 := by
    rw [List.countP_eq_zero]
    intro x hx
    rw [(lgD_mem.mp hx).2.1]
    decide
  omega
section
variable {f o h : Nat} {L : List pLg} {r : Int}
theorem l_311_seg {b : Nat} (hf : 3500 < f) (hh : h < 4) (ho : o = 123 + 29 * h) : ∀ (d fu : Nat) (G : xG_) (F : List pFc), d < fu → b + d ≤ L.length → (∀ i, b ≤ i → i < b + d → r < (L.getD i dLg).1) → rLg G o L → rFa G 253 F → F.Pairwise fLt → F.length + gbN L b d ≤ 3400 →
    ∃ G' F', g311_16 f fu o r 253 (((b + d : Nat) : Int) - 1) G = g311_16 f (fu - d) o r 253 ((b : Int) - 1) G' ∧ rFa G' 253 F' ∧ F'.Pairwise fLt ∧ (∀ y, y ∈ F' ↔ gbI L b d (fun z => z ∈ F) y) ∧ xfy 253 G G' := by
  intro d
  induction d with
  | zero =>
    intro fu G F h1 h2 h3 h4 h5 h6 h7
    exact ⟨G, F, rfl, h5, h6, fun y => Iff.rfl, fun _ _ _ _ _ _ => rfl⟩
  | succ d ih =>
    intro fu G F h1 h2 h3 h4 h5 h6 h7
    obtain ⟨fu, rfl⟩ : ∃ t, fu = t + 1 := ⟨fu - 1, by omega⟩
    have hi : b + d < L.length := by omega
    have hl := h4.2.1
    obtain ⟨q1, q2, q3, q4, q5, q6⟩ := h4.2.2 (b + d) hi
    have hr := h3 (b + d) (by omega) (by omega)
    have e1 : (((b + (d + 1) : Nat) : Int) - 1) = ((b + d : Nat) : Int) := by omega
    have e2 : xwr (((b + d : Nat) : Int) + -1) = ((b + d : Nat) : Int) - 1 := by rw [xwr_g _ (by omega) (by omega)]; omega
    have e4 : xwr (4 * ((b + d : Nat) : Int)) = ((4 * (b + d) : Nat) : Int) := by rw [xwr_g _ (by omega) (by omega)]; omega
    have hi2 : 0 ≤ ((b + d : Nat) : Int) ∧ ((b + d : Nat) : Int) < 12000 := by omega
    have hb : isFb 253 := by unfold isFb; omega
    have h9 : ((xl_t (o + 9)).2.2 : Int) = 48000 := by
      obtain rfl | rfl | rfl | rfl : h = 0 ∨ h = 1 ∨ h = 2 ∨ h = 3 := by omega
      all_goals (subst ho; decide +kernel)
    have hv : rVe G (o + 9) (4 * (b + d)) (L.getD (b + d) dLg).2.2.2 := ⟨by rw [h9]; omega, by omega, by omega, fun k hk => q6 k (by omega)⟩
    have hsz : F.length + gbN L b (d + 1) ≤ 3400 := h7
    unfold gbN at hsz
    have e0 : g311_16 f (fu + 1) o r 253 (((b + (d + 1) : Nat) : Int) - 1) G = g311_16b (g311_16 f fu) f o r 253 ((b + d : Nat) : Int) G := by rw [e1]; rfl
    have e3 : fu + 1 - (d + 1) = fu - d := by omega
    by_cases c : 0 < (L.getD (b + d) dLg).2.1
    · obtain ⟨G1, F1, k1, k2, k3, k4, k5⟩ := l_199 (f := f) (b := 253) (x := (L.getD (b + d) dLg).2.2) hf hb h5 h6 hv
      have hlen : F1.length ≤ F.length := by
        refine nodup_len F1 F ?_ (fun y hy => ((k4 y).mp hy).1)
        refine List.nodup_iff_pairwise_ne.mpr (List.Pairwise.imp (S := fun x y => x ≠ y) (fun {a b} h => ?_) k3)
        intro q
        rw [q] at h
        exact fLt_irr _ h
      rw [if_pos c] at hsz
      obtain ⟨G', F', u1, u2, u3, u4, u5⟩ := ih fu G1 F1 (by omega) (by omega) (fun i i1 i2 => h3 i i1 (by omega)) (h4.ge (k5 _ _ (by omega) (by omega) (by omega) (by omega)) (fun a j _ _ => k5 _ _ (by omega) (by omega) (by omega) (by omega))) k2 k3 (by omega)
      refine ⟨G', F', ?_, u2, u3, fun y => ?_, fun a j z1 z2 z3 z4 => by rw [u5 a j z1 z2 z3 z4, k5 a j z1 z2 z3 z4]⟩
      · rw [e0, e3]
        unfold g311_16b g311_97
        rw [if_neg (by omega), if_pos hi2, Int.toNat_natCast, q1, if_neg (by omega), if_pos hi2, q2, if_neg (by omega), if_pos hi2, if_pos hi2, q3, q4, e4, k1, Option.bind_some, e2]
        exact u1
      · rw [u4 y]
        show gbI L b d _ y ↔ gbI L b d (gbS (L.getD (b + d) dLg) (fun z => z ∈ F)) y
        refine gbI_c d (fun z => ?_) y
        unfold gbS
        rw [if_pos c]
        exact k4 z
    · rw [if_neg c] at hsz
      obtain ⟨G1, F1, k1, k2, k3, k4, k5, k6⟩ := l_198 (f := f) (b := 253) (x := (L.getD (b + d) dLg).2.2) hf hb h5 h6 hv q5 (by omega) (by omega)
      have hlen : F1.length ≤ F.length + 1 := by
        rcases k5 with q | q
        · rw [q]; omega
        · omega
      obtain ⟨G', F', u1, u2, u3, u4, u5⟩ := ih fu G1 F1 (by omega) (by omega) (fun i i1 i2 => h3 i i1 (by omega)) (h4.ge (k6 _ _ (by omega) (by omega) (by omega) (by omega)) (fun a j _ _ => k6 _ _ (by omega) (by omega) (by omega) (by omega))) k2 k3 (by omega)
      refine ⟨G', F', ?_, u2, u3, fun y => ?_, fun a j z1 z2 z3 z4 => by rw [u5 a j z1 z2 z3 z4, k6 a j z1 z2 z3 z4]⟩
      · rw [e0, e3]
        unfold g311_16b g311_97
        rw [if_neg (by omega), if_pos hi2, Int.toNat_natCast, q1, if_neg (by omega), if_pos hi2, q2, if_pos (by omega), if_pos hi2, if_pos hi2, q3, q4, e4, k1, Option.bind_some, e2]
        exact u1
      · rw [u4 y]
        show gbI L b d _ y ↔ gbI L b d (gbS (L.getD (b + d) dLg) (fun z => z ∈ F)) y
        refine gbI_c d (fun z => ?_) y
        unfold gbS
        rw [if_neg c]
        exact k4 z
end
end
section
/-! The past of a line -/
/-- a moment: edition, facts, the texts' numbers of its CELLS; the texts told for CELLS in its round, whether the edition was taken in its round -/
abbrev sMo : Type := Nat × List pFc × (Nat → Nat) × (Nat → Int) × Bool
def hCat {α : Type} (g : Nat → List (Int × α)) (b : Nat) : Nat → List (Int × α)
  | 0 => []
  | k + 1 => hCat g b k ++ g (b + k + 1)
section
variable {α : Type} {g : Nat → List (Int × α)}
theorem hCat_mem (hg : ∀ r, ∀ a ∈ g r, a.1 = (r : Int)) {b : Nat} {a : Int × α} : ∀ k, a ∈ hCat g b k → (b : Int) < a.1 ∧ a.1 ≤ (b : Int) + k
  | 0, h => by cases h
  | k + 1, h => by
    rcases List.mem_append.mp h with q | q
    · have := hCat_mem hg k q
      omega
    · have := hg _ a q
      omega
theorem pw_all {β : Type} {R : β → β → Prop} : ∀ (l : List β), (∀ a ∈ l, ∀ b ∈ l, R a b) → l.Pairwise R
  | [], _ => List.Pairwise.nil
  | x :: l, h => List.Pairwise.cons (fun b hb => h x (List.mem_cons_self ..) b (List.mem_cons_of_mem _ hb)) (pw_all l (fun a ha b hb => h a (List.mem_cons_of_mem _ ha) b (List.mem_cons_of_mem _ hb)))
theorem hCat_S (hg : ∀ r, ∀ a ∈ g r, a.1 = (r : Int)) {b : Nat} : ∀ k, lgS (hCat g b k)
  | 0 => List.Pairwise.nil
  | k + 1 => by
    refine List.pairwise_append.mpr ⟨hCat_S hg k, pw_all _ (fun a ha c hc => ?_), fun a ha c hc => ?_⟩
    · rw [hg _ a ha, hg _ c hc]; omega
    · have := hCat_mem hg k ha
      rw [hg _ c hc]
      omega
theorem hCat_split {b i : Nat} : ∀ k, hCat g b (i + k) = hCat g b i ++ hCat g (b + i) k
  | 0 => (List.append_nil _).symm
  | k + 1 => by
    show hCat g b (i + k) ++ g (b + (i + k) + 1) = hCat g b i ++ (hCat g (b + i) k ++ g (b + i + k + 1))
    rw [hCat_split k, List.append_assoc, Nat.add_assoc b i k]
theorem hCat_K (hg : ∀ r, ∀ a ∈ g r, a.1 = (r : Int)) {b i k : Nat} : lgK ((b + i : Nat) : Int) (hCat g b (i + k)) = hCat g (b + i) k := by
  unfold lgK
  rw [hCat_split, List.filter_append]
  have h1 : (hCat g b i).filter (fun a => decide (((b + i : Nat) : Int) < a.1)) = [] := by
    rw [List.filter_eq_nil_iff]
    intro a ha
    have := hCat_mem hg i ha
    rw [decide_eq_true_iff]
    omega
  have h2 : (hCat g (b + i) k).filter (fun a => decide (((b + i : Nat) : Int) < a.1)) = hCat g (b + i) k := by
    rw [List.filter_eq_self]
    intro a ha
    have := hCat_mem hg k ha
    rw [decide_eq_true_iff]
    omega
  rw [h1, h2, List.nil_append]
end
/-- what came and went in round r; the CELLS told; the edition taken -/
def hLg (H : Nat → sMo) (r : Nat) : List pLg := lgR (r : Int) (H r).2.1 (H (r - 1)).2.1
def hCg (H : Nat → sMo) (r : Nat) : List pCg := cgN (r : Int) (H (r - 1)).2.2.1 (H r).2.2.2.1 72
def hEg (H : Nat → sMo) (r : Nat) : List pEg := if (H r).2.2.2.2 = true then [((r : Int), ((H (r - 1)).1 : Int))] else []
theorem hLg_r (H : Nat → sMo) : ∀ r, ∀ a ∈ hLg H r, a.1 = (r : Int) := fun r a ha => by
  unfold hLg lgR at ha
  rcases List.mem_append.mp ha with q | q
  · exact (lgD_mem.mp q).1
  · exact (lgD_mem.mp q).1
theorem cgN_r {rd : Int} {K : Nat → Nat} {W : Nat → Int} {a : pCg} : ∀ x, a ∈ cgN rd K W x → a.1 = rd ∧ ∃ c, c < x ∧ W c ≠ -1 ∧ a.2.1 = (c : Int) ∧ a.2.2 = (K c : Int)
  | 0, h => by cases h
  | x + 1, h => by
    unfold cgN at h
    rcases List.mem_append.mp h with q | q
    · obtain ⟨h1, c, c1, c2⟩ := cgN_r x q
      exact ⟨h1, c, by omega, c2⟩
    · by_cases d : W x = -1
      · rw [if_pos d] at q; cases q
      · rw [if_neg d] at q
        rw [List.mem_singleton.mp q]
        exact ⟨rfl, x, Nat.lt_succ_self x, d, rfl, rfl⟩
theorem hCg_r (H : Nat → sMo) : ∀ r, ∀ a ∈ hCg H r, a.1 = (r : Int) := fun r a ha => (cgN_r 72 ha).1
theorem hEg_r (H : Nat → sMo) : ∀ r, ∀ a ∈ hEg H r, a.1 = (r : Int) := fun r a ha => by
  unfold hEg at ha
  by_cases c : (H r).2.2.2.2 = true
  · rw [if_pos c] at ha
    rw [List.mem_singleton.mp ha]
  · rw [if_neg c] at ha; cases ha
/-- a history that hangs together, rounds b to b + k -/
def hSt (H : Nat → sMo) (b k : Nat) : Prop := ∀ r, b < r → r ≤ b + k → ((H r).2.2.2.2 ≠ true → (H r).1 = (H (r - 1)).1) ∧ (H r).2.2.1 = kNx (H (r - 1)).2.2.1 (H r).2.2.2.1 72
/-- its facts -/
def hFc (H : Nat → sMo) (b k : Nat) : Prop := ∀ r, b ≤ r → r ≤ b + k → (H r).2.1.Pairwise fLt ∧ (H r).2.1.length ≤ 1600
section
variable {f o h : Nat} {H : Nat → sMo}
theorem l_311_16 {L : List pLg} {r : Nat} (hf : 12100 < f) (hh : h < 4) (ho : o = 123 + 29 * h) {L0 : List pLg} (h0 : ∀ a ∈ L0, a.1 ≤ (r : Int)) : ∀ (k fu : Nat) (G : xG_) (L1 : List pLg), L = (L0 ++ hCat (hLg H) r k) ++ L1 → (L0 ++ hCat (hLg H) r k).length < fu → rLg G o L → hFc H r k → rFa G 253 (H (r + k)).2.1 →
    ∃ G', g311_16 f fu o (r : Int) 253 (((L0 ++ hCat (hLg H) r k).length : Int) - 1) G = g311_103 f o (r : Int) G' ∧ rFa G' 253 (H r).2.1 ∧ xfy 253 G G' := by
  intro k
  induction k with
  | zero =>
    intro fu G L1 h1 h2 h3 h4 h5
    obtain ⟨fu, rfl⟩ : ∃ t, fu = t + 1 := ⟨fu - 1, by omega⟩
    have en : L0 ++ hCat (hLg H) r 0 = L0 := List.append_nil _
    rw [en] at h1 ⊢
    refine ⟨G, ?_, h5, fun _ _ _ _ _ _ => rfl⟩
    show g311_16b (g311_16 f fu) f o (r : Int) 253 ((L0.length : Int) - 1) G = _
    unfold g311_16b
    by_cases c : L0.length = 0
    · rw [if_pos (by omega)]
    · have hl := h3.2.1
      have hL : L.length = L0.length + L1.length := by rw [h1, List.length_append]
      obtain ⟨q1, _⟩ := h3.2.2 (L0.length - 1) (by omega)
      have e1 : ((L0.length : Int) - 1).toNat = L0.length - 1 := by omega
      have hm : L.getD (L0.length - 1) dLg ∈ L0 := by
        rw [h1, getD_app _ (by omega), getD_e (by omega)]
        exact List.getElem_mem _
      have := h0 _ hm
      rw [if_neg (by omega), if_pos (by omega), e1, q1, if_pos this]
  | succ k ih =>
    intro fu G L1 h1 h2 h3 h4 h5
    have e1 : L0 ++ hCat (hLg H) r (k + 1) = (L0 ++ hCat (hLg H) r k) ++ hLg H (r + k + 1) := (List.append_assoc _ _ _).symm
    have hL : L = (L0 ++ hCat (hLg H) r k) ++ (hLg H (r + k + 1) ++ L1) := by rw [h1, e1, List.append_assoc]
    have hlL : L.length = (L0 ++ hCat (hLg H) r k).length + ((hLg H (r + k + 1)).length + L1.length) := by rw [hL]; simp only [List.length_append]
    have el : (L0 ++ hCat (hLg H) r (k + 1)).length = (L0 ++ hCat (hLg H) r k).length + (hLg H (r + k + 1)).length := by rw [e1, List.length_append]
    obtain ⟨f1, f2⟩ := h4 (r + (k + 1)) (by omega) (by omega)
    obtain ⟨f3, f4⟩ := h4 (r + k) (by omega) (by omega)
    have hn : gbN L (L0 ++ hCat (hLg H) r k).length (hLg H (r + k + 1)).length ≤ 1600 := by
      have := gbN_is (L0 := L0 ++ hCat (hLg H) r k) (L1 := hLg H (r + k + 1)) (L2 := L1) (hLg H (r + k + 1)).length (Nat.le_refl _)
      rw [hL, this, List.take_length]
      have h6 : (hLg H (r + k + 1)).countP (fun x => ! decide (0 < x.2.1)) ≤ (H (r + k + 1 - 1)).2.1.length := lgR_n
      rw [show r + k + 1 - 1 = r + k by omega] at h6
      omega
    obtain ⟨G1, F1, k1, k2, k3, k4, k5⟩ := l_311_seg (f := f) (L := L) (r := (r : Int)) (b := (L0 ++ hCat (hLg H) r k).length) (by omega) hh ho (hLg H (r + k + 1)).length fu G (H (r + (k + 1))).2.1 (by omega) (by omega) (fun i i1 i2 => by
      obtain ⟨j, hj⟩ : ∃ j, i = (L0 ++ hCat (hLg H) r k).length + j := ⟨i - (L0 ++ hCat (hLg H) r k).length, by omega⟩
      rw [hL, hj, getD_apr, getD_app _ (by omega), getD_e (by omega)]
      rw [hLg_r H _ _ (List.getElem_mem _)]
      omega) h3 h5 f1 (by omega)
    have hF : F1 = (H (r + k)).2.1 := by
      refine srt_ext fLt_irr (fun _ _ _ => fLt_tr) _ _ k3 f3 (fun y => ?_)
      rw [k4 y, hL, gbI_is _ _ (Nat.le_refl _), List.take_length]
      have := gbP_lgR (rd := ((r + k + 1 : Nat) : Int)) (A := (H (r + k + 1)).2.1) (B := (H (r + k + 1 - 1)).2.1) y
      rw [show r + k + 1 - 1 = r + k by omega] at this
      unfold hLg
      rw [show r + k + 1 - 1 = r + k by omega]
      exact this
    rw [hF] at k2
    obtain ⟨G', u1, u2, u3⟩ := ih (fu - (hLg H (r + k + 1)).length) G1 (hLg H (r + k + 1) ++ L1) hL (by omega) (h3.ge (k5 _ _ (by omega) (by omega) (by omega) (by omega)) (fun a j _ _ => k5 _ _ (by omega) (by omega) (by omega) (by omega))) (fun i i1 i2 => h4 i i1 (by omega)) k2
    refine ⟨G', ?_, u2, fun a j z1 z2 z3 z4 => by rw [u3 a j z1 z2 z3 z4, k5 a j z1 z2 z3 z4]⟩
    rw [el, k1]
    exact u1
theorem l_311_117 {E : List pEg} {r : Nat} (hh : h < 4) (ho : o = 123 + 29 * h) {E0 : List pEg} (h0 : ∀ a ∈ E0, a.1 ≤ (r : Int)) {G : xG_} (h3 : rEg G o E) : ∀ (k fu : Nat) (E1 : List pEg), E = (E0 ++ hCat (hEg H) r k) ++ E1 → (E0 ++ hCat (hEg H) r k).length < fu → hSt H r k →
    g311_117 f fu o (r : Int) ((H (r + k)).1 : Int) (((E0 ++ hCat (hEg H) r k).length : Int) - 1) G = some (((H r).1 : Int), G) := by
  have hl := h3.2.1
  intro k
  induction k with
  | zero =>
    intro fu E1 h1 h2 h4
    obtain ⟨fu, rfl⟩ : ∃ t, fu = t + 1 := ⟨fu - 1, by omega⟩
    have en : E0 ++ hCat (hEg H) r 0 = E0 := List.append_nil _
    rw [en] at h1 ⊢
    show g311_117b (g311_117 f fu) f o (r : Int) ((H r).1 : Int) ((E0.length : Int) - 1) G = _
    unfold g311_117b g311_148
    by_cases c : E0.length = 0
    · rw [if_pos (by omega)]
    · have hL : E.length = E0.length + E1.length := by rw [h1, List.length_append]
      obtain ⟨q1, _⟩ := h3.2.2 (E0.length - 1) (by omega)
      have e1 : ((E0.length : Int) - 1).toNat = E0.length - 1 := by omega
      have hm : E.getD (E0.length - 1) (0, 0) ∈ E0 := by
        rw [h1, getD_app _ (by omega), getD_e (by omega)]
        exact List.getElem_mem _
      have := h0 _ hm
      rw [if_neg (by omega), if_pos (by omega), e1, q1, if_pos this]
  | succ k ih =>
    intro fu E1 h1 h2 h4
    have e1 : E0 ++ hCat (hEg H) r (k + 1) = (E0 ++ hCat (hEg H) r k) ++ hEg H (r + k + 1) := (List.append_assoc _ _ _).symm
    obtain ⟨s1, s2⟩ := h4 (r + k + 1) (by omega) (by omega)
    rw [show r + k + 1 - 1 = r + k by omega] at s1
    have hE : E = (E0 ++ hCat (hEg H) r k) ++ (hEg H (r + k + 1) ++ E1) := by rw [h1, e1, List.append_assoc]
    have h4' : hSt H r k := fun i i1 i2 => h4 i i1 (by omega)
    by_cases c : (H (r + k + 1)).2.2.2.2 = true
    · have eb : hEg H (r + k + 1) = [(((r + k + 1 : Nat) : Int), ((H (r + k)).1 : Int))] := by
        unfold hEg
        rw [if_pos c, show r + k + 1 - 1 = r + k by omega]
      have el : (E0 ++ hCat (hEg H) r (k + 1)).length = (E0 ++ hCat (hEg H) r k).length + 1 := by rw [e1, List.length_append, eb]; rfl
      have hL : E.length = (E0 ++ hCat (hEg H) r k).length + (1 + E1.length) := by rw [hE]; simp only [List.length_append, eb, List.length_singleton]
      have hg : E.getD (E0 ++ hCat (hEg H) r k).length (0, 0) = (((r + k + 1 : Nat) : Int), ((H (r + k)).1 : Int)) := by
        have := getD_apr (l := E0 ++ hCat (hEg H) r k) (d := ((0, 0) : pEg)) (hEg H (r + k + 1) ++ E1) 0
        rw [hE]
        refine Eq.trans (b := (hEg H (r + k + 1) ++ E1).getD 0 (0, 0)) this ?_
        rw [eb]
        rfl
      obtain ⟨q1, q2⟩ := h3.2.2 (E0 ++ hCat (hEg H) r k).length (by omega)
      rw [hg] at q1 q2
      obtain ⟨fu, rfl⟩ : ∃ t, fu = t + 1 := ⟨fu - 1, by omega⟩
      have en : (((E0 ++ hCat (hEg H) r k).length + 1 : Nat) : Int) - 1 = ((E0 ++ hCat (hEg H) r k).length : Int) := by omega
      have ew : xwr (((E0 ++ hCat (hEg H) r k).length : Int) + -1) = ((E0 ++ hCat (hEg H) r k).length : Int) - 1 := by rw [xwr_g _ (by omega) (by omega)]; omega
      rw [el, en]
      show g311_117b (g311_117 f fu) f o (r : Int) ((H (r + (k + 1))).1 : Int) ((E0 ++ hCat (hEg H) r k).length : Int) G = _
      unfold g311_117b
      rw [if_neg (by omega), if_pos (by omega), Int.toNat_natCast, q1, if_neg (by show ¬ ((r + k + 1 : Nat) : Int) ≤ (r : Int); omega), if_pos (by omega), q2, ew]
      exact ih fu (hEg H (r + k + 1) ++ E1) hE (by omega) h4'
    · have eb : hEg H (r + k + 1) = [] := by
        unfold hEg
        rw [if_neg c]
      have el : E0 ++ hCat (hEg H) r (k + 1) = E0 ++ hCat (hEg H) r k := by rw [e1, eb, List.append_nil]
      rw [el, show r + (k + 1) = r + k + 1 by omega, s1 c]
      exact ih fu E1 (by rw [h1, el]) (by rw [← el]; exact h2) h4'
/-- the logs of the history, from round b on -/
def rPa (G : xG_) (o : Nat) (H : Nat → sMo) (b k : Nat) : Prop := rHi G o (hCat (hLg H) b k) (hCat (hCg H) b k) (hCat (hEg H) b k)
/-- goBack -/
theorem l_311 {G : xG_} {b i k : Nat} (hf : 12100 < f) (hh : h < 4) (ho : o = 123 + 29 * h) (hP : rPa G o H b (i + k)) (hs : hSt H b (i + k)) (hF : hFc H b (i + k)) (h1 : G o 1 = ((H (b + (i + k))).1 : Int)) (hFa : rFa G (o + 1) (H (b + (i + k))).2.1) :
    ∃ G', g311 f o ((b + i : Nat) : Int) 253 G = some (((H (b + i)).1 : Int), G') ∧ rFa G' 253 (H (b + i)).2.1 ∧ xfy 253 G G' := by
  obtain ⟨hL, hC, hE, _⟩ := hP
  have hb : isFb (o + 1) := by unfold isFb; omega
  obtain ⟨G1, k1, k2, k3⟩ := l_194 (f := f) (b := 253) (b1 := o + 1) (by omega) (by unfold isFb; omega) hb (by omega) hFa
  have z : ∀ a j, a < 253 → G1 a j = G a j := fun a j q => k3 a j (by omega) (by omega) (by omega) (by omega)
  have hL1 : rLg G1 o (hCat (hLg H) b (i + k)) := hL.ge (z _ _ (by omega)) (fun a j _ _ => z _ _ (by omega))
  have eL : hCat (hLg H) b (i + k) = (hCat (hLg H) b i ++ hCat (hLg H) (b + i) k) ++ [] := by rw [List.append_nil, hCat_split]
  have eE : hCat (hEg H) b (i + k) = (hCat (hEg H) b i ++ hCat (hEg H) (b + i) k) ++ [] := by rw [List.append_nil, hCat_split]
  have hl := hL.2.1
  have hlE := hE.2.1
  have e10 : G1 o 10 = ((hCat (hLg H) b i ++ hCat (hLg H) (b + i) k).length : Int) := by
    rw [z _ _ (by omega), hL.1, hCat_split]
  have hlen : (hCat (hLg H) b i ++ hCat (hLg H) (b + i) k).length ≤ 12000 := by rw [← hCat_split]; exact hl
  have hlenE : (hCat (hEg H) b i ++ hCat (hEg H) (b + i) k).length ≤ 20 := by rw [← hCat_split]; exact hlE
  have ew : xwr (((hCat (hLg H) b i ++ hCat (hLg H) (b + i) k).length : Int) - 1) = ((hCat (hLg H) b i ++ hCat (hLg H) (b + i) k).length : Int) - 1 := xwr_g _ (by omega) (by omega)
  obtain ⟨G2, u1, u2, u3⟩ := l_311_16 (f := f) (H := H) (r := b + i) (L0 := hCat (hLg H) b i) hf hh ho (fun a ha => by
    have := hCat_mem (hLg_r H) i ha
    omega) k f G1 [] eL (by omega) hL1 (fun r r1 r2 => hF r (by omega) (by omega)) (by rw [show b + i + k = b + (i + k) by omega]; exact k2)
  have z2 : ∀ a j, a < 253 → G2 a j = G a j := fun a j q => by rw [u3 a j (by omega) (by omega) (by omega) (by omega)]; exact z a j q
  refine ⟨G2, ?_, u2, fun a j q1 q2 q3 q4 => by rw [u3 a j q1 q2 q3 q4, k3 a j q1 q2 q3 q4]⟩
  unfold g311
  rw [k1, Option.bind_some, e10, ew, u1]
  unfold g311_103
  have e17 : G2 o 17 = ((hCat (hEg H) b i ++ hCat (hEg H) (b + i) k).length : Int) := by
    rw [z2 _ _ (by omega), hE.1, hCat_split]
  have ew2 : xwr (((hCat (hEg H) b i ++ hCat (hEg H) (b + i) k).length : Int) - 1) = ((hCat (hEg H) b i ++ hCat (hEg H) (b + i) k).length : Int) - 1 := xwr_g _ (by omega) (by omega)
  rw [z2 _ _ (by omega), h1, e17, ew2, show b + (i + k) = b + i + k by omega]
  exact l_311_117 (f := f) hh ho (E0 := hCat (hEg H) b i) (fun a ha => by
    have := hCat_mem (hEg_r H) i ha
    omega) (hE.ge (z2 _ _ (by omega)) (fun a j _ _ => z2 _ _ (by omega))) k f [] eE (by omega) (fun r r1 r2 => hs r (by omega) (by omega))
end
end
section
/-! become: a line goes back -/
section
variable {f o h : Nat} {H : Nat → sMo}
theorem rLg.tk {G G' : xG_} {L0 L1 : List pLg} (h : rLg G o (L0 ++ L1)) (h0 : G' o 10 = (L0.length : Int)) (hf : ∀ a j, o + 5 ≤ a → a ≤ o + 9 → G' a j = G a j) : rLg G' o L0 := by
  obtain ⟨a1, a2, a3⟩ := h
  rw [List.length_append] at a2
  refine ⟨h0, by omega, fun i hi => ?_⟩
  have := a3 i (by rw [List.length_append]; omega)
  rw [getD_app _ hi] at this
  obtain ⟨b1, b2, b3, b4, b5, b6⟩ := this
  exact ⟨by rw [hf _ _ (by omega) (by omega)]; exact b1, by rw [hf _ _ (by omega) (by omega)]; exact b2, by rw [hf _ _ (by omega) (by omega)]; exact b3, by rw [hf _ _ (by omega) (by omega)]; exact b4, b5, fun j hj => by rw [hf _ _ (by omega) (by omega)]; exact b6 j hj⟩
theorem rEg.tk {G G' : xG_} {L0 L1 : List pEg} (h : rEg G o (L0 ++ L1)) (h0 : G' o 17 = (L0.length : Int)) (hf : ∀ a j, o + 13 ≤ a → a ≤ o + 14 → G' a j = G a j) : rEg G' o L0 := by
  obtain ⟨a1, a2, a3⟩ := h
  rw [List.length_append] at a2
  refine ⟨h0, by omega, fun i hi => ?_⟩
  have := a3 i (by rw [List.length_append]; omega)
  rw [getD_app _ hi] at this
  exact ⟨by rw [hf _ _ (by omega) (by omega)]; exact this.1, by rw [hf _ _ (by omega) (by omega)]; exact this.2⟩
theorem rCg.tk {G G' : xG_} {L0 L1 : List pCg} (h : rCg G o (L0 ++ L1)) (h0 : G' o 16 = (L0.length : Int)) (hf : ∀ a j, o + 10 ≤ a → a ≤ o + 12 → G' a j = G a j) : rCg G' o L0 := by
  obtain ⟨a1, a2, a3⟩ := h
  rw [List.length_append] at a2
  refine ⟨h0, by omega, fun i hi => ?_⟩
  have := a3 i (by rw [List.length_append]; omega)
  rw [getD_app _ hi] at this
  exact ⟨by rw [hf _ _ (by omega) (by omega)]; exact this.1, by rw [hf _ _ (by omega) (by omega)]; exact this.2.1, by rw [hf _ _ (by omega) (by omega)]; exact this.2.2⟩
theorem l_312_42 {L0 L1 : List pLg} {r x4 : Int} (h0 : ∀ a ∈ L0, a.1 ≤ r) (h1 : ∀ a ∈ L1, r < a.1) : ∀ (d fu : Nat) (G : xG_), d ≤ L1.length → d < fu → G o 10 = ((L0.length + d : Nat) : Int) → (∀ i, i < (L0 ++ L1).length → G (o + 5) i = ((L0 ++ L1).getD i dLg).1) → (L0 ++ L1).length ≤ 12000 →
    ∃ G', g312_42 f fu o r x4 G = g312_77 f f o r x4 G' ∧ G' o 10 = (L0.length : Int) ∧ ∀ a j, ¬ (a = o ∧ j = 10) → G' a j = G a j := by
  intro d
  induction d with
  | zero =>
    intro fu G k1 k2 k3 k4 k5
    rw [List.length_append] at k5
    obtain ⟨fu, rfl⟩ : ∃ t, fu = t + 1 := ⟨fu - 1, by omega⟩
    refine ⟨G, ?_, by rw [k3]; omega, fun _ _ _ => rfl⟩
    show g312_42b (g312_42 f fu) f o r x4 G = _
    unfold g312_42b
    rw [k3]
    by_cases c : L0.length = 0
    · rw [if_pos (by omega)]
    · have e1 : xwr (((L0.length + 0 : Nat) : Int) - 1) = ((L0.length - 1 : Nat) : Int) := by rw [xwr_g _ (by omega) (by omega)]; omega
      have hm : (L0 ++ L1).getD (L0.length - 1) dLg ∈ L0 := by
        rw [getD_app _ (by omega), getD_e (by omega)]
        exact List.getElem_mem _
      have := h0 _ hm
      rw [if_neg (by omega), e1, if_pos (by omega), Int.toNat_natCast, k4 _ (by rw [List.length_append]; omega), if_pos this]
  | succ d ih =>
    intro fu G k1 k2 k3 k4 k5
    have k5' := k5
    rw [List.length_append] at k5'
    obtain ⟨fu, rfl⟩ : ∃ t, fu = t + 1 := ⟨fu - 1, by omega⟩
    have e1 : xwr (((L0.length + (d + 1) : Nat) : Int) - 1) = ((L0.length + d : Nat) : Int) := by rw [xwr_g _ (by omega) (by omega)]; omega
    have hm : (L0 ++ L1).getD (L0.length + d) dLg ∈ L1 := by
      rw [getD_apr, getD_e (by omega)]
      exact List.getElem_mem _
    have := h1 _ hm
    obtain ⟨G', u1, u2, u3⟩ := ih fu (xup2 G o 10 ((L0.length + d : Nat) : Int)) (by omega) (by omega) (xup2_s _ _ _ _) (fun i hi => by rw [xup2_n (by omega)]; exact k4 i hi) k5
    refine ⟨G', ?_, u2, fun a j q => by rw [u3 a j q, xup2_n (by omega)]⟩
    show g312_42b (g312_42 f fu) f o r x4 G = _
    unfold g312_42b
    rw [k3, if_neg (by omega), e1, if_pos (by omega), Int.toNat_natCast, k4 _ (by rw [List.length_append]; omega), if_neg (by omega), Option.bind_some]
    exact u1
theorem l_312_77 {L0 L1 : List pEg} {r x4 : Int} (h0 : ∀ a ∈ L0, a.1 ≤ r) (h1 : ∀ a ∈ L1, r < a.1) : ∀ (d fu ed : Nat) (G : xG_), d ≤ L1.length → d < fu → G o 17 = ((L0.length + d : Nat) : Int) → G o 4 = ((ed + d : Nat) : Int) → ed < 1000000 → (∀ i, i < (L0 ++ L1).length → G (o + 13) i = ((L0 ++ L1).getD i (0, 0)).1) → (L0 ++ L1).length ≤ 20 →
    ∃ G', g312_77 f fu o r x4 G = g312_122 f f o r x4 G' ∧ G' o 17 = (L0.length : Int) ∧ G' o 4 = (ed : Int) ∧ ∀ a j, ¬ (a = o ∧ (j = 17 ∨ j = 4)) → G' a j = G a j := by
  intro d
  induction d with
  | zero =>
    intro fu ed G k1 k2 k3 k6 k7 k4 k5
    rw [List.length_append] at k5
    obtain ⟨fu, rfl⟩ : ∃ t, fu = t + 1 := ⟨fu - 1, by omega⟩
    refine ⟨G, ?_, by rw [k3]; omega, by rw [k6]; omega, fun _ _ _ => rfl⟩
    show g312_77b (g312_77 f fu) f o r x4 G = _
    unfold g312_77b
    rw [k3]
    by_cases c : L0.length = 0
    · rw [if_pos (by omega)]
    · have e1 : xwr (((L0.length + 0 : Nat) : Int) - 1) = ((L0.length - 1 : Nat) : Int) := by rw [xwr_g _ (by omega) (by omega)]; omega
      have hm : (L0 ++ L1).getD (L0.length - 1) (0, 0) ∈ L0 := by
        rw [getD_app _ (by omega), getD_e (by omega)]
        exact List.getElem_mem _
      have := h0 _ hm
      rw [if_neg (by omega), e1, if_pos (by omega), Int.toNat_natCast, k4 _ (by rw [List.length_append]; omega), if_pos this]
  | succ d ih =>
    intro fu ed G k1 k2 k3 k6 k7 k4 k5
    have k5' := k5
    rw [List.length_append] at k5'
    obtain ⟨fu, rfl⟩ : ∃ t, fu = t + 1 := ⟨fu - 1, by omega⟩
    have e1 : xwr (((L0.length + (d + 1) : Nat) : Int) - 1) = ((L0.length + d : Nat) : Int) := by rw [xwr_g _ (by omega) (by omega)]; omega
    have e2 : xwr (((ed + (d + 1) : Nat) : Int) - 1) = ((ed + d : Nat) : Int) := by rw [xwr_g _ (by omega) (by omega)]; omega
    have hm : (L0 ++ L1).getD (L0.length + d) (0, 0) ∈ L1 := by
      rw [getD_apr, getD_e (by omega)]
      exact List.getElem_mem _
    have := h1 _ hm
    obtain ⟨G', u1, u2, u4, u3⟩ := ih fu ed (xup2 (xup2 G o 17 ((L0.length + d : Nat) : Int)) o 4 ((ed + d : Nat) : Int)) (by omega) (by omega) (by rw [xup2_n (by omega), xup2_s]) (xup2_s _ _ _ _) k7 (fun i hi => by rw [xup2_n (by omega), xup2_n (by omega)]; exact k4 i hi) k5
    refine ⟨G', ?_, u2, u4, fun a j q => by rw [u3 a j q, xup2_n (by omega), xup2_n (by omega)]⟩
    show g312_77b (g312_77 f fu) f o r x4 G = _
    unfold g312_77b
    rw [k3, if_neg (by omega), e1, if_pos (by omega), Int.toNat_natCast, k4 _ (by rw [List.length_append]; omega), if_neg (by omega), Option.bind_some, xup2_n (by omega), k6, e2, Option.bind_some]
    exact u1
/-- a round's CELLS -/
theorem l_312_122b {r x4 : Int} {rd : Int} (hr : r < rd) (ho : 122 < o ∧ o < 211) {L0 : List pCg} {K : Nat → Nat} {W : Nat → Int} : ∀ (x fu : Nat) (L1 : List pCg) (G : xG_), x ≤ 72 → (cgN rd K W x).length < fu → rCg G o (L0 ++ (cgN rd K W x ++ L1)) ∨ (G o 16 = ((L0 ++ cgN rd K W x).length : Int) ∧ (∀ i, i < (L0 ++ (cgN rd K W x ++ L1)).length → G (o + 10) i = ((L0 ++ (cgN rd K W x ++ L1)).getD i (0, 0, 0)).1 ∧ G (o + 11) i = ((L0 ++ (cgN rd K W x ++ L1)).getD i (0, 0, 0)).2.1 ∧ G (o + 12) i = ((L0 ++ (cgN rd K W x ++ L1)).getD i (0, 0, 0)).2.2) ∧ (L0 ++ (cgN rd K W x ++ L1)).length ≤ 200) → G o 16 = ((L0 ++ cgN rd K W x).length : Int) → (∀ c, c < 72 → G (o + 15) c = (kNx K W x c : Int)) →
    ∃ G' fu', g312_122 f fu o r x4 G = g312_122 f fu' o r x4 G' ∧ fu - (cgN rd K W x).length ≤ fu' ∧ G' o 16 = (L0.length : Int) ∧ (∀ c, c < 72 → G' (o + 15) c = (K c : Int)) ∧ ∀ a j, ¬ (a = o ∧ j = 16) → a ≠ o + 15 → G' a j = G a j := by
  intro x
  induction x with
  | zero =>
    intro fu L1 G k1 k2 k3 k4 k5
    refine ⟨G, fu, rfl, Nat.sub_le _ _, ?_, fun c hc => ?_, fun _ _ _ _ => rfl⟩
    · rw [k4]
      show ((L0 ++ []).length : Int) = _
      rw [List.append_nil]
    · rw [k5 c hc]
      unfold kNx
      rw [if_neg (fun q => absurd q.1 (Nat.not_lt_zero c))]
  | succ x ih =>
    intro fu L1 G k1 k2 k3 k4 k5
    have kn : ∀ c, c ≠ x → kNx K W (x + 1) c = kNx K W x c := fun c hc => by
      unfold kNx
      by_cases d : c < x ∧ W c ≠ -1
      · rw [if_pos d, if_pos ⟨by omega, d.2⟩]
      · rw [if_neg d, if_neg (fun q => d ⟨by omega, q.2⟩)]
    have kx : kNx K W x x = K x := by
      unfold kNx
      rw [if_neg (fun q => absurd q.1 (Nat.lt_irrefl x))]
    have k3' : (∀ i, i < (L0 ++ (cgN rd K W (x + 1) ++ L1)).length → G (o + 10) i = ((L0 ++ (cgN rd K W (x + 1) ++ L1)).getD i (0, 0, 0)).1 ∧ G (o + 11) i = ((L0 ++ (cgN rd K W (x + 1) ++ L1)).getD i (0, 0, 0)).2.1 ∧ G (o + 12) i = ((L0 ++ (cgN rd K W (x + 1) ++ L1)).getD i (0, 0, 0)).2.2) ∧ (L0 ++ (cgN rd K W (x + 1) ++ L1)).length ≤ 200 := by
      rcases k3 with q | q
      · exact ⟨q.2.2, q.2.1⟩
      · exact q.2
    clear k3
    by_cases c : W x = -1
    · have en : cgN rd K W (x + 1) = cgN rd K W x := by
        show cgN rd K W x ++ (if W x = -1 then [] else _) = _
        rw [if_pos c, List.append_nil]
      rw [en] at k2 k3' k4 ⊢
      refine ih fu L1 G (by omega) k2 (.inr ⟨k4, k3'⟩) k4 (fun y hy => ?_)
      rw [k5 y hy]
      by_cases d : y = x
      · rw [d, kx]
        unfold kNx
        rw [if_neg (fun q => q.2 c)]
      · rw [kn y d]
    · have en : cgN rd K W (x + 1) = cgN rd K W x ++ [(rd, (x : Int), (K x : Int))] := by
        show cgN rd K W x ++ (if W x = -1 then [] else _) = _
        rw [if_neg c]
      have el : (cgN rd K W (x + 1)).length = (cgN rd K W x).length + 1 := by rw [en, List.length_append]; rfl
      have eL : L0 ++ (cgN rd K W (x + 1) ++ L1) = (L0 ++ cgN rd K W x) ++ ((rd, (x : Int), (K x : Int)) :: L1) := by rw [en]; simp only [List.append_assoc, List.singleton_append]
      have eL2 : (L0 ++ cgN rd K W x) ++ ((rd, (x : Int), (K x : Int)) :: L1) = L0 ++ (cgN rd K W x ++ ((rd, (x : Int), (K x : Int)) :: L1)) := List.append_assoc _ _ _
      obtain ⟨fu, rfl⟩ : ∃ t, fu = t + 1 := ⟨fu - 1, by omega⟩
      let n := (L0 ++ cgN rd K W x).length
      have hn : n = (L0 ++ cgN rd K W x).length := rfl
      have e16 : G o 16 = ((n + 1 : Nat) : Int) := by
        rw [k4, en, ← List.append_assoc, List.length_append]; rfl
      obtain ⟨p1, p2⟩ := k3'
      have hlen : (L0 ++ (cgN rd K W (x + 1) ++ L1)).length = n + (L1.length + 1) := by rw [eL, List.length_append]; rfl
      obtain ⟨q1, q2, q3⟩ := p1 n (by omega)
      have hg : (L0 ++ (cgN rd K W (x + 1) ++ L1)).getD n (0, 0, 0) = (rd, (x : Int), (K x : Int)) := by
        rw [eL]
        exact getD_apr (l := L0 ++ cgN rd K W x) ((rd, (x : Int), (K x : Int)) :: L1) 0
      rw [hg] at q1 q2 q3
      replace q1 : G (o + 10) n = rd := q1
      replace q2 : G (o + 11) n = (x : Int) := q2
      replace q3 : G (o + 12) n = (K x : Int) := q3
      have e1 : xwr (((n + 1 : Nat) : Int) - 1) = (n : Int) := by rw [xwr_g _ (by omega) (by omega)]; omega
      let G1 := xup2 (xup2 G o 16 (n : Int)) (o + 15) x (K x : Int)
      have z : ∀ a j, ¬ (a = o ∧ j = 16) → ¬ (a = o + 15 ∧ j = x) → G1 a j = G a j := fun a j y1 y2 => by
        show xup2 _ _ _ _ _ _ = _
        rw [xup2_n (by omega), xup2_n (by omega)]
      have z16 : G1 o 16 = (n : Int) := by
        show xup2 _ _ _ _ _ _ = _
        rw [xup2_n (by omega), xup2_s]
      have z15 : G1 (o + 15) x = (K x : Int) := xup2_s _ _ _ _
      obtain ⟨G', fu', u1, u2, u3, u4, u5⟩ := ih fu ((rd, (x : Int), (K x : Int)) :: L1) G1 (by omega) (by omega) (.inr ⟨z16, fun i hi => by
        rw [z _ _ (by omega) (by omega), z _ _ (by omega) (by omega), z _ _ (by omega) (by omega)]
        rw [← eL2, ← eL] at hi ⊢
        exact p1 i hi, by rw [← eL2, ← eL]; exact p2⟩) z16 (fun y hy => by
        by_cases d : y = x
        · rw [d, z15, kx]
        · rw [z _ _ (by omega) (by omega), k5 y hy, kn y d])
      refine ⟨G', fu', ?_, by omega, u3, u4, fun a j y1 y2 => by rw [u5 a j y1 y2, z _ _ (by omega) (by omega)]⟩
      rw [← u1]
      show g312_122b (g312_122 f fu) f o r x4 G = _
      unfold g312_122b
      have s16 : xup2 G o 16 (n : Int) o 16 = (n : Int) := xup2_s _ _ _ _
      rw [e16, if_neg (by omega), e1, if_pos (by omega), Int.toNat_natCast, q1, if_neg (by omega), Option.bind_some, s16, if_pos (by omega), if_pos (by omega), Int.toNat_natCast, xup2_n (by omega), q2, if_pos (by omega), Int.toNat_natCast, xup2_n (by omega), q3, Option.bind_some]
end
end
section
/-! become, whole -/
section
variable {f o h : Nat} {H : Nat → sMo}
theorem l_312_122 {r : Nat} {x4 : Int} (ho : 122 < o ∧ o < 211) {C L0 : List pCg} (h0 : ∀ a ∈ L0, a.1 ≤ (r : Int)) (hC : C.length ≤ 200) : ∀ (k fu : Nat) (L1 : List pCg) (G : xG_), C = (L0 ++ hCat (hCg H) r k) ++ L1 → (hCat (hCg H) r k).length < fu → G o 16 = ((L0 ++ hCat (hCg H) r k).length : Int) → (∀ i, i < C.length → G (o + 10) i = (C.getD i (0, 0, 0)).1 ∧ G (o + 11) i = (C.getD i (0, 0, 0)).2.1 ∧ G (o + 12) i = (C.getD i (0, 0, 0)).2.2) → hSt H r k → (∀ c, c < 72 → G (o + 15) c = ((H (r + k)).2.2.1 c : Int)) →
    ∃ G', g312_122 f fu o (r : Int) x4 G = g312_180 f o (r : Int) x4 G' ∧ G' o 16 = (L0.length : Int) ∧ (∀ c, c < 72 → G' (o + 15) c = ((H r).2.2.1 c : Int)) ∧ ∀ a j, ¬ (a = o ∧ j = 16) → a ≠ o + 15 → G' a j = G a j := by
  intro k
  induction k with
  | zero =>
    intro fu L1 G h1 h2 h3 h4 h5 h6
    have en : L0 ++ hCat (hCg H) r 0 = L0 := List.append_nil _
    rw [en] at h1 h3
    obtain ⟨fu, rfl⟩ : ∃ t, fu = t + 1 := ⟨fu - 1, by omega⟩
    refine ⟨G, ?_, h3, h6, fun _ _ _ _ => rfl⟩
    show g312_122b (g312_122 f fu) f o (r : Int) x4 G = _
    unfold g312_122b
    rw [h3]
    by_cases c : L0.length = 0
    · rw [if_pos (by omega)]
    · have hL : C.length = L0.length + L1.length := by rw [h1, List.length_append]
      have e1 : xwr ((L0.length : Int) - 1) = ((L0.length - 1 : Nat) : Int) := by rw [xwr_g _ (by omega) (by omega)]; omega
      have hm : C.getD (L0.length - 1) (0, 0, 0) ∈ L0 := by
        rw [h1, getD_app _ (by omega), getD_e (by omega)]
        exact List.getElem_mem _
      have := h0 _ hm
      rw [if_neg (by omega), e1, if_pos (by omega), Int.toNat_natCast, (h4 _ (by omega)).1, if_pos this]
  | succ k ih =>
    intro fu L1 G h1 h2 h3 h4 h5 h6
    have e1 : L0 ++ hCat (hCg H) r (k + 1) = (L0 ++ hCat (hCg H) r k) ++ hCg H (r + k + 1) := (List.append_assoc _ _ _).symm
    have eh : (hCat (hCg H) r (k + 1)).length = (hCat (hCg H) r k).length + (hCg H (r + k + 1)).length := List.length_append
    have hL : C = (L0 ++ hCat (hCg H) r k) ++ (hCg H (r + k + 1) ++ L1) := by rw [h1, e1, List.append_assoc]
    obtain ⟨s1, s2⟩ := h5 (r + k + 1) (by omega) (by omega)
    have er : r + k + 1 - 1 = r + k := by omega
    rw [er] at s2
    have hb : hCg H (r + k + 1) = cgN ((r + k + 1 : Nat) : Int) (H (r + k)).2.2.1 (H (r + k + 1)).2.2.2.1 72 := by
      unfold hCg
      rw [er]
    obtain ⟨G1, fu', u1, u2, u3, u4, u5⟩ := l_312_122b (f := f) (o := o) (r := (r : Int)) (x4 := x4) (rd := ((r + k + 1 : Nat) : Int)) (by omega) ho (L0 := L0 ++ hCat (hCg H) r k) (K := (H (r + k)).2.2.1) (W := (H (r + k + 1)).2.2.2.1) 72 fu L1 G (Nat.le_refl _) (by rw [← hb]; omega) (.inr ⟨by rw [← hb, ← e1]; exact h3, by rw [← hb, ← hL]; exact h4, by rw [← hb, ← hL]; exact hC⟩) (by rw [← hb, ← e1]; exact h3) (fun c hc => by
      rw [h6 c hc, show r + (k + 1) = r + k + 1 by omega, s2])
    rw [← hb] at u2
    obtain ⟨G', v1, v2, v3, v4⟩ := ih fu' (hCg H (r + k + 1) ++ L1) G1 hL (by omega) u3 (fun i hi => by
      rw [u5 _ _ (by omega) (by omega), u5 _ _ (by omega) (by omega), u5 _ _ (by omega) (by omega)]
      exact h4 i hi) (fun i i1 i2 => h5 i i1 (by omega)) u4
    exact ⟨G', u1.trans v1, v2, v3, fun a j q1 q2 => (v4 a j q1 q2).trans (u5 a j q1 q2)⟩
/-- what become changes -/
def xfB (o : Nat) (G G' : xG_) : Prop := ∀ a j, ¬ (253 ≤ a ∧ a ≤ 256) → ¬ (a = o ∧ (1 ≤ j ∧ j ≤ 4 ∨ j = 10 ∨ j = 16 ∨ j = 17 ∨ j = 27 ∨ j = 33 ∨ j = 34)) → ¬ (o + 1 ≤ a ∧ a ≤ o + 4) → a ≠ o + 15 → a ≠ o + 18 → a ≠ o + 19 → a ≠ o + 26 → G' a j = G a j
theorem l_312 {G : xG_} {b i k ed : Nat} (hf : 12100 < f) (hh : h < 4) (ho : o = 123 + 29 * h) (hP : rPa G o H b (i + k)) (hs : hSt H b (i + k)) (hF : hFc H b (i + k)) (h1 : G o 1 = ((H (b + (i + k))).1 : Int)) (hFa : rFa G (o + 1) (H (b + (i + k))).2.1) (hK : ∀ c, c < 72 → G (o + 15) c = ((H (b + (i + k))).2.2.1 c : Int)) (h4 : G o 4 = ((ed + (hCat (hEg H) (b + i) k).length : Nat) : Int)) (hed : ed < 1000000) :
    ∃ G', g312 f o ((b + i : Nat) : Int) G = some G' ∧ rPa G' o H b i ∧ G' o 1 = ((H (b + i)).1 : Int) ∧ G' o 2 = ((b + i : Nat) : Int) ∧ G' o 3 = G o 3 ∧ G' o 4 = (ed : Int) ∧ rFa G' (o + 1) (H (b + i)).2.1 ∧ (∀ c, c < 72 → G' (o + 15) c = ((H (b + i)).2.2.1 c : Int)) ∧
      G' o 33 = 0 ∧ G' o 34 = -1 ∧ (∀ c, c < 72 → G' (o + 26) c = -1) ∧ G' o 27 = 0 ∧ (∀ p, p < 16 → G' (o + 19) p = 0) ∧ (∀ p, p < 16 → G' (o + 18) p = if (H (b + i)).1 = (H (b + (i + k))).1 then G (o + 18) p else 0) ∧ xfB o G G' := by
  have hob : 122 < o ∧ o < 211 := by omega
  obtain ⟨hL, hC, hE, hsL, hsC, hsE⟩ := hP
  obtain ⟨G1, k1, k2, k3⟩ := l_311 hf hh ho ⟨hL, hC, hE, hsL, hsC, hsE⟩ hs hF h1 hFa
  have z1 : ∀ a j, a < 253 → G1 a j = G a j := fun a j q => k3 a j (by omega) (by omega) (by omega) (by omega)
  obtain ⟨G2, u1, u2, u3⟩ := l_194 (f := f) (b := o + 1) (b1 := 253) (by omega) (by unfold isFb; omega) (by unfold isFb; omega) (by omega) k2
  let G3 := xup2 G2 o 1 ((H (b + i)).1 : Int)
  have z3 : ∀ a j, a < 253 → ¬ (a = o ∧ j = 1) → ¬ (a = o + 1 ∧ j = 3) → ¬ (o + 2 ≤ a ∧ a ≤ o + 4) → G3 a j = G a j := fun a j q1 q2 q3 q4 => by
    show xup2 _ _ _ _ _ _ = _
    rw [xup2_n (by omega), u3 a j (by omega) (by omega) (by omega) (by omega), z1 a j q1]
  -- which edition
  have e0 : ∃ x4 : Int, g312 f o ((b + i : Nat) : Int) G = g312_42 f f o ((b + i : Nat) : Int) x4 G3 ∧ (x4 = 0 ↔ (H (b + i)).1 = (H (b + (i + k))).1) := by
    have e24 : ∀ y : Int, g312_24 f o ((b + i : Nat) : Int) ((H (b + i)).1 : Int) y G1 = g312_42 f f o ((b + i : Nat) : Int) y G3 := fun y => by
      unfold g312_24
      rw [u1, Option.bind_some, Option.bind_some]
    unfold g312
    rw [k1, Option.bind_some]
    simp only []
    rw [z1 _ _ (by omega), h1]
    by_cases c : ((H (b + i)).1 : Int) = ((H (b + (i + k))).1 : Int)
    · rw [if_pos c]
      exact ⟨0, e24 0, fun _ => by omega, fun _ => rfl⟩
    · rw [if_neg c]
      exact ⟨1, e24 1, fun q => absurd q (by decide), fun q => absurd (by rw [q]) c⟩
  obtain ⟨x4, e0, e4⟩ := e0
  have sp := fun (α : Type) (g : Nat → List (Int × α)) => hCat_split (g := g) (b := b) (i := i) k
  have m0 : ∀ {α : Type} {g : Nat → List (Int × α)}, (∀ r, ∀ a ∈ g r, a.1 = (r : Int)) → (∀ a ∈ hCat g b i, a.1 ≤ ((b + i : Nat) : Int)) ∧ ∀ a ∈ hCat g (b + i) k, ((b + i : Nat) : Int) < a.1 := fun hg => ⟨fun a ha => by have := hCat_mem hg i ha; omega, fun a ha => (hCat_mem hg k ha).1⟩
  -- the log
  have hL3 : rLg G3 o (hCat (hLg H) b i ++ hCat (hLg H) (b + i) k) := by
    rw [← sp]
    exact hL.ge (z3 _ _ (by omega) (by omega) (by omega) (by omega)) (fun a j _ _ => z3 _ _ (by omega) (by omega) (by omega) (by omega))
  obtain ⟨G4, v1, v2, v3⟩ := l_312_42 (f := f) (o := o) (x4 := x4) (m0 (hLg_r H)).1 (m0 (hLg_r H)).2 (hCat (hLg H) (b + i) k).length f G3 (Nat.le_refl _) (by have := hL3.2.1; rw [List.length_append] at this; omega) (by rw [hL3.1, List.length_append]) (fun j hj => (hL3.2.2 j hj).1) hL3.2.1
  have z4 : ∀ a j, a < 253 → ¬ (a = o ∧ (j = 1 ∨ j = 10)) → ¬ (a = o + 1 ∧ j = 3) → ¬ (o + 2 ≤ a ∧ a ≤ o + 4) → G4 a j = G a j := fun a j q1 q2 q3 q4 => by rw [v3 a j (by omega), z3 a j q1 (by omega) q3 q4]
  -- the editions
  have hE4 : rEg G4 o (hCat (hEg H) b i ++ hCat (hEg H) (b + i) k) := by
    rw [← sp]
    exact hE.ge (z4 _ _ (by omega) (by omega) (by omega) (by omega)) (fun a j _ _ => z4 _ _ (by omega) (by omega) (by omega) (by omega))
  obtain ⟨G5, w1, w2, w4, w3⟩ := l_312_77 (f := f) (o := o) (x4 := x4) (m0 (hEg_r H)).1 (m0 (hEg_r H)).2 (hCat (hEg H) (b + i) k).length f ed G4 (Nat.le_refl _) (by have := hE4.2.1; rw [List.length_append] at this; omega) (by rw [hE4.1, List.length_append]) (by rw [z4 _ _ (by omega) (by omega) (by omega) (by omega)]; exact h4) hed (fun j hj => (hE4.2.2 j hj).1) hE4.2.1
  have z5 : ∀ a j, a < 253 → ¬ (a = o ∧ (j = 1 ∨ j = 10 ∨ j = 17 ∨ j = 4)) → ¬ (a = o + 1 ∧ j = 3) → ¬ (o + 2 ≤ a ∧ a ≤ o + 4) → G5 a j = G a j := fun a j q1 q2 q3 q4 => by rw [w3 a j (by omega), z4 a j q1 (by omega) q3 q4]
  -- the CELLS
  have hC5 : rCg G5 o (hCat (hCg H) b i ++ hCat (hCg H) (b + i) k) := by
    rw [← sp]
    exact hC.ge (z5 _ _ (by omega) (by omega) (by omega) (by omega)) (fun a j _ _ => z5 _ _ (by omega) (by omega) (by omega) (by omega))
  obtain ⟨G6, x1, x2, x3, x5⟩ := l_312_122 (f := f) (H := H) (r := b + i) (x4 := x4) hob (C := hCat (hCg H) b i ++ hCat (hCg H) (b + i) k) (L0 := hCat (hCg H) b i) (m0 (hCg_r H)).1 hC5.2.1 k f [] G5 (List.append_nil _).symm (by have := hC5.2.1; rw [List.length_append] at this; omega) hC5.1 hC5.2.2 (fun r r1 r2 => hs r (by omega) (by omega)) (fun c hc => by rw [z5 _ _ (by omega) (by omega) (by omega) (by omega), hK c hc, show b + (i + k) = b + i + k by omega])
  have z6 : ∀ a j, a < 253 → ¬ (a = o ∧ (j = 1 ∨ j = 10 ∨ j = 17 ∨ j = 4 ∨ j = 16)) → ¬ (a = o + 1 ∧ j = 3) → ¬ (o + 2 ≤ a ∧ a ≤ o + 4) → a ≠ o + 15 → G6 a j = G a j := fun a j q1 q2 q3 q4 q5 => by rw [x5 a j (by omega) q5, z5 a j q1 (by omega) q3 q4]
  -- forget
  obtain ⟨G7, y1, y2, y3, y4, y5⟩ := l_202 (f := f) (o := o) (G := xup2 G6 o 2 ((b + i : Nat) : Int)) (by omega)
  obtain ⟨G8, t1, t2, t3, t4⟩ := l_203 (f := f) (o := o) (G := G7) (by omega)
  have f8 : ∀ a j, ¬ (a = o ∧ (j = 2 ∨ j = 27 ∨ j = 33 ∨ j = 34)) → ¬ (a = o + 26 ∧ j < 72) → ¬ (a = o + 19 ∧ j < 16) → G8 a j = G6 a j := fun a j q1 q2 q3 => by rw [t4 a j (by omega) (by omega), y5 a j (by omega) q2, xup2_n (by omega)]
  have loop : ∀ (d p fu : Nat) (Z : xG_), p + d = 16 → d < fu → (∀ j, j < p → Z (o + 18) j = 0) → ∃ Z', g312_201 f fu o (p : Int) Z = some Z' ∧ (∀ j, j < 16 → Z' (o + 18) j = 0) ∧ ∀ a j, a ≠ o + 18 → Z' a j = Z a j := by
    intro d
    induction d with
    | zero =>
      intro p fu Z h1 h2 h3
      obtain ⟨fu, rfl⟩ : ∃ t, fu = t + 1 := ⟨fu - 1, by omega⟩
      refine ⟨Z, ?_, fun j hj => h3 j (by omega), fun _ _ _ => rfl⟩
      show g312_201b (g312_201 f fu) f _ _ _ = _
      unfold g312_201b g312_222
      rw [if_pos (by omega)]
    | succ d ih =>
      intro p fu Z h1 h2 h3
      obtain ⟨fu, rfl⟩ : ∃ t, fu = t + 1 := ⟨fu - 1, by omega⟩
      have e : xwr ((p : Int) + 1) = ((p + 1 : Nat) : Int) := by rw [xwr_g _ (by omega) (by omega)]; omega
      obtain ⟨Z', q1, q2, q3⟩ := ih (p + 1) fu (xup2 Z (o + 18) p 0) (by omega) (by omega) (fun j hj => by
        by_cases c : j = p
        · rw [c, xup2_s]
        · rw [xup2_n (by omega)]; exact h3 j (by omega))
      refine ⟨Z', ?_, q2, fun a j q => by rw [q3 a j q, xup2_n (by omega)]⟩
      show g312_201b (g312_201 f fu) f _ _ _ = _
      unfold g312_201b
      rw [if_neg (by omega), if_pos (by omega), Int.toNat_natCast, Option.bind_some, e]
      exact q1
  have fin : ∃ G9, g312_180 f o ((b + i : Nat) : Int) x4 G6 = some G9 ∧ (∀ a j, a ≠ o + 18 → G9 a j = G8 a j) ∧ ∀ p, p < 16 → G9 (o + 18) p = if (H (b + i)).1 = (H (b + (i + k))).1 then G (o + 18) p else 0 := by
    unfold g312_180 g312_222
    rw [Option.bind_some, y1, Option.bind_some, t1, Option.bind_some]
    by_cases c : x4 = 0
    · rw [if_pos c]
      refine ⟨G8, rfl, fun _ _ _ => rfl, fun p hp => ?_⟩
      rw [if_pos (e4.mp c), f8 _ _ (by omega) (by omega) (by omega), z6 _ _ (by omega) (by omega) (by omega) (by omega) (by omega)]
    · rw [if_neg c]
      obtain ⟨Z, q1, q2, q3⟩ := loop 16 0 f G8 rfl (by omega) (fun j hj => absurd hj (Nat.not_lt_zero j))
      refine ⟨Z, q1, q3, fun p hp => ?_⟩
      rw [if_neg (fun q => c (e4.mpr q)), q2 p hp]
  obtain ⟨G9, r1, r2, r3⟩ := fin
  have z9 : ∀ a j, ¬ (a = o ∧ (j = 2 ∨ j = 27 ∨ j = 33 ∨ j = 34)) → ¬ (a = o + 26 ∧ j < 72) → ¬ (a = o + 19 ∧ j < 16) → a ≠ o + 18 → G9 a j = G6 a j := fun a j q1 q2 q3 q4 => by rw [r2 a j q4, f8 a j q1 q2 q3]
  refine ⟨G9, ?_, ⟨?_, ?_, ?_, ?_, ?_, ?_⟩, ?_, ?_, ?_, ?_, ?_, fun c hc => ?_, ?_, ?_, fun c hc => ?_, ?_, fun p hp => ?_, r3, fun a j q1 q2 q3 q4 q5 q6 q7 => ?_⟩
  · rw [e0, v1, w1, x1]
    exact r1
  · refine hL3.tk ?_ (fun a j _ _ => ?_)
    · rw [z9 _ _ (by omega) (by omega) (by omega) (by omega), x5 _ _ (by omega) (by omega), w3 _ _ (by omega), v2]
    · rw [z9 _ _ (by omega) (by omega) (by omega) (by omega), x5 _ _ (by omega) (by omega), w3 _ _ (by omega), v3 _ _ (by omega)]
  · refine hC5.tk ?_ (fun a j _ _ => ?_)
    · rw [z9 _ _ (by omega) (by omega) (by omega) (by omega), x2]
    · rw [z9 _ _ (by omega) (by omega) (by omega) (by omega), x5 _ _ (by omega) (by omega)]
  · refine hE4.tk ?_ (fun a j _ _ => ?_)
    · rw [z9 _ _ (by omega) (by omega) (by omega) (by omega), x5 _ _ (by omega) (by omega), w2]
    · rw [z9 _ _ (by omega) (by omega) (by omega) (by omega), x5 _ _ (by omega) (by omega), w3 _ _ (by omega)]
  · exact hCat_S (hLg_r H) i
  · exact hCat_S (hCg_r H) i
  · exact hCat_S (hEg_r H) i
  · rw [z9 _ _ (by omega) (by omega) (by omega) (by omega), x5 _ _ (by omega) (by omega), w3 _ _ (by omega), v3 _ _ (by omega)]
    exact xup2_s _ _ _ _
  · rw [r2 _ _ (by omega), t4 _ _ (by omega) (by omega), y5 _ _ (by omega) (by omega), xup2_s]
  · rw [z9 _ _ (by omega) (by omega) (by omega) (by omega), z6 _ _ (by omega) (by omega) (by omega) (by omega) (by omega)]
  · rw [z9 _ _ (by omega) (by omega) (by omega) (by omega), x5 _ _ (by omega) (by omega), w4]
  · have hxx : ∀ a j, o + 1 ≤ a → a ≤ o + 4 → G9 a j = G2 a j := fun a j q1 q2 => by
      rw [z9 _ _ (by omega) (by omega) (by omega) (by omega), x5 _ _ (by omega) (by omega), w3 _ _ (by omega), v3 _ _ (by omega)]
      exact xup2_n (by omega)
    exact u2.ge (hxx _ _ (by omega) (by omega)) (fun a j q1 q2 => hxx _ _ (by omega) (by omega))
  · rw [z9 _ _ (by omega) (by omega) (by omega) (by omega)]
    exact x3 c hc
  · rw [r2 _ _ (by omega), t4 _ _ (by omega) (by omega), y2]
  · rw [r2 _ _ (by omega), t4 _ _ (by omega) (by omega), y3]
  · rw [r2 _ _ (by omega), t4 _ _ (by omega) (by omega), y4 c hc]
  · rw [r2 _ _ (by omega), t2]
  · rw [r2 _ _ (by omega), t3 p hp]
  · by_cases cc : a < 253
    · rw [z9 _ _ (by omega) (by omega) (by omega) (by omega), z6 _ _ cc (by omega) (by omega) (by omega) q4]
    · rw [z9 _ _ (by omega) (by omega) (by omega) (by omega), x5 _ _ (by omega) (by omega), w3 _ _ (by omega), v3 _ _ (by omega)]
      show xup2 _ _ _ _ _ _ = _
      rw [xup2_n (by omega), u3 _ _ (by omega) (by omega) (by omega) (by omega), k3 _ _ (by omega) (by omega) (by omega) (by omega)]
end
end
section
/-! Lines -/
/-- a line: its moments; oldest round, rounds since, editions; how often rings and CELLS were worked, whether its latest round is told; what is told for the next round: CHANGES, edition, CELLS; its fork -/
abbrev sLn : Type := (Nat → sMo) × (Nat × Nat × Nat) × ((Nat → Int) × (Nat → Int) × Bool) × (List pPe × Int × (Nat → Int)) × Int × Int
/-- the texts of CELLS -/
def kOk (T : List (List Int)) (K : Nat → Nat) : Prop := (∀ c, K c < T.length) ∧ ∀ c, c < 72 → K c ≠ 0 → ∃ r, qCt (T.getD (K c) []) = .inr r ∧ r.1 = (c : Int) ∧ r.2.2 ≠ -1
/-- a moment's program and rows -/
def isMo (T : List (List Int)) (mo : sMo) (s : pPg) (M : Nat → List pRw) : Prop := mo.1 < T.length ∧ qPr (T.getD mo.1 []) = .inr s ∧ qOk s ∧ wNh s ∧ qSt1 s M ∧ qFa s M mo.2.1 ∧ kOk T mo.2.2.1
theorem kOk.app {T : List (List Int)} {K : Nat → Nat} (t : List Int) (h : kOk T K) : kOk (T ++ [t]) K := ⟨fun c => by rw [List.length_append]; have := h.1 c; omega, fun c hc h0 => by rw [getD_app _ (h.1 c)]; exact h.2 c hc h0⟩
theorem isMo.app {T : List (List Int)} {mo : sMo} {s : pPg} {M : Nat → List pRw} (t : List Int) (h : isMo T mo s M) : isMo (T ++ [t]) mo s M := by
  obtain ⟨a1, a2, a3, a4, a5, a6, a7⟩ := h
  exact ⟨by rw [List.length_append]; omega, by rw [getD_app _ a1]; exact a2, a3, a4, a5, a6, a7.app t⟩
theorem xOf_app {T : List (List Int)} {K : Nat → Nat} (t : List Int) (h : ∀ c, K c < T.length) : xOf (T ++ [t]) K = xOf T K := by
  funext c
  unfold xOf
  rw [getD_app _ (h c)]
theorem kOk.rKt {G : xG_} {o : Nat} {T : List (List Int)} {K : Nat → Nat} (h : kOk T K) (hk : ∀ c, c < 72 → G (o + 15) c = (K c : Int)) : rKt G o T K := fun c hc => ⟨hk c hc, h.1 c, h.2 c hc⟩
theorem fm_len {α β : Type} (g : α → List β) (n : Nat) : ∀ (l : List α), (∀ a ∈ l, (g a).length ≤ n) → (l.flatMap g).length ≤ n * l.length
  | [], _ => by simp
  | a :: l, h => by
    have h1 := h a (List.mem_cons_self ..)
    have h2 := fm_len g n l (fun b hb => h b (List.mem_cons_of_mem _ hb))
    rw [List.flatMap_cons, List.length_append, List.length_cons, Nat.mul_succ]
    omega
theorem fc_nd {F : List pFc} (h : F.Pairwise fLt) : F.Nodup := by
  refine List.nodup_iff_pairwise_ne.mpr (List.Pairwise.imp (S := fun x y => x ≠ y) (fun {a b} h => ?_) h)
  intro q
  rw [q] at h
  exact fLt_irr _ h
theorem qFa.len {s : pPg} {M : Nat → List pRw} {F : List pFc} (hnp : s.1.length ≤ 16) (hM : qTb s M) (h : qFa s M F) : F.length ≤ 1600 := by
  have h1 := nodup_len F ((List.range s.1.length).flatMap (fun p => (M p).map (fun w => (qNm s p, w.1)))) (fc_nd h.1) (fun y hy => by
    obtain ⟨p, a1, a2, w, a3, a4⟩ := (h.2 y).mp hy
    refine List.mem_flatMap.mpr ⟨p, List.mem_range.mpr a1, List.mem_map.mpr ⟨w, a3, Prod.ext a2.symm a4⟩⟩)
  have h2 := fm_len (fun p => (M p).map (fun w => (qNm s p, w.1))) 100 (List.range s.1.length) (fun p hp => by
    rw [List.length_map]
    exact (hM p (List.mem_range.mp hp)).1)
  rw [List.length_range] at h2
  omega
/-- rows are determined by facts -/
theorem mo_det {s : pPg} {M M' : Nat → List pRw} {F : List pFc} (hok : qOk s) (h : qSt1 s M) (hF : qFa s M F) (h' : qSt1 s M') (hF' : qFa s M' F) : ∀ p, p < s.1.length → M p = M' p := by
  have hi : ∀ p, p < s.1.length → pIn s.2.1 (p : Int) = true → M p = M' p := fun p hp hi => by
    refine srt_ext rwLt_irr (fun _ _ _ => rwLt_tr) _ _ (h.1.1 p hp).2.1 (h'.1.1 p hp).2.1 (fun y => ?_)
    have side : ∀ {A B : Nat → List pRw}, qSt1 s A → qFa s A F → qSt1 s B → qFa s B F → y ∈ A p → y ∈ B p := fun {A B} hA hFA hB hFB hy => by
      obtain ⟨p', a1, a2, w, a3, a4⟩ := (hFB.2 _).mp ((hFA.2 (qNm s p, y.1)).mpr ⟨p, hp, rfl, y, hy, rfl⟩)
      have e := nm_inj hok hp a1 a2
      subst e
      have e2 : w = y := Prod.ext a4 (by rw [hA.2 p hp hi y hy, hB.2 p hp hi w a3])
      rw [← e2]; exact a3
    exact ⟨side h hF h' hF', side h' hF' h hF⟩
  exact qMod_det hok.1 h.1 ⟨h'.1.1, fun p hp q => (hi p hp q).symm, h'.1.2.2⟩
/-- which predicates changed in the latest round -/
def rCx (G : xG_) (o : Nat) (ln : sLn) (s : pPg) : Prop := (ln.2.2.1.2.2 = true → rCh G o s (lgR ((ln.2.1.1 + ln.2.1.2.1 : Nat) : Int) (ln.1 (ln.2.1.1 + ln.2.1.2.1)).2.1 (ln.1 (ln.2.1.1 + ln.2.1.2.1 - 1)).2.1)) ∧ (ln.2.2.1.2.2 = false → ∀ p, p < 16 → G (o + 19) p = 0)
theorem rCx.ge {G G' : xG_} {o : Nat} {ln : sLn} {s : pPg} (h : rCx G o ln s) (hf : ∀ j, G' (o + 19) j = G (o + 19) j) : rCx G' o ln s := ⟨fun q p hp => by rw [hf]; exact h.1 q p hp, fun q p hp => by rw [hf]; exact h.2 q p hp⟩
/-- the line ln stands at o; s, M: the program and the rows of its latest moment -/
def rLn (G : xG_) (o : Nat) (T : List (List Int)) (ln : sLn) (s : pPg) (M : Nat → List pRw) : Prop :=
  rPa G o ln.1 ln.2.1.1 ln.2.1.2.1 ∧ (G o 1 = ((ln.1 (ln.2.1.1 + ln.2.1.2.1)).1 : Int) ∧ G o 2 = ((ln.2.1.1 + ln.2.1.2.1 : Nat) : Int) ∧ G o 3 = (ln.2.1.1 : Int) ∧ G o 4 = (ln.2.1.2.2 : Int)) ∧
  rFa G (o + 1) (ln.1 (ln.2.1.1 + ln.2.1.2.1)).2.1 ∧ (∀ c, c < 72 → G (o + 15) c = ((ln.1 (ln.2.1.1 + ln.2.1.2.1)).2.2.1 c : Int)) ∧ rCs G o (fSh (xOf T (ln.1 (ln.2.1.1 + ln.2.1.2.1)).2.2.1) s M) ∧
  (∀ p, p < 16 → G (o + 18) p = ln.2.2.1.1 p) ∧ (∀ c, c < 72 → G (o + 16) c = ln.2.2.1.2.1 c) ∧
  (∃ E, rEd G o E ∧ (ln.2.2.1.2.2 = true → qEd s (ln.1 (ln.2.1.1 + ln.2.1.2.1)).2.1 (ln.1 (ln.2.1.1 + ln.2.1.2.1 - 1)).2.1 E) ∧ (ln.2.2.1.2.2 = false → E = [])) ∧ rCx G o ln s ∧
  (rPe G o ln.2.2.2.1.1 ∧ G o 34 = ln.2.2.2.1.2.1 ∧ ∀ c, c < 72 → G (o + 26) c = ln.2.2.2.1.2.2 c) ∧ G o 35 = ln.2.2.2.2.1 ∧ G o 36 = ln.2.2.2.2.2
/-- a line that hangs together; n: no number of it is greater -/
def sOk (T : List (List Int)) (ln : sLn) (n : Nat) : Prop :=
  (∀ r, ln.2.1.1 ≤ r → r ≤ ln.2.1.1 + ln.2.1.2.1 → ∃ s M, isMo T (ln.1 r) s M) ∧ hSt ln.1 ln.2.1.1 ln.2.1.2.1 ∧ (ln.2.1.1 + ln.2.1.2.1 ≤ n ∧ ln.2.1.2.2 ≤ n) ∧ tmOk (hCat (hLg ln.1) ln.2.1.1 ln.2.1.2.1) (hCat (hCg ln.1) ln.2.1.1 ln.2.1.2.1) (hCat (hEg ln.1) ln.2.1.1 ln.2.1.2.1) (ln.2.1.1 : Int) ∧
  (hCat (hEg ln.1) ln.2.1.1 ln.2.1.2.1).length ≤ ln.2.1.2.2 ∧ (∀ p, p < 16 → 0 ≤ ln.2.2.1.1 p ∧ ln.2.2.1.1 p ≤ n) ∧ (∀ c, c < 72 → 0 ≤ ln.2.2.1.2.1 c ∧ ln.2.2.1.2.1 c ≤ n) ∧
  (∀ e ∈ ln.2.2.2.1.1, ∀ x ∈ e.2.2, vOk x) ∧ (ln.2.2.2.1.2.1 = -1 ∨ 0 ≤ ln.2.2.2.1.2.1 ∧ ln.2.2.2.1.2.1.toNat < T.length ∧ ∃ s, qPr (T.getD ln.2.2.2.1.2.1.toNat []) = .inr s ∧ qOk s ∧ wNh s) ∧
  (∀ c, ln.2.2.2.1.2.2 c = -1 ∨ 0 ≤ ln.2.2.2.1.2.2 c ∧ (ln.2.2.2.1.2.2 c).toNat < T.length ∧ (c < 72 → (ln.2.2.2.1.2.2 c).toNat ≠ 0 → ∃ r, qCt (T.getD (ln.2.2.2.1.2.2 c).toNat []) = .inr r ∧ r.1 = (c : Int) ∧ r.2.2 ≠ -1))
theorem rCg.ge' {G G' : xG_} {o : Nat} {L : List pCg} (h : rCg G o L) (hf : ∀ a j, o ≤ a → a ≤ o + 28 → G' a j = G a j) : rCg G' o L := h.ge (hf _ _ (by omega) (by omega)) (fun a j _ _ => hf _ _ (by omega) (by omega))
theorem rEd.ge' {G G' : xG_} {o : Nat} {E : List pEd} (h : rEd G o E) (hf : ∀ a j, o ≤ a → a ≤ o + 28 → G' a j = G a j) : rEd G' o E := ⟨by rw [hf _ _ (by omega) (by omega)]; exact h.1, h.2.1, fun i hi => by
  obtain ⟨b1, b2, b3⟩ := h.2.2 i hi
  exact ⟨by rw [hf _ _ (by omega) (by omega)]; exact b1, by rw [hf _ _ (by omega) (by omega)]; exact b2, fun j hj => by rw [hf _ _ (by omega) (by omega)]; exact b3 j hj⟩⟩
theorem rPe.ge' {G G' : xG_} {o : Nat} {E : List pPe} (h : rPe G o E) (hf : ∀ a j, o ≤ a → a ≤ o + 28 → G' a j = G a j) : rPe G' o E := ⟨by rw [hf _ _ (by omega) (by omega)]; exact h.1, h.2.1, fun i hi => by
  obtain ⟨b1, b2, b3, b4, b5⟩ := h.2.2 i hi
  exact ⟨by rw [hf _ _ (by omega) (by omega)]; exact b1, by rw [hf _ _ (by omega) (by omega)]; exact b2, by rw [hf _ _ (by omega) (by omega)]; exact b3, b4, fun j hj => by rw [hf _ _ (by omega) (by omega)]; exact b5 j hj⟩⟩
theorem rPa.ge' {G G' : xG_} {o b k : Nat} {H : Nat → sMo} (h : rPa G o H b k) (hf : ∀ a j, o ≤ a → a ≤ o + 28 → G' a j = G a j) : rPa G' o H b k := by
  obtain ⟨a1, a2, a3, a4, a5, a6⟩ := h
  exact ⟨a1.ge (hf _ _ (by omega) (by omega)) (fun a j _ _ => hf _ _ (by omega) (by omega)), a2.ge' hf, a3.ge (hf _ _ (by omega) (by omega)) (fun a j _ _ => hf _ _ (by omega) (by omega)), a4, a5, a6⟩
theorem rLn.ge {G G' : xG_} {o : Nat} {T : List (List Int)} {ln : sLn} {s : pPg} {M : Nat → List pRw} (h : rLn G o T ln s M) (hf : ∀ a j, o ≤ a → a ≤ o + 28 → G' a j = G a j) : rLn G' o T ln s M := by
  obtain ⟨a1, ⟨a2, a3, a4, a5⟩, a6, a7, a8, a9, a10, ⟨E, a11, a12⟩, a18, ⟨a13, a14, a15⟩, a16, a17⟩ := h
  refine ⟨a1.ge' hf, ⟨by rw [hf _ _ (by omega) (by omega)]; exact a2, by rw [hf _ _ (by omega) (by omega)]; exact a3, by rw [hf _ _ (by omega) (by omega)]; exact a4, by rw [hf _ _ (by omega) (by omega)]; exact a5⟩, a6.ge (hf _ _ (by omega) (by omega)) (fun a j _ _ => hf _ _ (by omega) (by omega)), fun c hc => by rw [hf _ _ (by omega) (by omega)]; exact a7 c hc, fun c hc => by rw [hf _ _ (by omega) (by omega), hf _ _ (by omega) (by omega)]; exact a8 c hc, fun p hp => by rw [hf _ _ (by omega) (by omega)]; exact a9 p hp, fun c hc => by rw [hf _ _ (by omega) (by omega)]; exact a10 c hc, ⟨E, a11.ge' hf, a12⟩, a18.ge (fun j => hf _ _ (by omega) (by omega)), ⟨a13.ge' hf, by rw [hf _ _ (by omega) (by omega)]; exact a14, fun c hc => by rw [hf _ _ (by omega) (by omega)]; exact a15 c hc⟩, by rw [hf _ _ (by omega) (by omega)]; exact a16, by rw [hf _ _ (by omega) (by omega)]; exact a17⟩
theorem rLn.app {G : xG_} {o : Nat} {T : List (List Int)} {ln : sLn} {s : pPg} {M : Nat → List pRw} (t : List Int) (hk : ∀ c, (ln.1 (ln.2.1.1 + ln.2.1.2.1)).2.2.1 c < T.length) (h : rLn G o T ln s M) : rLn G o (T ++ [t]) ln s M := by
  unfold rLn
  rw [xOf_app t hk]
  exact h
theorem sOk.app {T : List (List Int)} {ln : sLn} {n : Nat} (t : List Int) (h : sOk T ln n) : sOk (T ++ [t]) ln n := by
  obtain ⟨a1, a2, a3, a4, a5, a6, a7, a8, a9, a10⟩ := h
  refine ⟨fun r r1 r2 => ?_, a2, a3, a4, a5, a6, a7, a8, ?_, fun c => ?_⟩
  · obtain ⟨s, M, h⟩ := a1 r r1 r2
    exact ⟨s, M, h.app t⟩
  · rcases a9 with q | ⟨q1, q2, q3⟩
    · exact .inl q
    · exact .inr ⟨q1, by rw [List.length_append]; omega, by rw [getD_app _ q2]; exact q3⟩
  · rcases a10 c with q | ⟨q1, q2, q3⟩
    · exact .inl q
    · exact .inr ⟨q1, by rw [List.length_append]; omega, by rw [getD_app _ q2]; exact q3⟩
theorem sOk.mo {T : List (List Int)} {ln : sLn} {n n' : Nat} (hn : n ≤ n') (h : sOk T ln n) : sOk T ln n' := by
  obtain ⟨a1, a2, a3, a4, a5, a6, a7, a8⟩ := h
  exact ⟨a1, a2, ⟨by omega, by omega⟩, a4, a5, fun p hp => ⟨(a6 p hp).1, by have := (a6 p hp).2; omega⟩, fun c hc => ⟨(a7 c hc).1, by have := (a7 c hc).2; omega⟩, a8⟩
end
section
/-! round: what is told and worked -/
/-- CHANGES one behind another -/
def chA (s : pPg) : List pPe → (Nat → List pRw) → (Nat → List pRw) → Prop
  | [], R, R' => R' = R
  | e :: ps, R, R' => ∃ R1, chR s e R R1 ∧ chA s ps R1 R'
/-- rows of INPUTS before CHANGES -/
def qR0 (so s : pPg) (fr : Prop) (F : List pFc) (R : Nat → List pRw) : Prop := (fr ∧ qFt s (kpC so s) F R) ∨ (¬ fr ∧ qFt s (fun p => pIn s.2.1 (p : Int) = true) F R)
theorem hCat_c {α : Type} {g g' : Nat → List (Int × α)} {b : Nat} : ∀ k, (∀ r, b < r → r ≤ b + k → g r = g' r) → hCat g b k = hCat g' b k
  | 0, _ => rfl
  | k + 1, h => by
    show hCat g b k ++ g (b + k + 1) = hCat g' b k ++ g' (b + k + 1)
    rw [hCat_c k (fun r r1 r2 => h r r1 (by omega)), h (b + k + 1) (by omega) (by omega)]
/-- one moment more -/
def hAd (H : Nat → sMo) (r : Nat) (mo : sMo) : Nat → sMo := fun x => if x = r then mo else H x
theorem hAd_s {H : Nat → sMo} {r : Nat} {mo : sMo} : hAd H r mo r = mo := if_pos rfl
theorem hAd_n {H : Nat → sMo} {r x : Nat} {mo : sMo} (h : x ≠ r) : hAd H r mo x = H x := if_neg h
section
variable {H : Nat → sMo} {b k : Nat} {mo : sMo}
theorem hAd_lg : hCat (hLg (hAd H (b + k + 1) mo)) b (k + 1) = hCat (hLg H) b k ++ lgR ((b + k + 1 : Nat) : Int) mo.2.1 (H (b + k)).2.1 := by
  show hCat (hLg (hAd H (b + k + 1) mo)) b k ++ hLg (hAd H (b + k + 1) mo) (b + k + 1) = _
  have e : hLg (hAd H (b + k + 1) mo) (b + k + 1) = lgR ((b + k + 1 : Nat) : Int) mo.2.1 (H (b + k)).2.1 := by
    unfold hLg
    rw [hAd_s, hAd_n (by omega), show b + k + 1 - 1 = b + k by omega]
  rw [hCat_c (g' := hLg H) k (fun r r1 r2 => by
    unfold hLg
    rw [hAd_n (by omega), hAd_n (by omega)]), e]
theorem hAd_cg : hCat (hCg (hAd H (b + k + 1) mo)) b (k + 1) = hCat (hCg H) b k ++ cgN ((b + k + 1 : Nat) : Int) (H (b + k)).2.2.1 mo.2.2.2.1 72 := by
  show hCat (hCg (hAd H (b + k + 1) mo)) b k ++ hCg (hAd H (b + k + 1) mo) (b + k + 1) = _
  have e : hCg (hAd H (b + k + 1) mo) (b + k + 1) = cgN ((b + k + 1 : Nat) : Int) (H (b + k)).2.2.1 mo.2.2.2.1 72 := by
    unfold hCg
    rw [hAd_s, hAd_n (by omega), show b + k + 1 - 1 = b + k by omega]
  rw [hCat_c (g' := hCg H) k (fun r r1 r2 => by
    unfold hCg
    rw [hAd_n (by omega), hAd_n (by omega)]), e]
theorem hAd_eg : hCat (hEg (hAd H (b + k + 1) mo)) b (k + 1) = hCat (hEg H) b k ++ (if mo.2.2.2.2 = true then [(((b + k + 1 : Nat) : Int), ((H (b + k)).1 : Int))] else []) := by
  show hCat (hEg (hAd H (b + k + 1) mo)) b k ++ hEg (hAd H (b + k + 1) mo) (b + k + 1) = _
  have e : hEg (hAd H (b + k + 1) mo) (b + k + 1) = (if mo.2.2.2.2 = true then [(((b + k + 1 : Nat) : Int), ((H (b + k)).1 : Int))] else []) := by
    unfold hEg
    rw [hAd_s, hAd_n (by omega), show b + k + 1 - 1 = b + k by omega]
  rw [hCat_c (g' := hEg H) k (fun r r1 r2 => by
    unfold hEg
    rw [hAd_n (by omega), hAd_n (by omega)]), e]
end
section
variable {f o h q c : Nat} {s so : pPg}
/-- rows as CHANGES leave them -/
def okR (s : pPg) (R : Nat → List pRw) : Prop := ∀ p, p < s.1.length → (R p).Pairwise rwLt ∧ ∀ y ∈ R p, y.2 = 0 ∧ ∀ x ∈ y.1, vOk x
theorem chR.ok {e : pPe} {R R' : Nat → List pRw} (h : chR s e R R') (hR : okR s R) (he : ∀ x ∈ e.2.2, vOk x) : okR s R' := fun p hp => by
  obtain ⟨a1, a2, a3⟩ := h p hp
  obtain ⟨b1, b2⟩ := hR p hp
  refine ⟨a1, fun y hy => ?_⟩
  rcases (a3 y).mp hy with z | ⟨_, z | z | z⟩
  · exact b2 y z.2
  · exact b2 y z.2.1
  · exact b2 y z.2.2
  · rcases z.2.2 with w | w
    · exact b2 y w.1
    · rw [w]
      exact ⟨rfl, he⟩
theorem l_298_90 {fr : Int} {ps : List pPe} (hf : 1000 < f) (hok : qOk s) (hkn : ∀ p, p < s.1.length → pIn s.2.1 (p : Int) = true → qKy s p ≤ qN s p) (hh : h < 4) (ho : o = 123 + 29 * h) (hv : ∀ e ∈ ps, ∀ x ∈ e.2.2, vOk x) : ∀ (d x fu : Nat) (G : xG_) (R : Nat → List pRw), x + d = ps.length → d < fu → rPe G o ps → rEn G q c s R → okR s R → (∀ p, p < s.1.length → (R p).length + d ≤ 519) →
    ∃ G' R' fu', g298_90 f fu o fr (x : Int) G = g298_90 f (fu' + 1) o fr (ps.length : Int) G' ∧ chA s (ps.drop x) R R' ∧ rEn G' q c s R' ∧ okR s R' ∧ ∀ a j, ¬ (107 ≤ a ∧ a ≤ 109) → G' a j = G a j := by
  intro d
  induction d with
  | zero =>
    intro x fu G R h1 h2 h3 h4 h5 h6
    obtain ⟨fu, rfl⟩ : ∃ t, fu = t + 1 := ⟨fu - 1, by omega⟩
    have hx : x = ps.length := by omega
    subst hx
    refine ⟨G, R, fu, rfl, ?_, h4, h5, fun _ _ _ => rfl⟩
    rw [List.drop_length]
    rfl
  | succ d ih =>
    intro x fu G R h1 h2 h3 h4 h5 h6
    obtain ⟨fu, rfl⟩ : ∃ t, fu = t + 1 := ⟨fu - 1, by omega⟩
    have hx : x < ps.length := by omega
    have hl := h3.2.1
    obtain ⟨G1, R1, u1, u2, u3, u4⟩ := l_301 (f := f) (M := R) (by omega) hok hkn h4 (fun p hp => (h5 p hp).1) (fun p hp => by have := h6 p hp; omega) hh ho h3 hx
    have he : ps.getD x dPe ∈ ps := by
      rw [getD_e hx]
      exact List.getElem_mem _
    have e : xwr ((x : Int) + 1) = ((x + 1 : Nat) : Int) := by rw [xwr_g _ (by omega) (by omega)]; omega
    obtain ⟨e1, e2, e3, e4⟩ := h4
    have hE1 : rEn G1 q c s R1 := ⟨e1.ge (fun j => u2 _ _ (by omega)) (fun a j _ _ _ _ _ => u2 _ _ (by omega)), fun y hy => by rw [u2 _ _ (by omega)]; exact e2 y hy, ⟨fun p hp => by rw [u2 _ _ (by omega)]; exact e3.1 p hp, fun p hp => by rw [u2 _ _ (by omega)]; exact e3.2 p hp⟩, u3⟩
    obtain ⟨G', R', fu', k1, k2, k3, k4, k5⟩ := ih (x + 1) fu G1 R1 (by omega) (by omega) (h3.ge' (fun a j _ _ => u2 _ _ (by omega))) hE1 (u4.ok h5 (hv _ he)) (fun p hp => by have := (u4 p hp).2.1; have := h6 p hp; omega)
    refine ⟨G', R', fu', ?_, ?_, k3, k4, fun a j z => (k5 a j z).trans (u2 a j z)⟩
    · rw [← k1]
      show g298_90b (g298_90 f fu) f o fr (x : Int) G = _
      unfold g298_90b
      rw [h3.1, if_neg (by omega), u1, Option.bind_some, e]
    · rw [drop_d (d := dPe) hx]
      exact ⟨R1, u4, k2⟩
/-- what a round changes -/
def xfRd (o : Nat) (G G' : xG_) : Prop := ∀ a j, ¬ (a = 0 ∧ (j ≤ 11 ∨ 21 ≤ j ∧ j ≤ 27 ∨ 37 ≤ j ∧ j ≤ 61 ∨ 63 ≤ j ∧ j ≤ 65 ∨ j = 74 ∨ 89 ≤ j ∧ j ≤ 91)) → ¬ (1 ≤ a ∧ a ≤ 71) → ¬ (107 ≤ a ∧ a ≤ 121) → ¬ (o ≤ a ∧ a ≤ o + 28) → ¬ (243 ≤ a ∧ a ≤ 252) → ¬ (258 ≤ a ∧ a ≤ 270) → G' a j = G a j
theorem xfRd.tr {G G1 G2 : xG_} (h1 : xfRd o G G1) (h2 : xfRd o G1 G2) : xfRd o G G2 := fun a j q1 q2 q3 q4 q5 q6 => (h2 a j q1 q2 q3 q4 q5 q6).trans (h1 a j q1 q2 q3 q4 q5 q6)
/-- the INPUTS of a round -/
theorem l_298_54 {fr : Int} {G : xG_} {T : List (List Int)} {m e e' : Nat} {F : List pFc} {M : Nat → List pRw} (hf : 1000100 < f) (hh : h < 4) (ho : o = 123 + 29 * h) (hC : rC G) (hT : rTxs G T m) (he : e < T.length) (h1 : G o 1 = (e : Int)) (hso : qPr (T.getD e []) = .inr so) (hoko : qOk so) (he' : e' < T.length) (hs : qPr (T.getD e' []) = .inr s) (hok : qOk s) (hfr : fr = 0 → s = so) (hF : rFa G (o + 1) F) (hM : qSt1 so M) (hFa : qFa so M F) :
    ∃ G' R' q c, g298_54 f o fr (e' : Int) 2 G = g298_90 f f o fr 0 G' ∧ rEn G' q c s R' ∧ okR s R' ∧ (∀ p, p < s.1.length → (R' p).length ≤ 100) ∧ qR0 so s (fr ≠ 0) F R' ∧ rFa G' 243 F ∧ (∀ a j, ¬ (a = 0 ∧ (j ≤ 11 ∨ 21 ≤ j ∧ j ≤ 27)) → ¬ (1 ≤ a ∧ a ≤ 71) → ¬ (107 ≤ a ∧ a ≤ 109) → ¬ (243 ≤ a ∧ a ≤ 246) → G' a j = G a j) := by
  obtain ⟨G1, q, c, k1, k2, k3, k4, k5⟩ := l_295 (f := f) (o := 2) (by omega) (by omega) hC hT he' hs hok.2.2
  have hF1 : rFa G1 (o + 1) F := hF.ge (k5 _ _ (by omega) (by omega) (by omega)) (fun a j _ _ => k5 _ _ (by omega) (by omega) (by omega))
  obtain ⟨G2, u1, u2, u3⟩ := l_194 (f := f) (b := 243) (b1 := o + 1) (by omega) (by unfold isFb; omega) (by unfold isFb; omega) (by omega) hF1
  have z2 : ∀ a j, a < 243 ∨ 246 < a → G2 a j = G1 a j := fun a j q => u3 a j (by omega) (by omega) (by omega) (by omega)
  have hb : isFb (o + 1) := by unfold isFb; omega
  have hP2 : rPr G2 2 q c s := k2.ge (fun j => z2 _ _ (by omega)) (fun a j _ _ _ _ _ => z2 _ _ (by omega))
  have hPn2 : rPn G2 2 s := fun y hy => by rw [z2 _ _ (by omega)]; exact k3 y hy
  have hPk2 : rPk G2 2 s := ⟨fun p hp => by rw [z2 _ _ (by omega)]; exact k4.1 p hp, fun p hp => by rw [z2 _ _ (by omega)]; exact k4.2 p hp⟩
  have hF2 : rFa G2 (o + 1) F := hF1.ge (z2 _ _ (by omega)) (fun a j _ _ => z2 _ _ (by omega))
  have hcnt : ∀ p, p < s.1.length → F.countP (fun y => decide (y.1 = qNm s p ∧ y.2.length = qN s p)) ≤ 100 := fun p hp => hFa.cnt hoko hM.1.1 _ _
  have hFo : qFo s F := hFa.fo2 hoko hM.1.1
  have e0 : g298_54 f o fr (e' : Int) 2 G = (if fr = 0 then ((g297 f (o + 1) G2).bind fun R215 => g298_88 f o fr R215) else ((g299 f o G2).bind fun R220 => g298_88 f o fr R220)) := by
    unfold g298_54
    rw [k1, Option.bind_some, u1, Option.bind_some]
  have okof : ∀ {cd : Nat → Prop} {R' : Nat → List pRw}, qFt s cd F R' → okR s R' ∧ ∀ p, p < s.1.length → (R' p).length ≤ 100 := fun {cd R'} h => by
    refine ⟨fun p hp => ⟨(h p hp).1, fun y hy => ?_⟩, fun p hp => Nat.le_trans (h p hp).2.1 (hcnt p hp)⟩
    obtain ⟨z1, z2, z3, z4⟩ := ((h p hp).2.2 y).mp hy
    exact ⟨z2, fun x hx => hFo.2.2 _ z3 x hx⟩
  by_cases cf : fr = 0
  · obtain ⟨G3, R', v1, v2, v3, v4⟩ := l_297 (f := f) (by omega) hok hb hP2 hPn2 hF2 hFo
    obtain ⟨o1, o2⟩ := okof v4
    refine ⟨G3, R', q, c, ?_, ⟨hP2.ge (fun j => v2 _ _ (by omega)) (fun a j _ _ _ _ _ => v2 _ _ (by omega)), fun y hy => by rw [v2 _ _ (by omega)]; exact hPn2 y hy, ⟨fun p hp => by rw [v2 _ _ (by omega)]; exact hPk2.1 p hp, fun p hp => by rw [v2 _ _ (by omega)]; exact hPk2.2 p hp⟩, v3⟩, o1, o2, .inr ⟨fun z => z cf, v4⟩, u2.ge (v2 _ _ (by omega)) (fun a j _ _ => v2 _ _ (by omega)), fun a j q1 q2 q3 q4 => by rw [v2 a j q3, z2 a j (by omega), k5 a j q1 (by omega) (by omega)]⟩
    rw [e0, if_pos cf, v1, Option.bind_some]
    rfl
  · have hC2 : rC G2 := by
      have z : ∀ j, 12 ≤ j → j ≤ 20 → G2 0 j = G 0 j := fun j _ _ => by rw [z2 _ _ (by omega), k5 _ _ (by omega) (by omega) (by omega)]
      obtain ⟨k1, k2, k3, k4, k5, k6, k7, k8, k9⟩ := hC
      exact ⟨by rw [z _ (by decide) (by decide)]; exact k1, by rw [z _ (by decide) (by decide)]; exact k2, by rw [z _ (by decide) (by decide)]; exact k3, by rw [z _ (by decide) (by decide)]; exact k4, by rw [z _ (by decide) (by decide)]; exact k5, by rw [z _ (by decide) (by decide)]; exact k6, by rw [z _ (by decide) (by decide)]; exact k7, by rw [z _ (by decide) (by decide)]; exact k8, by rw [z _ (by decide) (by decide)]; exact k9⟩
    have zz : ∀ a j, ¬ (a = 0 ∧ (j ≤ 11 ∨ 21 ≤ j ∧ j ≤ 27)) → ¬ (1 ≤ a ∧ a ≤ 36) → a < 243 → G2 a j = G a j := fun a j q1 q2 q3 => by rw [z2 _ _ (by omega), k5 _ _ q1 (by omega) (by omega)]
    have hT2 : rTxs G2 T m := hT.ge (zz _ _ (by omega) (by omega) (by omega)) (zz _ _ (by omega) (by omega) (by omega)) (fun a j _ => zz _ _ (by omega) (by omega) (by omega))
    obtain ⟨G3, R', v1, v2, v3, v4⟩ := l_299 (f := f) (o := o) (e := e) (by omega) hok hoko hb hC2 hT2 he (by rw [zz _ _ (by omega) (by omega) (by omega)]; exact h1) hso hP2 hPn2 hF2 hFo (fun y hy r hr hn => by
      obtain ⟨p, a1, a2, w, a3, a4⟩ := (hFa.2 y).mp hy
      have := nm_inj hoko hr a1 (by rw [hn, a2])
      subst this
      rw [← a4]
      exact ((hM.1.1 r a1).2.2 w a3).1)
    obtain ⟨o1, o2⟩ := okof v4
    refine ⟨G3, R', q, c, ?_, ⟨hP2.ge (fun j => v2 _ _ (by omega) (by omega) (by omega) (by omega)) (fun a j _ _ _ _ _ => v2 _ _ (by omega) (by omega) (by omega) (by omega)), fun y hy => by rw [v2 _ _ (by omega) (by omega) (by omega) (by omega)]; exact hPn2 y hy, ⟨fun p hp => by rw [v2 _ _ (by omega) (by omega) (by omega) (by omega)]; exact hPk2.1 p hp, fun p hp => by rw [v2 _ _ (by omega) (by omega) (by omega) (by omega)]; exact hPk2.2 p hp⟩, v3⟩, o1, o2, .inl ⟨cf, v4⟩, u2.ge (v2 _ _ (by omega) (by omega) (by omega) (by omega)) (fun a j _ _ => v2 _ _ (by omega) (by omega) (by omega) (by omega)), fun a j q1 q2 q3 q4 => by rw [v2 a j q1 (by omega) (by omega) q3, z2 a j (by omega), k5 a j q1 (by omega) (by omega)]⟩
    rw [e0, if_neg cf, v1, Option.bind_some]
    rfl
end
end
section
/-! round: the rows are taken -/
section
variable {f o h q c m : Nat} {s : pPg} {M : Nat → List pRw} {T : List (List Int)} {K : Nat → Nat} {W : Nat → Int} {C : fCs} {L : List pLg} {Cg : List pCg} {Eg : List pEg} {A B : List pFc} {fr : Int} {rd b : Nat}
theorem l_298_222 {G : xG_} (hf : 1000100 < f) (hh : h < 4) (ho : o = 123 + 29 * h) (hok : qOk s) (hE : rEn G q c s M) (hM : qTb s M) (hA : rFa G 247 A) (hB : rFa G 243 B) (hFo : rFa G (o + 1) B) (hsA : A.Pairwise fLt) (hsB : B.Pairwise fLt) (hlA : A.length ≤ 1600) (hlB : B.length ≤ 1600) (hH : rHi G o L Cg Eg) (hlL : L.length ≤ 8000) (hlC : Cg.length ≤ 100)
    (h2 : G o 2 = (rd : Int)) (hrd : rd < 100000) (h3 : G o 3 = (b : Int)) (hb : b ≤ rd) (hm : (∀ a ∈ L, a.1 ≤ (rd : Int)) ∧ (∀ a ∈ Cg, a.1 ≤ (rd : Int)) ∧ ∀ a ∈ Eg, a.1 ≤ (rd : Int) + 1) (hC : rC G) (hT : rTxs G T m) (hK : rKt G o T K) (hN : rNt G o T W) (hr : rCs G o C) (hCk : okC C) (hwk : ∀ y, y < 16 → 0 ≤ G (o + 18) y ∧ G (o + 18) y < 1000000) (hcw : ∀ c, c < 72 → 0 ≤ G (o + 16) c ∧ G (o + 16) c < 1000000) (h64 : 0 ≤ G 0 64 ∧ G 0 64 < 1000000) :
    ∃ G' E' y, g298_222 f o fr G = some (((lgR ((rd + 1 : Nat) : Int) A B).length : Int), G') ∧ G' o 2 = ((rd + 1 : Nat) : Int) ∧ tmIs (L ++ lgR ((rd + 1 : Nat) : Int) A B) (Cg ++ cgN ((rd + 1 : Nat) : Int) K W 72) Eg (b : Int) y ∧ y ≤ ((rd + 1 : Nat) : Int) ∧ rHi G' o (lgK y (L ++ lgR ((rd + 1 : Nat) : Int) A B)) (lgK y (Cg ++ cgN ((rd + 1 : Nat) : Int) K W 72)) (lgK y Eg) ∧ G' o 3 = y ∧ rFa G' (o + 1) A ∧ (∀ c, c < 72 → G' (o + 15) c = (kNx K W 72 c : Int)) ∧ rCs G' o (fSh (xOf T (kNx K W 72)) s M) ∧
      (∀ y, y < 16 → ((y < s.1.length ∧ qWc s (fr ≠ 0) (fun p => ∃ x, x ∈ lgR ((rd + 1 : Nat) : Int) A B ∧ ofP s x.2.2 p) y) → G' (o + 18) y = G (o + 18) y + 1) ∧ (¬ (y < s.1.length ∧ qWc s (fr ≠ 0) (fun p => ∃ x, x ∈ lgR ((rd + 1 : Nat) : Int) A B ∧ ofP s x.2.2 p) y) → G' (o + 18) y = G (o + 18) y)) ∧
      rWk G G' o (qCw (xOf T (kNx K W 72)) s (fr ≠ 0) W C (fSh (xOf T (kNx K W 72)) s M) (fun p => ∃ x, x ∈ lgR ((rd + 1 : Nat) : Int) A B ∧ ofP s x.2.2 p)) 72 ∧ rEd G' o E' ∧ qEd s A B E' ∧ rCh G' o s (lgR ((rd + 1 : Nat) : Int) A B) ∧ G' o 33 = 0 ∧ G' o 34 = -1 ∧ (∀ c, c < 72 → G' (o + 26) c = -1) ∧ (G' o 1 = G o 1 ∧ G' o 4 = G o 4 ∧ G' o 35 = G o 35 ∧ G' o 36 = G o 36) ∧ G' 0 64 = G 0 64 + 1 ∧ (∀ j, j = 63 ∨ j = 65 ∨ j = 74 → G' 0 j = G 0 j) ∧ xfRd o G G' := by
  have hob : 122 < o ∧ o < 211 := by omega
  have e2 : xwr ((rd : Int) + 1) = ((rd + 1 : Nat) : Int) := by rw [xwr_g _ (by omega) (by omega)]; omega
  obtain ⟨hP, hPn, hPk, hTb⟩ := hE
  obtain ⟨hL, hCg, hEg, hsL, hsC, hsE⟩ := hH
  have hn2 : ∀ p, p < s.1.length → 0 ≤ pNn s.2.2.2.1 (p : Int) := fun p _ => (pNn_in hok.1 (p : Int)).1
  -- rounds, forgetRound
  obtain ⟨G2, a1, a2, a3, a4⟩ := l_203 (f := f) (o := o) (G := xup2 G o 2 ((rd + 1 : Nat) : Int)) (by omega)
  have z2 : ∀ a j, ¬ (a = o ∧ (j = 2 ∨ j = 27)) → ¬ (a = o + 19 ∧ j < 16) → G2 a j = G a j := fun a j q1 q2 => by rw [a4 a j (by omega) q2, xup2_n (by omega)]
  have y2 : G2 o 2 = ((rd + 1 : Nat) : Int) := by rw [a4 _ _ (by omega) (by omega), xup2_s]
  have g2 : ∀ a j, a ≠ o → a ≠ o + 19 → G2 a j = G a j := fun a j q1 q2 => z2 a j (by omega) (by omega)
  -- logChanges
  have eL2 : eLg G2 o s ((rd + 1 : Nat) : Int) A B := ⟨hP.1.ge' (g2 _ _ (by omega) (by omega)) (fun j => g2 _ _ (by omega) (by omega)), fun y hy => by rw [g2 _ _ (by omega) (by omega)]; exact hPn y hy, hB.ge (g2 _ _ (by omega) (by omega)) (fun a j _ _ => g2 _ _ (by omega) (by omega)), hA.ge (g2 _ _ (by omega) (by omega)) (fun a j _ _ => g2 _ _ (by omega) (by omega)), y2⟩
  have hL2 : rLg G2 o L := hL.ge (z2 _ _ (by omega) (by omega)) (fun a j _ _ => z2 _ _ (by omega) (by omega))
  obtain ⟨G3, b1, b2, b3, b4⟩ := l_304 (f := f) (by omega) hok.1 hh ho hsA hsB eL2 hL2 (by omega) a3
  have g3 : ∀ a j, a < o ∨ o + 28 < a → G3 a j = G a j := fun a j q => by rw [b2 a j (by omega) (by omega) (by omega), g2 a j (by omega) (by omega)]
  have z3 : ∀ a j, ¬ (a = o ∧ (j = 2 ∨ j = 27 ∨ j = 10)) → ¬ (o + 5 ≤ a ∧ a ≤ o + 9) → a ≠ o + 19 → G3 a j = G a j := fun a j q1 q2 q3 => by rw [b2 a j (by omega) q2 q3, z2 a j (by omega) (by omega)]
  -- countWorked
  have hP3 : rPr G3 2 q c s := hP.ge (fun j => g3 _ _ (by omega)) (fun a j _ _ _ _ _ => g3 _ _ (by omega))
  have hPk3 : rPk G3 2 s := ⟨fun p hp => by rw [g3 _ _ (by omega)]; exact hPk.1 p hp, fun p hp => by rw [g3 _ _ (by omega)]; exact hPk.2 p hp⟩
  obtain ⟨G4, c1, c2, c3⟩ := l_305 (f := f) (fr := fr) (R := M) (by omega) hh ho hok hP3 hPk3 b4 (fun y hy => by rw [z3 _ _ (by omega) (by omega) (by omega)]; exact hwk y hy)
  have g4 : ∀ a j, a < o ∨ o + 28 < a → G4 a j = G a j := fun a j q => by rw [c2 a j (by omega), g3 a j q]
  -- facts
  have hA4 : rFa G4 247 A := hA.ge (g4 _ _ (by omega)) (fun a j _ _ => g4 _ _ (by omega))
  obtain ⟨G5, d1, d2, d3⟩ := l_194 (f := f) (b := o + 1) (b1 := 247) (by omega) (by unfold isFb; omega) (by unfold isFb; omega) (by omega) hA4
  have g5 : ∀ a j, a < o ∨ o + 28 < a → G5 a j = G a j := fun a j q => by rw [d3 a j (by omega) (by omega) (by omega) (by omega), g4 a j q]
  have z5 : ∀ a j, ¬ (a = o ∧ (j = 2 ∨ j = 27 ∨ j = 10)) → ¬ (o + 1 ≤ a ∧ a ≤ o + 9) → a ≠ o + 18 → a ≠ o + 19 → G5 a j = G a j := fun a j q1 q2 q3 q4 => by rw [d3 a j (by omega) (by omega) (by omega) (by omega), c2 a j q3, z3 a j q1 (by omega) q4]
  -- tellEdits
  have k27 : G5 o 27 = 0 := by rw [d3 _ _ (by omega) (by omega) (by omega) (by omega), c2 _ _ (by omega), b2 _ _ (by omega) (by omega) (by omega)]; exact a2
  obtain ⟨G6, E', e1, e3, e4, e5⟩ := l_306 (f := f) (q := q) (c := c) (by omega) hok hh ho (hP.ge (fun j => g5 _ _ (by omega)) (fun a j _ _ _ _ _ => g5 _ _ (by omega))) (fun y hy => by rw [g5 _ _ (by omega)]; exact hPn y hy) (hA.ge (g5 _ _ (by omega)) (fun a j _ _ => g5 _ _ (by omega))) (hB.ge (g5 _ _ (by omega)) (fun a j _ _ => g5 _ _ (by omega))) hsA hsB (by omega) k27
  have g6 : ∀ a j, a < o ∨ o + 28 < a → G6 a j = G a j := fun a j q => by rw [e3 a j (by omega) (by omega), g5 a j q]
  have z6 : ∀ a j, ¬ (a = o ∧ (j = 2 ∨ j = 27 ∨ j = 10)) → ¬ (o + 1 ≤ a ∧ a ≤ o + 9) → a ≠ o + 18 → a ≠ o + 19 → ¬ (o + 21 ≤ a ∧ a ≤ o + 23) → G6 a j = G a j := fun a j q1 q2 q3 q4 q5 => by rw [e3 a j (by omega) q5, z5 a j q1 q2 q3 q4]
  -- workCells
  have hC6 : rC G6 := by
    obtain ⟨k1, k2, k3, k4, k5, k6, k7, k8, k9⟩ := hC
    exact ⟨by rw [g6 _ _ (by omega)]; exact k1, by rw [g6 _ _ (by omega)]; exact k2, by rw [g6 _ _ (by omega)]; exact k3, by rw [g6 _ _ (by omega)]; exact k4, by rw [g6 _ _ (by omega)]; exact k5, by rw [g6 _ _ (by omega)]; exact k6, by rw [g6 _ _ (by omega)]; exact k7, by rw [g6 _ _ (by omega)]; exact k8, by rw [g6 _ _ (by omega)]; exact k9⟩
  have eS6 : eSh G6 o T m K s M := ⟨hC6, hT.ge (g6 _ _ (by omega)) (g6 _ _ (by omega)) (fun a j _ => g6 _ _ (by omega)), fun x hx => by rw [z6 _ _ (by omega) (by omega) (by omega) (by omega) (by omega)]; exact hK x hx, hP.1.ge' (g6 _ _ (by omega)) (fun j => g6 _ _ (by omega)), fun y hy => by rw [g6 _ _ (by omega)]; exact hPn y hy, hTb.ge (fun a j _ _ => g6 _ _ (by omega))⟩
  have y62 : G6 o 2 = ((rd + 1 : Nat) : Int) := by rw [e3 _ _ (by omega) (by omega), d3 _ _ (by omega) (by omega) (by omega) (by omega), c2 _ _ (by omega), b2 _ _ (by omega) (by omega) (by omega)]; exact y2
  obtain ⟨G7, f1, f2, f3, f4, f5, f6⟩ := l_354 (f := f) (fr := fr) (W := W) (C := C) (L := Cg) (rd := ((rd + 1 : Nat) : Int)) (H := fun p => ∃ x, x ∈ lgR ((rd + 1 : Nat) : Int) A B ∧ ofP s x.2.2 p) (by omega) hh ho (fun p hp r hr' => (((hM p hp).2.2 r hr').2)) hn2 eS6 hCk (fun x hx => by rw [z6 _ _ (by omega) (by omega) (by omega) (by omega) (by omega), z6 _ _ (by omega) (by omega) (by omega) (by omega) (by omega)]; exact hr x hx) (fun x hx => by rw [z6 _ _ (by omega) (by omega) (by omega) (by omega) (by omega)]; exact hN x hx) hlC (hCg.ge (z6 _ _ (by omega) (by omega) (by omega) (by omega) (by omega)) (fun a j _ _ => z6 _ _ (by omega) (by omega) (by omega) (by omega) (by omega))) y62 (fun p hp => by
    rw [e3 _ _ (by omega) (by omega), d3 _ _ (by omega) (by omega) (by omega) (by omega), c2 _ _ (by omega)]
    exact (b4 p hp).1) (fun x hx => by rw [z6 _ _ (by omega) (by omega) (by omega) (by omega) (by omega)]; exact hcw x hx)
  -- forget
  obtain ⟨G8, k1, k2, k3, k4, k5⟩ := l_202 (f := f) (o := o) (G := G7) (by omega)
  have z8 : ∀ a j, ¬ (a = o ∧ (j = 33 ∨ j = 34)) → ¬ (a = o + 26 ∧ j < 72) → ¬ (a = 0 ∧ (j ≤ 11 ∨ j = 21 ∨ j = 25 ∨ j = 42 ∨ 89 ≤ j ∧ j ≤ 91)) → ¬ (258 ≤ a ∧ a ≤ 270) → a ≠ 251 → a ≠ 252 → ¬ (a = o ∧ j = 16) → ¬ (o + 10 ≤ a ∧ a ≤ o + 12) → ¬ (o + 15 ≤ a ∧ a ≤ o + 17) → a ≠ o + 20 → G8 a j = G6 a j := fun a j q1 q2 q3 q4 q5 q6 q7 q8 q9 q10 => by rw [k5 a j q1 q2, f6 a j q3 q4 q5 q6 q7 q8 q9 q10]
  have w8 : ∀ a j, a ≠ o → a ≠ o + 26 → G8 a j = G7 a j := fun a j q1 q2 => k5 a j (by omega) (by omega)
  -- trim
  have hH8 : rHi G8 o (L ++ lgR ((rd + 1 : Nat) : Int) A B) (Cg ++ cgN ((rd + 1 : Nat) : Int) K W 72) Eg := by
    refine ⟨b3.ge ?_ (fun a j _ _ => ?_), f4.ge ?_ (fun a j _ _ => w8 _ _ (by omega) (by omega)), hEg.ge ?_ (fun a j _ _ => ?_), ?_, ?_, hsE⟩
    · rw [z8 _ _ (by omega) (by omega) (by omega) (by omega) (by omega) (by omega) (by omega) (by omega) (by omega) (by omega), e3 _ _ (by omega) (by omega), d3 _ _ (by omega) (by omega) (by omega) (by omega), c2 _ _ (by omega)]
    · rw [z8 _ _ (by omega) (by omega) (by omega) (by omega) (by omega) (by omega) (by omega) (by omega) (by omega) (by omega), e3 _ _ (by omega) (by omega), d3 _ _ (by omega) (by omega) (by omega) (by omega), c2 _ _ (by omega)]
    · exact k5 _ _ (by omega) (by omega)
    · rw [z8 _ _ (by omega) (by omega) (by omega) (by omega) (by omega) (by omega) (by omega) (by omega) (by omega) (by omega), z6 _ _ (by omega) (by omega) (by omega) (by omega) (by omega)]
    · rw [z8 _ _ (by omega) (by omega) (by omega) (by omega) (by omega) (by omega) (by omega) (by omega) (by omega) (by omega), z6 _ _ (by omega) (by omega) (by omega) (by omega) (by omega)]
    · refine List.pairwise_append.mpr ⟨hsL, pw_all _ (fun x hx y hy => ?_), fun x hx y hy => ?_⟩
      · have r1 : ∀ z ∈ lgR ((rd + 1 : Nat) : Int) A B, z.1 = ((rd + 1 : Nat) : Int) := fun z hz => by
          unfold lgR at hz
          rcases List.mem_append.mp hz with w | w
          · exact (lgD_mem.mp w).1
          · exact (lgD_mem.mp w).1
        rw [r1 x hx, r1 y hy]; omega
      · have r1 : y.1 = ((rd + 1 : Nat) : Int) := by
          unfold lgR at hy
          rcases List.mem_append.mp hy with w | w
          · exact (lgD_mem.mp w).1
          · exact (lgD_mem.mp w).1
        have := hm.1 x hx
        omega
    · refine List.pairwise_append.mpr ⟨hsC, pw_all _ (fun x hx y hy => ?_), fun x hx y hy => ?_⟩
      · rw [(cgN_r 72 hx).1, (cgN_r 72 hy).1]; omega
      · have := hm.2.1 x hx
        rw [(cgN_r 72 hy).1]
        omega
  have y83 : G8 o 3 = (b : Int) := by rw [z8 _ _ (by omega) (by omega) (by omega) (by omega) (by omega) (by omega) (by omega) (by omega) (by omega) (by omega), z6 _ _ (by omega) (by omega) (by omega) (by omega) (by omega)]; exact h3
  obtain ⟨G9, y, t1, t2, t3, t4, t5, t6⟩ := l_308 (f := f) (rd := ((rd + 1 : Nat) : Int)) (x := (b : Int)) (G := G8) hf hh ho (by omega) ⟨fun a ha => by
      rcases List.mem_append.mp ha with w | w
      · have := hm.1 a w; omega
      · unfold lgR at w
        rcases List.mem_append.mp w with w | w
        · rw [(lgD_mem.mp w).1]; omega
        · rw [(lgD_mem.mp w).1]; omega, fun a ha => by
      rcases List.mem_append.mp ha with w | w
      · have := hm.2.1 a w; omega
      · rw [(cgN_r 72 w).1]; omega, fun a ha => by have := hm.2.2 a ha; omega⟩ (by omega) (by omega) y83 hH8
  have z9 : ∀ a j, ¬ (a = o ∧ (j = 3 ∨ j = 10 ∨ j = 16 ∨ j = 17)) → ¬ (o + 5 ≤ a ∧ a ≤ o + 14) → G9 a j = G8 a j := fun a j q1 q2 => t6 a j q1 q2
  have v64 : G9 0 64 = G 0 64 := by rw [z9 _ _ (by omega) (by omega), z8 _ _ (by omega) (by omega) (by omega) (by omega) (by omega) (by omega) (by omega) (by omega) (by omega) (by omega), g6 _ _ (by omega)]
  have e64 : xwr (G 0 64 + 1) = G 0 64 + 1 := xwr_g _ (by omega) (by omega)
  let G10 := xup2 G9 0 64 (G 0 64 + 1)
  have z10 : ∀ a j, ¬ (a = 0 ∧ j = 64) → G10 a j = G9 a j := fun a j q => xup2_n (by omega)
  -- fields of the line that stay
  have st : ∀ j, j = 1 ∨ j = 4 ∨ j = 35 ∨ j = 36 → G10 o j = G o j := fun j q => by
    rw [z10 _ _ (by omega), z9 _ _ (by omega) (by omega), z8 _ _ (by omega) (by omega) (by omega) (by omega) (by omega) (by omega) (by omega) (by omega) (by omega) (by omega), z6 _ _ (by omega) (by omega) (by omega) (by omega) (by omega)]
  refine ⟨G10, E', y, ?_, ?_, t2, t3, ?_, ?_, ?_, fun x hx => ?_, fun x hx => ?_, fun x hx => ?_, fun x hx => ?_, ?_, e5, fun p hp => ?_, ?_, ?_, fun x hx => ?_, ⟨st 1 (by omega), st 4 (by omega), st 35 (by omega), st 36 (by omega)⟩, xup2_s _ _ _ _, fun j q => ?_, fun a j q1 q2 q3 q4 q5 q6 => ?_⟩
  · unfold g298_222
    rw [h2, e2, Option.bind_some, a1, Option.bind_some, b1, Option.bind_some]
    show Option.bind (g305 f o fr G3) _ = _
    rw [c1, Option.bind_some, d1, Option.bind_some, e1, Option.bind_some, f1, Option.bind_some, k1, Option.bind_some, t1, Option.bind_some, v64, e64]
    rfl
  · rw [z10 _ _ (by omega), z9 _ _ (by omega) (by omega), z8 _ _ (by omega) (by omega) (by omega) (by omega) (by omega) (by omega) (by omega) (by omega) (by omega) (by omega)]
    exact y62
  · obtain ⟨t41, t42, t43, t44⟩ := t4
    exact ⟨t41.ge (z10 _ _ (by omega)) (fun a j _ _ => z10 _ _ (by omega)), t42.ge (z10 _ _ (by omega)) (fun a j _ _ => z10 _ _ (by omega)), t43.ge (z10 _ _ (by omega)) (fun a j _ _ => z10 _ _ (by omega)), t44⟩
  · rw [z10 _ _ (by omega)]; exact t5
  · have w : ∀ a j, o + 1 ≤ a → a ≤ o + 4 → G10 a j = G5 a j := fun a j _ _ => by
      rw [z10 _ _ (by omega), z9 _ _ (by omega) (by omega), z8 _ _ (by omega) (by omega) (by omega) (by omega) (by omega) (by omega) (by omega) (by omega) (by omega) (by omega), e3 _ _ (by omega) (by omega)]
    exact d2.ge (w _ _ (by omega) (by omega)) (fun a j _ _ => w _ _ (by omega) (by omega))
  · rw [z10 _ _ (by omega), z9 _ _ (by omega) (by omega), w8 _ _ (by omega) (by omega)]
    exact (f2.2.2.1 x hx).1
  · rw [z10 _ _ (by omega), z9 _ _ (by omega) (by omega), w8 _ _ (by omega) (by omega), z10 _ _ (by omega), z9 _ _ (by omega) (by omega), w8 _ _ (by omega) (by omega)]
    exact f3 x hx
  · have w : G10 (o + 18) x = G4 (o + 18) x := by
      rw [z10 _ _ (by omega), z9 _ _ (by omega) (by omega), z8 _ _ (by omega) (by omega) (by omega) (by omega) (by omega) (by omega) (by omega) (by omega) (by omega) (by omega), e3 _ _ (by omega) (by omega), d3 _ _ (by omega) (by omega) (by omega) (by omega)]
    have w3 : G3 (o + 18) x = G (o + 18) x := z3 _ _ (by omega) (by omega) (by omega)
    rw [w, ← w3]
    exact c3 x hx
  · have w : G10 (o + 16) x = G7 (o + 16) x := by
      rw [z10 _ _ (by omega), z9 _ _ (by omega) (by omega), w8 _ _ (by omega) (by omega)]
    have w6 : G6 (o + 16) x = G (o + 16) x := z6 _ _ (by omega) (by omega) (by omega) (by omega) (by omega)
    rw [w, ← w6]
    exact f5 x hx
  · refine e4.ge ?_ (fun a j _ _ => ?_)
    · rw [z10 _ _ (by omega), z9 _ _ (by omega) (by omega), z8 _ _ (by omega) (by omega) (by omega) (by omega) (by omega) (by omega) (by omega) (by omega) (by omega) (by omega)]
    · rw [z10 _ _ (by omega), z9 _ _ (by omega) (by omega), z8 _ _ (by omega) (by omega) (by omega) (by omega) (by omega) (by omega) (by omega) (by omega) (by omega) (by omega)]
  · rw [z10 _ _ (by omega), z9 _ _ (by omega) (by omega), z8 _ _ (by omega) (by omega) (by omega) (by omega) (by omega) (by omega) (by omega) (by omega) (by omega) (by omega), e3 _ _ (by omega) (by omega), d3 _ _ (by omega) (by omega) (by omega) (by omega), c2 _ _ (by omega)]
    exact b4 p hp
  · rw [z10 _ _ (by omega), z9 _ _ (by omega) (by omega)]; exact k2
  · rw [z10 _ _ (by omega), z9 _ _ (by omega) (by omega)]; exact k3
  · rw [z10 _ _ (by omega), z9 _ _ (by omega) (by omega)]; exact k4 x hx
  · rw [z10 _ _ (by omega), z9 _ _ (by omega) (by omega), z8 _ _ (by omega) (by omega) (by omega) (by omega) (by omega) (by omega) (by omega) (by omega) (by omega) (by omega), g6 _ _ (by omega)]
  · rw [z10 _ _ (by omega), z9 _ _ (by omega) (by omega), z8 _ _ (by omega) (by omega) (by omega) (by omega) (by omega) (by omega) (by omega) (by omega) (by omega) (by omega), g6 _ _ (by omega)]
end
end
section
/-! round, whole -/
abbrev lMo (ln : sLn) : sMo := ln.1 (ln.2.1.1 + ln.2.1.2.1)
/-- nothing is told -/
def lnF (ln : sLn) : sLn := (ln.1, ln.2.1, ln.2.2.1, ([], -1, fun _ => -1), ln.2.2.2.2)
/-- which edition a round takes -/
def lnE (ln : sLn) : Nat := if ln.2.2.2.1.2.1 = -1 then (lMo ln).1 else ln.2.2.2.1.2.1.toNat
/-- the moment behind a round -/
def lnM (ln : sLn) (F : List pFc) : sMo := (lnE ln, F, kNx (lMo ln).2.2.1 ln.2.2.2.1.2.2 72, ln.2.2.2.1.2.2, decide (ln.2.2.2.1.2.1 ≠ -1))
def lnH (ln : sLn) (F : List pFc) : Nat → sMo := hAd ln.1 (ln.2.1.1 + ln.2.1.2.1 + 1) (lnM ln F)
/-- a number grows by one where P is -/
def inc1 (n : Nat) (P : Nat → Prop) (w w' : Nat → Int) : Prop := ∀ y, y < n → (P y ∧ w' y = w y + 1) ∨ (¬ P y ∧ w' y = w y)
/-- round() of a line -/
def stRd (T : List (List Int)) (ln : sLn) (v : Int) (ln' : sLn) (good : Bool) : Prop :=
  ∃ so Mo s R0 R, isMo T (lMo ln) so Mo ∧ qPr (T.getD (lnE ln) []) = .inr s ∧ qR0 so s (ln.2.2.2.1.2.1 ≠ -1) (lMo ln).2.1 R0 ∧ chA s ln.2.2.2.1.1 R0 R ∧
  ((good = false ∧ (¬ ∃ M, qMod s R M) ∧ v = -1 ∧ ln' = lnF ln) ∨
   (good = true ∧ ∃ M F b k wk cw, qMod s R M ∧ qFa s M F ∧ v = ((lgR ((ln.2.1.1 + ln.2.1.2.1 + 1 : Nat) : Int) F (lMo ln).2.1).length : Int) ∧ ln' = (lnH ln F, (b, k, ln.2.1.2.2 + (if ln.2.2.2.1.2.1 = -1 then 0 else 1)), (wk, cw, true), ([], -1, fun _ => -1), ln.2.2.2.2) ∧ b + k = ln.2.1.1 + ln.2.1.2.1 + 1 ∧
    tmIs (hCat (hLg (lnH ln F)) ln.2.1.1 (ln.2.1.2.1 + 1)) (hCat (hCg (lnH ln F)) ln.2.1.1 (ln.2.1.2.1 + 1)) (hCat (hEg (lnH ln F)) ln.2.1.1 (ln.2.1.2.1 + 1)) (ln.2.1.1 : Int) (b : Int) ∧
    inc1 16 (fun y => y < s.1.length ∧ qWc s (ln.2.2.2.1.2.1 ≠ -1) (fun p => ∃ x, x ∈ lgR ((ln.2.1.1 + ln.2.1.2.1 + 1 : Nat) : Int) F (lMo ln).2.1 ∧ ofP s x.2.2 p) y) (fun y => if ln.2.2.2.1.2.1 = -1 then ln.2.2.1.1 y else 0) wk ∧
    inc1 72 (qCw (xOf T (kNx (lMo ln).2.2.1 ln.2.2.2.1.2.2 72)) s (ln.2.2.2.1.2.1 ≠ -1) ln.2.2.2.1.2.2 (fSh (xOf T (lMo ln).2.2.1) so Mo) (fSh (xOf T (kNx (lMo ln).2.2.1 ln.2.2.2.1.2.2 72)) s M) (fun p => ∃ x, x ∈ lgR ((ln.2.1.1 + ln.2.1.2.1 + 1 : Nat) : Int) F (lMo ln).2.1 ∧ ofP s x.2.2 p)) ln.2.2.1.2.1 cw))
theorem rIn_of {G : xG_} {q c : Nat} {s : pPg} {R : Nat → List pRw} (hE : rEn G q c s R) (hR : okR s R) : qIn s R := fun p hp _ => by
  obtain ⟨_, _, _, hT⟩ := hE
  refine ⟨(hR p hp).1, fun w hw => ⟨?_, ((hR p hp).2 w hw).2⟩⟩
  obtain ⟨i, hi, e⟩ := List.getElem_of_mem hw
  have := ((hT p hp).1.2.2 i hi).1
  rw [getD_e hi, e] at this
  exact this
section
variable {f o h : Nat}
theorem l_298_203 {fr : Int} (hf : 100 < f) (ho : 122 < o) : ∀ (d p fu : Nat) (Z : xG_), p + d = 16 → d < fu → (∀ j, j < p → Z (o + 18) j = 0) → ∃ Z', g298_203 f fu o fr (p : Int) Z = g298_222 f o fr Z' ∧ (∀ j, j < 16 → Z' (o + 18) j = 0) ∧ ∀ a j, a ≠ o + 18 → Z' a j = Z a j := by
  intro d
  induction d with
  | zero =>
    intro p fu Z h1 h2 h3
    obtain ⟨fu, rfl⟩ : ∃ t, fu = t + 1 := ⟨fu - 1, by omega⟩
    refine ⟨Z, ?_, fun j hj => h3 j (by omega), fun _ _ _ => rfl⟩
    show g298_203b (g298_203 f fu) f _ _ _ _ = _
    unfold g298_203b
    rw [if_pos (by omega)]
  | succ d ih =>
    intro p fu Z h1 h2 h3
    obtain ⟨fu, rfl⟩ : ∃ t, fu = t + 1 := ⟨fu - 1, by omega⟩
    have e : xwr ((p : Int) + 1) = ((p + 1 : Nat) : Int) := by rw [xwr_g _ (by omega) (by omega)]; omega
    obtain ⟨Z', q1, q2, q3⟩ := ih (p + 1) fu (xup2 Z (o + 18) p 0) (by omega) (by omega) (fun j hj => by
      by_cases c : j = p
      · rw [c, xup2_s]
      · rw [xup2_n (by omega)]; exact h3 j (by omega))
    refine ⟨Z', ?_, q2, fun a j q => by rw [q3 a j q, xup2_n (by omega)]⟩
    show g298_203b (g298_203 f fu) f _ _ _ _ = _
    unfold g298_203b
    rw [if_neg (by omega), if_pos (by omega), Int.toNat_natCast, Option.bind_some, e]
    exact q1
/-- the edition is taken -/
theorem l_298_ed {G : xG_} {fr nx : Int} {n rd e ed : Nat} (hf : 100 < f) (ho : 122 < o ∧ o < 211) (hn : n < 20) (h17 : G o 17 = (n : Int)) (h2 : G o 2 = (rd : Int)) (h1 : G o 1 = (e : Int)) (h34 : G o 34 = nx) (h4 : G o 4 = (ed : Int)) (hrd : rd < 100000) (hed : ed < 100000) :
    ∃ G', (if 0 ≤ (G o 17) ∧ (G o 17) < 20 then ((some (xup2 G (o + 13) (G o 17).toNat (xwr ((G o 2) + (1))))).bind fun G172 => (if 0 ≤ (G172 (o) 17) ∧ (G172 (o) 17) < 20 then ((some (xup2 G172 (o + 14) (G172 (o) 17).toNat (G172 (o) 1))).bind fun G177 => ((some (xup2 G177 (o) 17 (xwr ((G177 (o) 17) + (1))))).bind fun G181 => ((some (xup2 G181 (o) 1 (G181 (o) 34))).bind fun G185 => ((some (xup2 G185 (o) 4 (xwr ((G185 (o) 4) + (1))))).bind fun G189 => g298_203 f f (o) fr (0) G189)))) else none)) else none) = g298_222 f o fr G' ∧ G' (o + 13) n = ((rd + 1 : Nat) : Int) ∧ G' (o + 14) n = (e : Int) ∧ G' o 17 = ((n + 1 : Nat) : Int) ∧ G' o 1 = nx ∧ G' o 4 = ((ed + 1 : Nat) : Int) ∧ (∀ p, p < 16 → G' (o + 18) p = 0) ∧ ∀ a j, ¬ (a = o ∧ (j = 17 ∨ j = 1 ∨ j = 4)) → ¬ (a = o + 13 ∧ j = n) → ¬ (a = o + 14 ∧ j = n) → a ≠ o + 18 → G' a j = G a j := by
  have e1 : xwr ((rd : Int) + 1) = ((rd + 1 : Nat) : Int) := by rw [xwr_g _ (by omega) (by omega)]; omega
  have e2 : xwr ((n : Int) + 1) = ((n + 1 : Nat) : Int) := by rw [xwr_g _ (by omega) (by omega)]; omega
  have e3 : xwr ((ed : Int) + 1) = ((ed + 1 : Nat) : Int) := by rw [xwr_g _ (by omega) (by omega)]; omega
  let G5 := xup2 (xup2 (xup2 (xup2 (xup2 G (o + 13) n ((rd + 1 : Nat) : Int)) (o + 14) n (e : Int)) o 17 ((n + 1 : Nat) : Int)) o 1 nx) o 4 ((ed + 1 : Nat) : Int)
  obtain ⟨Z, z1, z2, z3⟩ := l_298_203 (f := f) (o := o) (fr := fr) hf (by omega) 16 0 f G5 rfl (by omega) (fun j hj => absurd hj (Nat.not_lt_zero j))
  refine ⟨Z, ?_, ?_, ?_, ?_, ?_, ?_, z2, fun a j q1 q2 q3 q4 => ?_⟩
  · rw [← z1]
    rw [h17, h2, if_pos (by omega), Int.toNat_natCast, e1, Option.bind_some, xup2_n (by omega), h17, if_pos (by omega), Int.toNat_natCast, xup2_n (by omega), h1, Option.bind_some, xup2_n (by omega), xup2_n (by omega), h17, e2, Option.bind_some, xup2_n (by omega), xup2_n (by omega), xup2_n (by omega), h34, Option.bind_some, xup2_n (by omega), xup2_n (by omega), xup2_n (by omega), xup2_n (by omega), h4, e3, Option.bind_some]
    rfl
  · rw [z3 _ _ (by omega)]
    show xup2 _ _ _ _ _ _ = _
    rw [xup2_n (by omega), xup2_n (by omega), xup2_n (by omega), xup2_n (by omega), xup2_s]
  · rw [z3 _ _ (by omega)]
    show xup2 _ _ _ _ _ _ = _
    rw [xup2_n (by omega), xup2_n (by omega), xup2_n (by omega), xup2_s]
  · rw [z3 _ _ (by omega)]
    show xup2 _ _ _ _ _ _ = _
    rw [xup2_n (by omega), xup2_n (by omega), xup2_s]
  · rw [z3 _ _ (by omega)]
    show xup2 _ _ _ _ _ _ = _
    rw [xup2_n (by omega), xup2_s]
  · rw [z3 _ _ (by omega)]
    exact xup2_s _ _ _ _
  · rw [z3 _ _ q4]
    show xup2 _ _ _ _ _ _ = _
    rw [xup2_n (by omega), xup2_n (by omega), xup2_n (by omega), xup2_n (by omega), xup2_n (by omega)]
end
end
