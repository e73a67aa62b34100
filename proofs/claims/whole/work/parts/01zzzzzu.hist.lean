/-! The past of a line -/
/-- a moment: edition, facts, the texts' numbers of its CELLS; the texts told for CELLS in its round, whether the edition was taken in its round -/
abbrev sMo : Type := Nat × List pFc × (Nat → Nat) × (Nat → Int) × Bool
def hCat {α : Type} (g : Nat → List (Int × α)) (b : Nat) : Nat → List (Int × α)
  | 0 => []
  | k + 1 => hCat g b k ++ g (b + k + 1)
section
variable {α : Type} {g : Nat → List (Int × α)}
theorem hCat_mem (hg : ∀ r, ∀ a ∈ g r, a.1 = (r : Int)) {b : Nat} {a : Int × α} : ∀ k, a ∈ hCat g b k → (b : Int) < a.1 ∧ a.1 ≤ (b : Int) + k
  | 0, h => by cases h
  | k + 1, h => by
    rcases List.mem_append.mp h with q | q
    · have := hCat_mem hg k q
      omega
    · have := hg _ a q
      omega
theorem pw_all {β : Type} {R : β → β → Prop} : ∀ (l : List β), (∀ a ∈ l, ∀ b ∈ l, R a b) → l.Pairwise R
  | [], _ => List.Pairwise.nil
  | x :: l, h => List.Pairwise.cons (fun b hb => h x (List.mem_cons_self ..) b (List.mem_cons_of_mem _ hb)) (pw_all l (fun a ha b hb => h a (List.mem_cons_of_mem _ ha) b (List.mem_cons_of_mem _ hb)))
theorem hCat_S (hg : ∀ r, ∀ a ∈ g r, a.1 = (r : Int)) {b : Nat} : ∀ k, lgS (hCat g b k)
  | 0 => List.Pairwise.nil
  | k + 1 => by
    refine List.pairwise_append.mpr ⟨hCat_S hg k, pw_all _ (fun a ha c hc => ?_), fun a ha c hc => ?_⟩
    · rw [hg _ a ha, hg _ c hc]; omega
    · have := hCat_mem hg k ha
      rw [hg _ c hc]
      omega
theorem hCat_split {b i : Nat} : ∀ k, hCat g b (i + k) = hCat g b i ++ hCat g (b + i) k
  | 0 => (List.append_nil _).symm
  | k + 1 => by
    show hCat g b (i + k) ++ g (b + (i + k) + 1) = hCat g b i ++ (hCat g (b + i) k ++ g (b + i + k + 1))
    rw [hCat_split k, List.append_assoc, Nat.add_assoc b i k]
theorem hCat_K (hg : ∀ r, ∀ a ∈ g r, a.1 = (r : Int)) {b i k : Nat} : lgK ((b + i : Nat) : Int) (hCat g b (i + k)) = hCat g (b + i) k := by
  unfold lgK
  rw [hCat_split, List.filter_append]
  have h1 : (hCat g b i).filter (fun a => decide (((b + i : Nat) : Int) < a.1)) = [] := by
    rw [List.filter_eq_nil_iff]
    intro a ha
    have := hCat_mem hg i ha
    rw [decide_eq_true_iff]
    omega
  have h2 : (hCat g (b + i) k).filter (fun a => decide (((b + i : Nat) : Int) < a.1)) = hCat g (b + i) k := by
    rw [List.filter_eq_self]
    intro a ha
    have := hCat_mem hg k ha
    rw [decide_eq_true_iff]
    omega
  rw [h1, h2, List.nil_append]
end
/-- what came and went in round r; the CELLS told; the edition taken -/
def hLg (H : Nat → sMo) (r : Nat) : List pLg := lgR (r : Int) (H r).2.1 (H (r - 1)).2.1
def hCg (H : Nat → sMo) (r : Nat) : List pCg := cgN (r : Int) (H (r - 1)).2.2.1 (H r).2.2.2.1 72
def hEg (H : Nat → sMo) (r : Nat) : List pEg := if (H r).2.2.2.2 = true then [((r : Int), ((H (r - 1)).1 : Int))] else []
theorem hLg_r (H : Nat → sMo) : ∀ r, ∀ a ∈ hLg H r, a.1 = (r : Int) := fun r a ha => by
  unfold hLg lgR at ha
  rcases List.mem_append.mp ha with q | q
  · exact (lgD_mem.mp q).1
  · exact (lgD_mem.mp q).1
theorem cgN_r {rd : Int} {K : Nat → Nat} {W : Nat → Int} {a : pCg} : ∀ x, a ∈ cgN rd K W x → a.1 = rd ∧ ∃ c, c < x ∧ W c ≠ -1 ∧ a.2.1 = (c : Int) ∧ a.2.2 = (K c : Int)
  | 0, h => by cases h
  | x + 1, h => by
    unfold cgN at h
    rcases List.mem_append.mp h with q | q
    · obtain ⟨h1, c, c1, c2⟩ := cgN_r x q
      exact ⟨h1, c, by omega, c2⟩
    · by_cases d : W x = -1
      · rw [if_pos d] at q; cases q
      · rw [if_neg d] at q
        rw [List.mem_singleton.mp q]
        exact ⟨rfl, x, Nat.lt_succ_self x, d, rfl, rfl⟩
theorem hCg_r (H : Nat → sMo) : ∀ r, ∀ a ∈ hCg H r, a.1 = (r : Int) := fun r a ha => (cgN_r 72 ha).1
theorem hEg_r (H : Nat → sMo) : ∀ r, ∀ a ∈ hEg H r, a.1 = (r : Int) := fun r a ha => by
  unfold hEg at ha
  by_cases c : (H r).2.2.2.2 = true
  · rw [if_pos c] at ha
    rw [List.mem_singleton.mp ha]
  · rw [if_neg c] at ha; cases ha
/-- a history that hangs together, rounds b to b + k -/
def hSt (H : Nat → sMo) (b k : Nat) : Prop := ∀ r, b < r → r ≤ b + k → ((H r).2.2.2.2 ≠ true → (H r).1 = (H (r - 1)).1) ∧ (H r).2.2.1 = kNx (H (r - 1)).2.2.1 (H r).2.2.2.1 72
/-- its facts -/
def hFc (H : Nat → sMo) (b k : Nat) : Prop := ∀ r, b ≤ r → r ≤ b + k → (H r).2.1.Pairwise fLt ∧ (H r).2.1.length ≤ 1600
section
variable {f o h : Nat} {H : Nat → sMo}
theorem l_311_16 {L : List pLg} {r : Nat} (hf : 12100 < f) (hh : h < 4) (ho : o = 123 + 29 * h) {L0 : List pLg} (h0 : ∀ a ∈ L0, a.1 ≤ (r : Int)) : ∀ (k fu : Nat) (G : xG_) (L1 : List pLg), L = (L0 ++ hCat (hLg H) r k) ++ L1 → (L0 ++ hCat (hLg H) r k).length < fu → rLg G o L → hFc H r k → rFa G 253 (H (r + k)).2.1 →
    ∃ G', g311_16 f fu o (r : Int) 253 (((L0 ++ hCat (hLg H) r k).length : Int) - 1) G = g311_103 f o (r : Int) G' ∧ rFa G' 253 (H r).2.1 ∧ xfy 253 G G' := by
  intro k
  induction k with
  | zero =>
    intro fu G L1 h1 h2 h3 h4 h5
    obtain ⟨fu, rfl⟩ : ∃ t, fu = t + 1 := ⟨fu - 1, by omega⟩
    have en : L0 ++ hCat (hLg H) r 0 = L0 := List.append_nil _
    rw [en] at h1 ⊢
    refine ⟨G, ?_, h5, fun _ _ _ _ _ _ => rfl⟩
    show g311_16b (g311_16 f fu) f o (r : Int) 253 ((L0.length : Int) - 1) G = _
    unfold g311_16b
    by_cases c : L0.length = 0
    · rw [if_pos (by omega)]
    · have hl := h3.2.1
      have hL : L.length = L0.length + L1.length := by rw [h1, List.length_append]
      obtain ⟨q1, _⟩ := h3.2.2 (L0.length - 1) (by omega)
      have e1 : ((L0.length : Int) - 1).toNat = L0.length - 1 := by omega
      have hm : L.getD (L0.length - 1) dLg ∈ L0 := by
        rw [h1, getD_app _ (by omega), getD_e (by omega)]
        exact List.getElem_mem _
      have := h0 _ hm
      rw [if_neg (by omega), if_pos (by omega), e1, q1, if_pos this]
  | succ k ih =>
    intro fu G L1 h1 h2 h3 h4 h5
    have e1 : L0 ++ hCat (hLg H) r (k + 1) = (L0 ++ hCat (hLg H) r k) ++ hLg H (r + k + 1) := (List.append_assoc _ _ _).symm
    have hL : L = (L0 ++ hCat (hLg H) r k) ++ (hLg H (r + k + 1) ++ L1) := by rw [h1, e1, List.append_assoc]
    have hlL : L.length = (L0 ++ hCat (hLg H) r k).length + ((hLg H (r + k + 1)).length + L1.length) := by rw [hL]; simp only [List.length_append]
    have el : (L0 ++ hCat (hLg H) r (k + 1)).length = (L0 ++ hCat (hLg H) r k).length + (hLg H (r + k + 1)).length := by rw [e1, List.length_append]
    obtain ⟨f1, f2⟩ := h4 (r + (k + 1)) (by omega) (by omega)
    obtain ⟨f3, f4⟩ := h4 (r + k) (by omega) (by omega)
    have hn : gbN L (L0 ++ hCat (hLg H) r k).length (hLg H (r + k + 1)).length ≤ 1600 := by
      have := gbN_is (L0 := L0 ++ hCat (hLg H) r k) (L1 := hLg H (r + k + 1)) (L2 := L1) (hLg H (r + k + 1)).length (Nat.le_refl _)
      rw [hL, this, List.take_length]
      have h6 : (hLg H (r + k + 1)).countP (fun x => ! decide (0 < x.2.1)) ≤ (H (r + k + 1 - 1)).2.1.length := lgR_n
      rw [show r + k + 1 - 1 = r + k by omega] at h6
      omega
    obtain ⟨G1, F1, k1, k2, k3, k4, k5⟩ := l_311_seg (f := f) (L := L) (r := (r : Int)) (b := (L0 ++ hCat (hLg H) r k).length) (by omega) hh ho (hLg H (r + k + 1)).length fu G (H (r + (k + 1))).2.1 (by omega) (by omega) (fun i i1 i2 => by
      obtain ⟨j, hj⟩ : ∃ j, i = (L0 ++ hCat (hLg H) r k).length + j := ⟨i - (L0 ++ hCat (hLg H) r k).length, by omega⟩
      rw [hL, hj, getD_apr, getD_app _ (by omega), getD_e (by omega)]
      rw [hLg_r H _ _ (List.getElem_mem _)]
      omega) h3 h5 f1 (by omega)
    have hF : F1 = (H (r + k)).2.1 := by
      refine srt_ext fLt_irr (fun _ _ _ => fLt_tr) _ _ k3 f3 (fun y => ?_)
      rw [k4 y, hL, gbI_is _ _ (Nat.le_refl _), List.take_length]
      have := gbP_lgR (rd := ((r + k + 1 : Nat) : Int)) (A := (H (r + k + 1)).2.1) (B := (H (r + k + 1 - 1)).2.1) y
      rw [show r + k + 1 - 1 = r + k by omega] at this
      unfold hLg
      rw [show r + k + 1 - 1 = r + k by omega]
      exact this
    rw [hF] at k2
    obtain ⟨G', u1, u2, u3⟩ := ih (fu - (hLg H (r + k + 1)).length) G1 (hLg H (r + k + 1) ++ L1) hL (by omega) (h3.ge (k5 _ _ (by omega) (by omega) (by omega) (by omega)) (fun a j _ _ => k5 _ _ (by omega) (by omega) (by omega) (by omega))) (fun i i1 i2 => h4 i i1 (by omega)) k2
    refine ⟨G', ?_, u2, fun a j z1 z2 z3 z4 => by rw [u3 a j z1 z2 z3 z4, k5 a j z1 z2 z3 z4]⟩
    rw [el, k1]
    exact u1
theorem l_311_117 {E : List pEg} {r : Nat} (hh : h < 4) (ho : o = 123 + 29 * h) {E0 : List pEg} (h0 : ∀ a ∈ E0, a.1 ≤ (r : Int)) {G : xG_} (h3 : rEg G o E) : ∀ (k fu : Nat) (E1 : List pEg), E = (E0 ++ hCat (hEg H) r k) ++ E1 → (E0 ++ hCat (hEg H) r k).length < fu → hSt H r k →
    g311_117 f fu o (r : Int) ((H (r + k)).1 : Int) (((E0 ++ hCat (hEg H) r k).length : Int) - 1) G = some (((H r).1 : Int), G) := by
  have hl := h3.2.1
  intro k
  induction k with
  | zero =>
    intro fu E1 h1 h2 h4
    obtain ⟨fu, rfl⟩ : ∃ t, fu = t + 1 := ⟨fu - 1, by omega⟩
    have en : E0 ++ hCat (hEg H) r 0 = E0 := List.append_nil _
    rw [en] at h1 ⊢
    show g311_117b (g311_117 f fu) f o (r : Int) ((H r).1 : Int) ((E0.length : Int) - 1) G = _
    unfold g311_117b g311_148
    by_cases c : E0.length = 0
    · rw [if_pos (by omega)]
    · have hL : E.length = E0.length + E1.length := by rw [h1, List.length_append]
      obtain ⟨q1, _⟩ := h3.2.2 (E0.length - 1) (by omega)
      have e1 : ((E0.length : Int) - 1).toNat = E0.length - 1 := by omega
      have hm : E.getD (E0.length - 1) (0, 0) ∈ E0 := by
        rw [h1, getD_app _ (by omega), getD_e (by omega)]
        exact List.getElem_mem _
      have := h0 _ hm
      rw [if_neg (by omega), if_pos (by omega), e1, q1, if_pos this]
  | succ k ih =>
    intro fu E1 h1 h2 h4
    have e1 : E0 ++ hCat (hEg H) r (k + 1) = (E0 ++ hCat (hEg H) r k) ++ hEg H (r + k + 1) := (List.append_assoc _ _ _).symm
    obtain ⟨s1, s2⟩ := h4 (r + k + 1) (by omega) (by omega)
    rw [show r + k + 1 - 1 = r + k by omega] at s1
    have hE : E = (E0 ++ hCat (hEg H) r k) ++ (hEg H (r + k + 1) ++ E1) := by rw [h1, e1, List.append_assoc]
    have h4' : hSt H r k := fun i i1 i2 => h4 i i1 (by omega)
    by_cases c : (H (r + k + 1)).2.2.2.2 = true
    · have eb : hEg H (r + k + 1) = [(((r + k + 1 : Nat) : Int), ((H (r + k)).1 : Int))] := by
        unfold hEg
        rw [if_pos c, show r + k + 1 - 1 = r + k by omega]
      have el : (E0 ++ hCat (hEg H) r (k + 1)).length = (E0 ++ hCat (hEg H) r k).length + 1 := by rw [e1, List.length_append, eb]; rfl
      have hL : E.length = (E0 ++ hCat (hEg H) r k).length + (1 + E1.length) := by rw [hE]; simp only [List.length_append, eb, List.length_singleton]
      have hg : E.getD (E0 ++ hCat (hEg H) r k).length (0, 0) = (((r + k + 1 : Nat) : Int), ((H (r + k)).1 : Int)) := by
        have := getD_apr (l := E0 ++ hCat (hEg H) r k) (d := ((0, 0) : pEg)) (hEg H (r + k + 1) ++ E1) 0
        rw [hE]
        refine Eq.trans (b := (hEg H (r + k + 1) ++ E1).getD 0 (0, 0)) this ?_
        rw [eb]
        rfl
      obtain ⟨q1, q2⟩ := h3.2.2 (E0 ++ hCat (hEg H) r k).length (by omega)
      rw [hg] at q1 q2
      obtain ⟨fu, rfl⟩ : ∃ t, fu = t + 1 := ⟨fu - 1, by omega⟩
      have en : (((E0 ++ hCat (hEg H) r k).length + 1 : Nat) : Int) - 1 = ((E0 ++ hCat (hEg H) r k).length : Int) := by omega
      have ew : xwr (((E0 ++ hCat (hEg H) r k).length : Int) + -1) = ((E0 ++ hCat (hEg H) r k).length : Int) - 1 := by rw [xwr_g _ (by omega) (by omega)]; omega
      rw [el, en]
      show g311_117b (g311_117 f fu) f o (r : Int) ((H (r + (k + 1))).1 : Int) ((E0 ++ hCat (hEg H) r k).length : Int) G = _
      unfold g311_117b
      rw [if_neg (by omega), if_pos (by omega), Int.toNat_natCast, q1, if_neg (by show ¬ ((r + k + 1 : Nat) : Int) ≤ (r : Int); omega), if_pos (by omega), q2, ew]
      exact ih fu (hEg H (r + k + 1) ++ E1) hE (by omega) h4'
    · have eb : hEg H (r + k + 1) = [] := by
        unfold hEg
        rw [if_neg c]
      have el : E0 ++ hCat (hEg H) r (k + 1) = E0 ++ hCat (hEg H) r k := by rw [e1, eb, List.append_nil]
      rw [el, show r + (k + 1) = r + k + 1 by omega, s1 c]
      exact ih fu E1 (by rw [h1, el]) (by rw [← el]; exact h2) h4'
/-- the logs of the history, from round b on -/
def rPa (G : xG_) (o : Nat) (H : Nat → sMo) (b k : Nat) : Prop := rHi G o (hCat (hLg H) b k) (hCat (hCg H) b k) (hCat (hEg H) b k)
/-- goBack -/
theorem l_311 {G : xG_} {b i k : Nat} (hf : 12100 < f) (hh : h < 4) (ho : o = 123 + 29 * h) (hP : rPa G o H b (i + k)) (hs : hSt H b (i + k)) (hF : hFc H b (i + k)) (h1 : G o 1 = ((H (b + (i + k))).1 : Int)) (hFa : rFa G (o + 1) (H (b + (i + k))).2.1) :
    ∃ G', g311 f o ((b + i : Nat) : Int) 253 G = some (((H (b + i)).1 : Int), G') ∧ rFa G' 253 (H (b + i)).2.1 ∧ xfy 253 G G' := by
  obtain ⟨hL, hC, hE, _⟩ := hP
  have hb : isFb (o + 1) := by unfold isFb; omega
  obtain ⟨G1, k1, k2, k3⟩ := l_194 (f := f) (b := 253) (b1 := o + 1) (by omega) (by unfold isFb; omega) hb (by omega) hFa
  have z : ∀ a j, a < 253 → G1 a j = G a j := fun a j q => k3 a j (by omega) (by omega) (by omega) (by omega)
  have hL1 : rLg G1 o (hCat (hLg H) b (i + k)) := hL.ge (z _ _ (by omega)) (fun a j _ _ => z _ _ (by omega))
  have eL : hCat (hLg H) b (i + k) = (hCat (hLg H) b i ++ hCat (hLg H) (b + i) k) ++ [] := by rw [List.append_nil, hCat_split]
  have eE : hCat (hEg H) b (i + k) = (hCat (hEg H) b i ++ hCat (hEg H) (b + i) k) ++ [] := by rw [List.append_nil, hCat_split]
  have hl := hL.2.1
  have hlE := hE.2.1
  have e10 : G1 o 10 = ((hCat (hLg H) b i ++ hCat (hLg H) (b + i) k).length : Int) := by
    rw [z _ _ (by omega), hL.1, hCat_split]
  have hlen : (hCat (hLg H) b i ++ hCat (hLg H) (b + i) k).length ≤ 12000 := by rw [← hCat_split]; exact hl
  have hlenE : (hCat (hEg H) b i ++ hCat (hEg H) (b + i) k).length ≤ 20 := by rw [← hCat_split]; exact hlE
  have ew : xwr (((hCat (hLg H) b i ++ hCat (hLg H) (b + i) k).length : Int) - 1) = ((hCat (hLg H) b i ++ hCat (hLg H) (b + i) k).length : Int) - 1 := xwr_g _ (by omega) (by omega)
  obtain ⟨G2, u1, u2, u3⟩ := l_311_16 (f := f) (H := H) (r := b + i) (L0 := hCat (hLg H) b i) hf hh ho (fun a ha => by
    have := hCat_mem (hLg_r H) i ha
    omega) k f G1 [] eL (by omega) hL1 (fun r r1 r2 => hF r (by omega) (by omega)) (by rw [show b + i + k = b + (i + k) by omega]; exact k2)
  have z2 : ∀ a j, a < 253 → G2 a j = G a j := fun a j q => by rw [u3 a j (by omega) (by omega) (by omega) (by omega)]; exact z a j q
  refine ⟨G2, ?_, u2, fun a j q1 q2 q3 q4 => by rw [u3 a j q1 q2 q3 q4, k3 a j q1 q2 q3 q4]⟩
  unfold g311
  rw [k1, Option.bind_some, e10, ew, u1]
  unfold g311_103
  have e17 : G2 o 17 = ((hCat (hEg H) b i ++ hCat (hEg H) (b + i) k).length : Int) := by
    rw [z2 _ _ (by omega), hE.1, hCat_split]
  have ew2 : xwr (((hCat (hEg H) b i ++ hCat (hEg H) (b + i) k).length : Int) - 1) = ((hCat (hEg H) b i ++ hCat (hEg H) (b + i) k).length : Int) - 1 := xwr_g _ (by omega) (by omega)
  rw [z2 _ _ (by omega), h1, e17, ew2, show b + (i + k) = b + i + k by omega]
  exact l_311_117 (f := f) hh ho (E0 := hCat (hEg H) b i) (fun a ha => by
    have := hCat_mem (hEg_r H) i ha
    omega) (hE.ge (z2 _ _ (by omega)) (fun a j _ _ => z2 _ _ (by omega))) k f [] eE (by omega) (fun r r1 r2 => hs r (by omega) (by omega))
end
