/-! THE CLASS: findRange() whole -/
section
variable {f u x l st b nv W cap fa fn p : Nat} {S : Nat → Nat × Nat × Nat} {G G' : xG_} {m : Nat × Nat} {K T : pCd} {R : List pRw} {lo hi : Int} {vl : Nat → Int}
/-- where a LITERAL's rows are found -/
def cFs (S : Nat → Nat × Nat × Nat) (G : xG_) (u l fa fn p x : Nat) : Prop := G 83 4 = (fa : Int) ∧ S fa = (2, 10, fn) ∧ p < fn ∧ G fa p = (x : Int) ∧ G (u + 3) l = (p : Int) ∧ 92 < fa
theorem cFs.ge (h : cFs S G u l fa fn p x) (hu : 278 < u) (h4 : G' 83 4 = G 83 4) (hf : ∀ a j, 92 < a → G' a j = G a j) : cFs S G' u l fa fn p x := by
  obtain ⟨h1, h2, h3, h4', h5, h6⟩ := h
  exact ⟨by rw [h4]; exact h1, h2, h3, by rw [hf _ _ h6]; exact h4', by rw [hf _ _ (by omega)]; exact h5, h6⟩
/-- the values of the first columns that are known -/
def isKl (T : pCd) (b : Nat) (vl : Nat → Int) (kl : List Int) : Prop := kl.length ≤ T.length ∧ ∀ c, c < kl.length → ((T.getD c (0, 0)).1 = 3 ∧ kl.getD c 0 = (T.getD c (0, 0)).2) ∨ ((T.getD c (0, 0)).1 = 1 ∧ b.testBit (T.getD c (0, 0)).2.toNat = true ∧ kl.getD c 0 = vl (T.getD c (0, 0)).2.toNat)
theorem isKl.add {kl : List Int} {z : Int} (h : isKl T b vl kl) (hl : kl.length < T.length) (hz : ((T.getD kl.length (0, 0)).1 = 3 ∧ z = (T.getD kl.length (0, 0)).2) ∨ ((T.getD kl.length (0, 0)).1 = 1 ∧ b.testBit (T.getD kl.length (0, 0)).2.toNat = true ∧ z = vl (T.getD kl.length (0, 0)).2.toNat)) : isKl T b vl (kl ++ [z]) := by
  refine ⟨by rw [len1]; omega, fun c hc => ?_⟩
  rw [len1] at hc
  rw [getD_1]
  by_cases q : c = kl.length
  · rw [if_pos q, q]; exact hz
  · rw [if_neg q]; exact h.2 c (by omega)
theorem k_134l (h0 : ∀ y ∈ T, wT1 nv y) (hnv : nv ≤ 8) : ∀ (d c fu : Nat) (G : xG_) (kl : List Int), c + d = T.length → kl.length = c → d < fu → cWy S G u K → cTl1 G u l T → G 83 6 = (st : Int) → st < 8 → G 87 st = (b : Int) → b < 2 ^ 8 → (∀ k, b.testBit k = true → G 84 k = vl k) → isKl T b vl kl → (∀ k, k < kl.length → G 91 k = kl.getD k 0) → ∃ G' kl', c134_2 f fu 83 (l : Int) (c : Int) (S, G, m) = c134_129 f 83 (l : Int) (kl'.length : Int) (S, G', m) ∧ (∀ a k, a ≠ 91 → G' a k = G a k) ∧ isKl T b vl kl' ∧ ∀ k, k < kl'.length → G' 91 k = kl'.getD k 0 := by
  intro d
  induction d with
  | zero =>
    intro c fu G kl e1 e2 e3 hW hT h6 hst hb hb8 hv hk hg
    obtain ⟨fu, rfl⟩ : ∃ t, fu = t + 1 := ⟨fu - 1, by omega⟩
    obtain ⟨a1, a2, a3, a4, a5, a6, a7, a8⟩ := hW
    have hc : c = T.length := by omega
    refine ⟨G, kl, ?_, fun _ _ _ => rfl, hk, hg⟩
    rw [e2, hc]
    exact st_134z (r := c134_2 f fu) a1 a3 a4 a5.1 a5.2.2.2.2.1 a6.2.2.2.1 hT.1 hT.2.1
  | succ d ih =>
    intro c fu G kl e1 e2 e3 hW hT h6 hst hb hb8 hv hk hg
    obtain ⟨fu, rfl⟩ : ∃ t, fu = t + 1 := ⟨fu - 1, by omega⟩
    obtain ⟨a1, a2, a3, a4, a5, a6, a7, a8⟩ := id hW
    obtain ⟨t1, t2, t3, t4⟩ := id hT
    have hc : c < T.length := by omega
    have hm : T.getD c (0, 0) ∈ T := by rw [getD_e hc]; exact List.getElem_mem hc
    have hw1 := h0 _ hm
    have htm := t4 c hc
    have e4 : xwr ((xwr (4 * (l : Int))) + (c : Int)) = ((4 * l + c : Nat) : Int) := by rw [xwr_g (4 * (l : Int)) (by omega) (by omega), xwr_g _ (by omega) (by omega)]; omega
    have ec : xwr ((c : Int) + 1) = ((c + 1 : Nat) : Int) := by rw [xwr_g _ (by omega) (by omega)]; omega
    have next : ∀ z : Int, isKl T b vl (kl ++ [z]) → ∃ G' kl', c134_2 f fu 83 (l : Int) ((c + 1 : Nat) : Int) (S, xup2 G 91 c z, m) = c134_129 f 83 (l : Int) (kl'.length : Int) (S, G', m) ∧ (∀ a k, a ≠ 91 → G' a k = G a k) ∧ isKl T b vl kl' ∧ ∀ k, k < kl'.length → G' 91 k = kl'.getD k 0 := fun z hz => by
      have zz : ∀ a k, a ≠ 91 → xup2 G 91 c z a k = G a k := fun a k y => xup2_n (by omega)
      obtain ⟨G2, kl2, g1, g2, g3, g4⟩ := ih (c + 1) fu (xup2 G 91 c z) (kl ++ [z]) (by omega) (by rw [len1]; omega) (by omega) (hW.ge (fun a k _ _ _ _ _ y _ _ => zz a k y)) (hT.ge (fun a j _ _ => zz _ _ (by omega))) (by rw [zz _ _ (by omega)]; exact h6) hst (by rw [zz _ _ (by omega)]; exact hb) hb8 (fun k hk => by rw [zz _ _ (by omega)]; exact hv k hk) hz (fun k hk => by
        rw [len1] at hk
        rw [getD_1]
        by_cases q : k = kl.length
        · rw [if_pos q, q, e2, xup2_s]
        · rw [if_neg q, xup2_n (by omega)]; exact hg k (by omega))
      exact ⟨G2, kl2, g1, fun a k y => by rw [g2 a k y, zz a k y], g3, g4⟩
    rcases htm with ⟨m1, m2, m3⟩ | ⟨m1, m2⟩ | ⟨m1, m2, m3⟩
    · have hvv : 0 ≤ (T.getD c (0, 0)).2 ∧ (T.getD c (0, 0)).2 < nv := by
        rcases hw1 with q1 | q1 | q1
        · exact q1.2
        · omega
        · omega
      obtain ⟨vn, hvn⟩ : ∃ vn : Nat, (T.getD c (0, 0)).2 = (vn : Int) := ⟨(T.getD c (0, 0)).2.toNat, by omega⟩
      rw [hvn] at m3
      have st1 : c134_2 f (fu + 1) 83 (l : Int) (c : Int) (S, G, m) = _ := st_134v (r := c134_2 f fu) a1 a2 a3 h6 (by omega) hb hb8 a4 a5.1 a5.2.2.2.2.1 a5.2.2.2.2.2.1 a5.2.2.2.2.2.2.1 a6.2.2.2.1 a6.2.2.2.2.1 a6.2.2.2.2.2.1 t1 t2 hc (by omega) e4 (by omega) m2 m3 (by omega : vn < 8) (xwr_g _ (by omega) (by omega)) rfl ec
      by_cases q : b.testBit vn = true
      · rw [if_pos q] at st1
        obtain ⟨G2, kl2, g1, g2, g3, g4⟩ := next (G 84 vn) (hk.add (by omega) (by rw [e2, hvn, Int.toNat_natCast]; exact .inr ⟨m1, q, hv vn q⟩))
        exact ⟨G2, kl2, st1.trans g1, g2, g3, g4⟩
      · rw [if_neg q, ← e2] at st1
        rw [← e2]
        exact ⟨G, kl, st1, fun _ _ _ => rfl, hk, hg⟩
    · have st1 : c134_2 f (fu + 1) 83 (l : Int) (c : Int) (S, G, m) = _ := st_134a (r := c134_2 f fu) a1 a3 a4 a5.1 a5.2.2.2.2.1 a5.2.2.2.2.2.1 a6.2.2.2.1 a6.2.2.2.2.1 t1 t2 hc e4 (by omega) m2
      rw [← e2] at st1 ⊢
      exact ⟨G, kl, st1, fun _ _ _ => rfl, hk, hg⟩
    · have st1 : c134_2 f (fu + 1) 83 (l : Int) (c : Int) (S, G, m) = _ := st_134n (r := c134_2 f fu) a1 a2 a3 a4 a5.1 a5.2.2.2.2.1 a5.2.2.2.2.2.1 a5.2.2.2.2.2.2.1 a6.2.2.2.1 a6.2.2.2.2.1 a6.2.2.2.2.2.1 t1 t2 hc (by omega) e4 (by omega) m2 m3 ec
      obtain ⟨G2, kl2, g1, g2, g3, g4⟩ := next (T.getD c (0, 0)).2 (hk.add (by omega) (by rw [e2]; exact .inl ⟨m1, rfl⟩))
      exact ⟨G2, kl2, st1.trans g1, g2, g3, g4⟩
/-- first and last of the rows that may fit -/
def isRn (R : List pRw) (T : pCd) (b : Nat) (vl : Nat → Int) (fi la : Nat) : Prop := fi ≤ R.length ∧ la ≤ R.length ∧ ∃ kl, isKl T b vl kl ∧ ∀ i, i < R.length → (R.getD i dRw).1.take kl.length = kl → fi ≤ i ∧ i < la
theorem k_134 (hf : 600 < f) (h : cLv S G u x l st b nv W cap K T R lo hi) (hF : cFs S G u l fa fn p x) (hs : R.Pairwise rwLt) (hv : ∀ k, b.testBit k = true → G 84 k = vl k) : ∃ G' fi la, c134 f 83 (l : Int) (S, G, m) = some (S, G', m) ∧ (∀ a j, a ≠ 88 → a ≠ 89 → a ≠ 90 → a ≠ 91 → G' a j = G a j) ∧ (∀ a j, j ≠ st → 88 ≤ a → a ≤ 90 → G' a j = G a j) ∧ G' 88 st = ((fi : Nat) : Int) ∧ G' 89 st = (fi : Int) ∧ G' 90 st = ((la : Nat) : Int) ∧ isRn R T b vl fi la := by
  obtain ⟨h1, h2, h3, h4, h5, h6, h7, h8, h9, h10, h11, h12, h13⟩ := h
  have hu := h1.2.2.2.1
  obtain ⟨G1, kl, e1, e2, e3, e4⟩ := k_134l (f := f) (m := m) (K := K) h6 h7 T.length 0 f G [] (by omega) rfl (by have := h2.2.2.1; omega) h1 h2 h8 h9 h10 h11 hv ⟨Nat.zero_le _, fun c hc => absurd hc (Nat.not_lt_zero c)⟩ (fun k hk => absurd hk (Nat.not_lt_zero k))
  have hW1 : cWy S G1 u K := h1.ge (fun a k _ _ _ _ _ y _ _ => e2 a k y)
  have hR1 : cRw S G1 x W cap R := h3.ge (fun _ _ _ => rfl) (fun j => e2 _ _ (by omega)) (fun j => e2 _ _ (by omega)) (fun j => e2 _ _ (by omega))
  have hkW : kl.length ≤ W := by have := e3.1; omega
  have h4T := h2.2.2.1
  have hK1 : cKl S G1 91 kl := ⟨⟨4, s91 h1.1, by have := e3.1; omega⟩, e4⟩
  obtain ⟨fi, f1, f2⟩ := k_73 (f := f) (m := m) (ab := 0) hf hR1 hs hkW hK1
  have hF1 : cFs S G1 u l fa fn p x := hF.ge hu (e2 _ _ (by omega)) (fun a j y => e2 _ _ (by omega))
  obtain ⟨q1, q2, q3, q4, q5, q6⟩ := hF1
  have t1 := st_134r (f := f) (m := m) h1.1 hW1.2.1 hW1.2.2.1 q1 hu h1.2.2.2.2.1.1 h1.2.2.2.2.1.2.2.2.1 hW1.2.2.2.2.2.1.2.2.1 h2.1 q5 q2 q3 q4 (by rw [e2 _ _ (by omega)]; exact h8) h3.1 h4 f1
  have z1 : ∀ a k, a ≠ 88 → xup2 G1 88 st (fi : Int) a k = G1 a k := fun a k y => xup2_n (by omega)
  have hR2 : cRw S (xup2 G1 88 st (fi : Int)) x W cap R := hR1.ge (fun _ _ _ => rfl) (fun j => z1 _ _ (by omega)) (fun j => z1 _ _ (by omega)) (fun j => z1 _ _ (by omega))
  have hK2 : cKl S (xup2 G1 88 st (fi : Int)) 91 kl := ⟨hK1.1, fun c hc => by rw [z1 _ _ (by omega)]; exact e4 c hc⟩
  obtain ⟨la, l1, l2⟩ := k_73 (f := f) (m := m) (ab := 1) hf hR2 hs hkW hK2
  have t2 := st_134s (f := f) (m := m) h1.1 hW1.2.1 (by rw [e2 _ _ (by omega)]; exact h8) h9 h3.1 l1
  refine ⟨_, fi, la, e1.trans (t1.trans t2), fun a j y1 y2 y3 y4 => by rw [xup2_n (by omega), xup2_n (by omega), xup2_n (by omega), e2 a j y4], fun a j y1 y2 y3 => by rw [xup2_n (by omega), xup2_n (by omega), xup2_n (by omega), e2 a j (by omega)], by rw [xup2_n (by omega), xup2_n (by omega), xup2_s], xup2_s _ _ _ _, by rw [xup2_n (by omega), xup2_s], f2.1, l2.1, kl, e3, fun i hi he => ?_⟩
  refine ⟨Nat.le_of_not_lt (fun y => ?_), Nat.lt_of_not_le (fun y => ?_)⟩
  · have := f2.2.1 i y
    rw [he, vCmp_self] at this
    omega
  · have := l2.2.2 i y hi
    rw [he, vCmp_self] at this
    omega
/-- a row that fits lies there -/
theorem isKl.fit {kl : List Int} {r : pRw} {b' : Nat} {vl' : Nat → Int} (h : isKl T b vl kl) (hT : ∀ y ∈ T, wT1 nv y) (hl : r.1.length = T.length) (hf : fitR T lo hi b vl r = some (b', vl')) : r.1.take kl.length = kl := by
  unfold fitR at hf
  split at hf
  · obtain ⟨m1, m2, m3, m4⟩ := mtc_ok T r.1 b vl b' vl' hT (by omega) hf
    refine List.ext_getElem (by rw [List.length_take]; have := h.1; omega) (fun c c1 c2 => ?_)
    rw [List.getElem_take]
    have hk := h.2 c c2
    have hs := m3 c (by have := h.1; omega)
    rw [getD_e c2] at hk
    have hcr : c < r.1.length := by have := h.1; omega
    rw [getD_e hcr] at hs
    rcases hk with ⟨q1, q2⟩ | ⟨q1, q2, q3⟩
    · rw [q2, hs.2 q1]
    · rw [q3, ← m2 _ q2, hs.1 q1]
  · cases hf
end
