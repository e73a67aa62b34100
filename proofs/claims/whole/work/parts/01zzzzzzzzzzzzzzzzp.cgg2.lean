/-! THE CLASS: reason: gathersGiven() up to its end -/
section
variable {f q nq nx mp rp r p : Nat} {S : Nat → Nat × Nat × Nat} {G0 G : xG_} {m : Nat × Nat} {s : pPg} {xr cr : Nat → Nat} {M : Nat → List pRw} {as : List Int}
theorem k_167g {u : Nat} (hf : 100003010 < f) (hs : cSs S) (hP : cPgm S G0 q nq s) (hok : qOc s) (hM : cMr S G0 nx mp q rp s xr cr M) (hMo : okM8 s M) (hrp : 203 < rp) (hpn : p < s.1.length) (has : as.length = qN s p) (hr : r < s.2.2.2.2.1.length) (hu : G0 (q + 7) r = (u : Int)) (hhd : (s.2.2.2.2.1.getD r dRu).1 = (p : Int)) (hg : (s.2.2.2.2.1.getD r dRu).2.2.1.1 ≠ 0) (hp : cPs G) (hG : ∀ a j, 107 < a → G a j = G0 a j) (hgv : ∀ c, c < as.length → G 105 c = as.getD c 0) :
    ∃ G' fd al, c167 f 93 u rp (S, G, m) = c167_144 f 93 u fd al (S, G', m) ∧ cPs G' ∧ (∀ b j, ¬ (83 ≤ b ∧ b ≤ 92) → b ≠ 103 → G' b j = G b j) ∧ (fd = 0 ∨ fd = 1) ∧ (S u = (1, 6, 20) ∧ 278 < u ∧ G0 u 3 = ((s.2.2.2.2.1.getD r dRu).2.2.1.2.1.toNat : Int) ∧ (s.2.2.2.2.1.getD r dRu).2.2.1.2.1.toNat < as.length ∧ G0 u 4 = qG (s.2.2.2.2.1.getD r dRu) + 9) ∧
      ((∃ ks, gDs (s.2.2.2.2.1.getD r dRu).2.2.2.2.2 (s.2.2.2.2.1.getD r dRu).2.2.2.2.1.length M qO1 (qG (s.2.2.2.2.1.getD r dRu)) (s.2.2.2.2.1.getD r dRu).2.2.1.2.2 (s.2.2.2.2.1.getD r dRu).2.2.2.1 (s.2.2.2.2.1.getD r dRu).2.2.1.2.1.toNat ks as) ↔ fd = 1 ∧ al = as.getD (s.2.2.2.2.1.getD r dRu).2.2.1.2.1.toNat 0 ∧ ¬ (qG (s.2.2.2.2.1.getD r dRu) = 2 ∧ (1000000000000 < al ∨ al < -1000000000000))) := by
  obtain ⟨u', K, pl, ⟨e7, hu8, e0⟩, hR, hI, ⟨h6, hnv⟩, hnd, ⟨dd, hpB⟩, we⟩ := mx_rule hs hP hok hM hMo hrp hr
  have eu : u' = u := by omega
  subst eu
  have hm : s.2.2.2.2.1.getD r dRu ∈ s.2.2.2.2.1 := by rw [getD_e hr]; exact List.getElem_mem hr
  obtain ⟨w1, w2, w3, w4, w5, w6, w7, w8, w9⟩ := hok.1.1.2.2.2.2.2.2 _ hm
  obtain ⟨i1, i2, i3⟩ := ru_it hok hm
  have hsf := (hok.1.2.1 _ hm).1
  have hIl := (hok.1.2.1 _ hm).2
  generalize s.2.2.2.2.1.getD r dRu = ru at *
  have h16 : s.1.length ≤ 16 := hok.1.1.1
  have hN : ru.2.2.2.1.length = qN s p := by
    have := (qN_c hok.1.1 p).1
    rw [hhd] at hIl
    omega
  have hg10 : (10 ≤ ru.2.2.1.1 ∧ ru.2.2.1.1 ≤ 13) ∧ 0 ≤ ru.2.2.1.2.1 ∧ ru.2.2.1.2.1 < ru.2.2.2.1.length ∧ (ru.2.2.1.1 = 10 ∧ ru.2.2.1.2.2 = -1 ∨ ru.2.2.1.1 ≠ 10 ∧ 0 ≤ ru.2.2.1.2.2 ∧ ru.2.2.1.2.2 < ru.2.2.2.2.1.length) := by
    rcases w5.1 with z | z
    · exact absurd z.1 hg
    · exact z
  have hqg : qG ru = ru.2.2.1.1 - 9 := by unfold qG; rw [if_neg hg]
  obtain ⟨gA, hgA⟩ : ∃ gA : Nat, ru.2.2.1.2.1 = (gA : Int) := ⟨ru.2.2.1.2.1.toNat, by omega⟩
  have hGa : G0 u' 3 = (gA : Int) ∧ G0 u' 4 = qG ru + 9 ∧ (qG ru ≠ 1 → G0 u' 5 = ((ru.2.2.1.2.2.toNat : Nat) : Int)) := by
    rcases hI.2.2.2.2 with z | ⟨_, z2, _, z4, z5⟩
    · exact absurd z.1 hg
    · exact ⟨by rw [z2, hgA], by rw [z4, hqg]; omega, fun y => by rw [z5 (by omega)]; omega⟩
  rw [hgA] at i1
  have tgA : ru.2.2.1.2.1.toNat = gA := by omega
  have hn4 := hI.2.1
  have hrk : ∀ l, l < ru.2.2.2.2.2.length → (ru.2.2.2.2.2.getD l dLt).1 ≠ 3 → ∀ r ∈ M (ru.2.2.2.2.2.getD l dLt).2.1.toNat, 0 ≤ r.2 ∧ r.2 ≤ 1700 := fun l hl h3 => by
    obtain ⟨y1, y2⟩ := w9 _ (lt_in hl)
    have y3 := y2 h3
    have y4 : (ru.2.2.2.2.2.getD l dLt).2.1 < s.1.length := by
      rcases y1 with ⟨_, _, z, _⟩ | ⟨z, _⟩
      · exact z
      · exact absurd z h3
    exact (hMo (ru.2.2.2.2.2.getD l dLt).2.1.toNat (by omega)).2.2.2
  obtain ⟨G1, a1, a2, a3, a4, a5, a6, a7, a8, a9, a10, a11⟩ := k_130 (u := u') (fa := rp) (m := m) (G := G) (f := f) (br := 0) (by omega) hs hp (.inl rfl)
  have z1 : ∀ b j, ¬ (83 ≤ b ∧ b ≤ 92) → G1 b j = G b j := fun b j y => a2 b j (by omega) (by omega) (by omega) (by omega)
  have z10 : ∀ b j, 107 < b → G1 b j = G0 b j := fun b j y => by rw [z1 b j (by omega), hG b j y]
  have hE := we G1 0 (fun _ => 0) (fun _ => 1700) a3 (fun a j y => z10 a j y) a4 a5 a6 (fun l hl => ⟨a10 l hl, a11 l hl⟩)
  obtain ⟨V, k, Bf, x1, x2, x3, x4, x5, x6, _⟩ := ways_start hE a7 a8 (b := 0) (vl := fun _ => 0) ⟨a9, by decide, fun k hk => by rw [Nat.zero_testBit] at hk; cases hk⟩ w8 hsf hnd hpB
  obtain ⟨x7, x8⟩ := x6 rfl
  have hall : isAll ru.2.2.2.2.2 ru.2.2.2.2.1.length M qO1 (V.map (vec ru.2.2.2.2.1.length)) := all_of (np := s.1.length) (lo := fun _ => 0) (hi := fun _ => 1700) (fun y hy => (w9 y hy).1) x4 (ways_bits hE a7 a8 a9 x3) hrk (fun v hv => (x5 v hv).2) x7 (fun w hw' => x8 w (fun j hj => by rw [Nat.zero_testBit] at hj; cases hj) hw')
  have hx203 : ∀ p, p < s.1.length → 203 < xr p := fun p hp => (hM.2.2.2.2 p hp).2.1.1
  obtain ⟨G2, fd, al, r1, r2, r3, r4⟩ := k_167l (f := f) (m := m) (I := ru.2.2.2.1) (g := ru.2.2.1) (as := as) (gA := gA) (gO := ru.2.2.1.2.2.toNat) (kk := qG ru) hf hrp hx203 hn4 i1 (by omega) hnv (by omega) (by omega) (fun y => by omega) x4 V [] k 0 f G1 0 0 hE x3 x1 (by omega) (by omega) (by show 0 + V.length ≤ 1000000; omega) (hI.fx hu8 (fun b j y => z10 b j (by omega))) (by rw [z10 _ _ (by omega)]; exact hGa.1) (by rw [z10 _ _ (by omega)]; exact hGa.2.1) (fun y => by rw [z10 _ _ (by omega)]; exact hGa.2.2 y) (fun c hc => by rw [z1 _ _ (by omega)]; exact hgv c hc) (fun v hv => by cases hv) (.inl ⟨rfl, rfl⟩)
  rw [List.nil_append] at r4
  have i83 : cq_is 9 14 83 (S, G, m) = some () := if_pos (s83 hs)
  have st : c167 f 93 u' rp (S, G, m) = c167_144 f 93 u' fd al (S, G2, m) := by
    unfold c167
    rw [o_gr (y := 83) (s93 hs) (p93_0 hp), Option.bind_some, i83, Option.bind_some, a1, Option.bind_some]
    exact r1
  have ed : ∀ ks, gDs ru.2.2.2.2.2 ru.2.2.2.2.1.length M qO1 (qG ru) ((ru.2.2.1.2.2.toNat : Nat) : Int) ru.2.2.2.1 gA ks as ↔ gDs ru.2.2.2.2.2 ru.2.2.2.2.1.length M qO1 (qG ru) ru.2.2.1.2.2 ru.2.2.2.1 gA ks as := fun ks => by
    by_cases c1 : qG ru = 1
    · rw [c1]; exact gDs_1 _ _
    · have : ((ru.2.2.1.2.2.toNat : Nat) : Int) = ru.2.2.1.2.2 := by omega
      rw [this]
  have gi := gds_iff (kk := qG ru) (gO := ((ru.2.2.1.2.2.toNat : Nat) : Int)) (I := ru.2.2.2.1) (gA := gA) (as := as) hall (by omega) (by omega)
  rw [gVs_vec (fun k hk hn => (i1 k hk hn).1) (fun y => by omega)] at gi
  refine ⟨G2, fd, al, st, r3, fun b j y1 y2 => by rw [r2 b j (by omega) (by omega) (by omega) y2, z1 b j y1], ?_, ⟨hR.1.1, hu8, by rw [tgA]; exact hGa.1, by omega, hGa.2.1⟩, ?_⟩
  · rcases r4 with ⟨z, _⟩ | ⟨z, _⟩
    · exact .inl z
    · exact .inr z
  · rw [tgA]
    have e1 : (∃ ks, gDs ru.2.2.2.2.2 ru.2.2.2.2.1.length M qO1 (qG ru) ru.2.2.1.2.2 ru.2.2.2.1 gA ks as) ↔ ∃ ks, gDs ru.2.2.2.2.2 ru.2.2.2.2.1.length M qO1 (qG ru) ((ru.2.2.1.2.2.toNat : Nat) : Int) ru.2.2.2.1 gA ks as := ⟨fun ⟨ks, h⟩ => ⟨ks, (ed ks).mpr h⟩, fun ⟨ks, h⟩ => ⟨ks, (ed ks).mp h⟩⟩
    rw [e1, gi]
    rcases r4 with ⟨rfl, q⟩ | ⟨rfl, q1, q2⟩
    · exact ⟨fun z => absurd q z.1, fun z => absurd z.1 (by decide)⟩
    · rw [← q2]
      constructor
      · rintro ⟨_, y2, y3⟩
        exact ⟨rfl, y2, by rw [y2]; exact y3⟩
      · rintro ⟨_, y2, y3⟩
        exact ⟨q1, y2, by rw [← y2]; exact y3⟩
end
