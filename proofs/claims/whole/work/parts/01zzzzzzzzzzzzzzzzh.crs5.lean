/-! THE CLASS: reason: findWay() whole -/
theorem qMk_get {I : List pCd} {v : Nat → Int} : ∀ (n : Nat) (xs : List Int), qMk I (-1) v n = some xs → ∀ c, c < n → qEv v (I.getD c []) = some (xs.getD c 0)
  | 0, xs, _ => fun c hc => absurd hc (Nat.not_lt_zero _)
  | n + 1, xs, h => by
    have h' : ((qMk I (-1) v n).bind fun xs => if (n : Int) = -1 then some (xs ++ [0]) else (qEv v (I.getD n [])).bind fun z => some (xs ++ [z])) = some xs := h
    cases hq : qMk I (-1) v n with
    | none => rw [hq] at h'; cases h'
    | some ys =>
      rw [hq, Option.bind_some, if_neg (by omega)] at h'
      cases he : qEv v (I.getD n []) with
      | none => rw [he] at h'; cases h'
      | some z =>
        rw [he, Option.bind_some] at h'
        injection h' with h'
        have ly := qMk_len n ys hq
        intro c hc
        by_cases e : c = n
        · rw [e, he, ← h']
          simp only [List.getD_eq_getElem?_getD]
          rw [List.getElem?_append_right (by omega), ly, Nat.sub_self]
          rfl
        · rw [qMk_get n ys hq c (by omega), ← h']
          simp only [List.getD_eq_getElem?_getD]
          rw [List.getElem?_append_left (by omega)]
section
variable {f q nq nx mp rp r sl p : Nat} {S : Nat → Nat × Nat × Nat} {G : xG_} {m : Nat × Nat} {s : pPg} {xr cr : Nat → Nat} {M : Nat → List pRw} {as : List Int} {rk : Int}
/-- a rule over a moment's rows -/
theorem mx_rule (hs : cSs S) (hP : cPgm S G q nq s) (hok : qOc s) (hM : cMr S G nx mp q rp s xr cr M) (hMo : okM8 s M) (hrp : 203 < rp) (hr : r < s.2.2.2.2.1.length) : ∃ (u : Nat) (K : pCd) (pl : List Nat), (G (q + 7) r = (u : Int) ∧ 278 < u ∧ G u 0 = (s.2.2.2.2.1.getD r dRu).1) ∧ cRq S G u K (s.2.2.2.2.1.getD r dRu).2.2.2.2.2 ∧ cIt G u K (s.2.2.2.2.1.getD r dRu).2.2.1 (s.2.2.2.2.1.getD r dRu).2.2.2.1 ∧ (G u 6 = ((s.2.2.2.2.1.getD r dRu).2.2.2.2.1.length : Int) ∧ (s.2.2.2.2.1.getD r dRu).2.2.2.2.1.length ≤ 8) ∧ pl.Nodup ∧ (∃ dd, plB (s.2.2.2.2.1.getD r dRu).2.2.2.2.2 pl 0 = some dd) ∧ ∀ (G' : xG_) (br : Int) (lo hi : Nat → Int), cPs G' → (∀ a j, 107 < a → G' a j = G a j) → G' 83 3 = (u : Int) → G' 83 4 = (rp : Int) → G' 83 5 = br → (∀ l, l < 8 → G' 85 l = lo l ∧ G' 86 l = hi l) → cWE S G' u K (s.2.2.2.2.1.getD r dRu).2.2.2.2.2 pl rp s.1.length s.1.length (s.2.2.2.2.1.getD r dRu).2.2.2.2.1.length (qAs (s.2.2.2.2.1.getD r dRu).2.2.1 (s.2.2.2.2.1.getD r dRu).2.2.2.1) br (qN s) xr cr M lo hi := by
  obtain ⟨u, e7, _, _, ⟨K, c1, c2, ⟨pl, l1, l2, l3⟩, c4, c5, c6⟩, e0, _⟩ := hP.2.2.2.2.2.1.2.2 r hr
  have hm : s.2.2.2.2.1.getD r dRu ∈ s.2.2.2.2.1 := by rw [getD_e hr]; exact List.getElem_mem hr
  obtain ⟨w1, w2, w3, w4, w5, w6, w7, w8, w9⟩ := hok.1.1.2.2.2.2.2.2 _ hm
  obtain ⟨i1, i2, i3⟩ := ru_it hok hm
  obtain ⟨n1, n2⟩ := l3 (hok.1.2.1 _ hm).1
  have hu := c1.2.2.2.2.1
  have hlt : ∀ p ∈ pl, p < (s.2.2.2.2.1.getD r dRu).2.2.2.2.2.length := fun p hp => by
    obtain ⟨k, hk, ek⟩ := List.getElem_of_mem hp
    have := (l2 k (by omega)).2.1
    rw [getD_e hk, ek] at this
    exact this
  refine ⟨u, K, pl, ⟨e7, hu, e0⟩, c1, c2, ⟨c4, c5⟩, n1, n2, fun G' br lo hi hp' hG' f3 f4 f5 fl => ⟨⟨hs, hp', f3, f4, f5, hM.2.2.2.1, by omega, Nat.le_refl _⟩, c1.fx (fun a j y => hG' a j (by omega)), ⟨w6, fun y hy => ⟨(w9 y hy).1, fun h3 => wAm_n hok.1 hok.2.2.1 hm hy h3⟩, (hok.2.1 _ hm).2⟩, ⟨l1, fun k hk => ?_⟩, fun p hp => ?_, fl⟩⟩
  · obtain ⟨z1, z2, z3⟩ := l2 k hk
    exact ⟨by rw [hG' _ _ (by omega)]; exact z1, z2, by rw [hG' _ _ (by omega)]; exact z3, plA_8 i3 (fun y hy => (w9 y hy).1.lv) w6 _ (fun p hp => hlt p (List.mem_of_mem_drop hp))⟩
  · obtain ⟨w1, w2, w3⟩ := hM.2.2.2.2 p hp
    obtain ⟨v1, v2, v3, _⟩ := hMo p hp
    exact ⟨by rw [hG' _ _ (by omega)]; exact w1, by omega, w3.ge (fun _ _ _ => rfl) (fun j => hG' _ _ (by omega)) (fun j => hG' _ _ (by omega)) (fun j => hG' _ _ (by omega)), v1, v2, v3⟩
/-- the RING of a HEAD -/
def mbR (s : pPg) (p : Nat) : Nat := qMb (qWm s.1.length (qRd s.2.2.2.2.1) s.1.length) (qK s p) s.1.length
theorem mbR_t (j : Nat) : (mbR s p).testBit j = true ↔ j < s.1.length ∧ qK s j = qK s p := qMb_t _ _ _ _
/-- which rows a WAY may be of -/
theorem op_hi (hok : qOc s) (hMo : okM8 s M) (hr : r < s.2.2.2.2.1.length) {l : Nat} (hl : l < (s.2.2.2.2.1.getD r dRu).2.2.2.2.2.length) (h1 : ((s.2.2.2.2.1.getD r dRu).2.2.2.2.2.getD l dLt).1 = 1) : ∀ w ∈ M ((s.2.2.2.2.1.getD r dRu).2.2.2.2.2.getD l dLt).2.1.toNat, ((0 ≤ w.2 ∧ w.2 ≤ hiR (s.2.2.2.2.1.getD r dRu).2.2.2.2.2 (mbR s p) rk l) ↔ qOp (qK s) (qK s p : Int) rk ((s.2.2.2.2.1.getD r dRu).2.2.2.2.2.getD l dLt).2.1.toNat w) := by
  have hm : s.2.2.2.2.1.getD r dRu ∈ s.2.2.2.2.1 := by rw [getD_e hr]; exact List.getElem_mem hr
  obtain ⟨w1, w2, w3, w4, w5, w6, w7, w8, w9⟩ := hok.1.1.2.2.2.2.2.2 _ hm
  obtain ⟨y1, y2⟩ := w9 _ (lt_in hl)
  have y4 : ((s.2.2.2.2.1.getD r dRu).2.2.2.2.2.getD l dLt).2.1 < s.1.length ∧ 0 ≤ ((s.2.2.2.2.1.getD r dRu).2.2.2.2.2.getD l dLt).2.1 := by
    have := y2 (by omega)
    rcases y1 with ⟨_, _, z, _⟩ | ⟨z, _⟩
    · exact ⟨z, this⟩
    · omega
  intro w hw
  have hk := (hMo _ (by omega : ((s.2.2.2.2.1.getD r dRu).2.2.2.2.2.getD l dLt).2.1.toNat < s.1.length)).2.2.2 w hw
  unfold hiR qOp
  by_cases c : qK s ((s.2.2.2.2.1.getD r dRu).2.2.2.2.2.getD l dLt).2.1.toNat = qK s p
  · rw [if_pos ⟨h1, (mbR_t _).mpr ⟨by omega, c⟩⟩, c]
    constructor
    · intro z; exact .inr (.inr (by omega))
    · rintro (z | z | z)
      · omega
      · exact absurd rfl z
      · omega
  · rw [if_neg (fun z => c ((mbR_t _).mp z.2).2)]
    exact ⟨fun _ => .inr (.inl (by omega)), fun _ => hk⟩
theorem lit_o (hok : qOc s) (hMo : okM8 s M) (hr : r < s.2.2.2.2.1.length) {v : Nat → Int} : (∀ l, l < (s.2.2.2.2.1.getD r dRu).2.2.2.2.2.length → litO (s.2.2.2.2.1.getD r dRu).2.2.2.2.2 M (fun _ => 0) (hiR (s.2.2.2.2.1.getD r dRu).2.2.2.2.2 (mbR s p) rk) l v) ↔ (sAR (s.2.2.2.2.1.getD r dRu).2.2.2.2.2 M (qOp (qK s) (qK s p : Int) rk) v ∧ sNC (s.2.2.2.2.1.getD r dRu).2.2.2.2.2 M v) := by
  have hm : s.2.2.2.2.1.getD r dRu ∈ s.2.2.2.2.1 := by rw [getD_e hr]; exact List.getElem_mem hr
  have op := fun {l} hl h1 => op_hi (p := p) (rk := rk) hok hMo hr (l := l) hl h1
  obtain ⟨w1, w2, w3, w4, w5, w6, w7, w8, w9⟩ := hok.1.1.2.2.2.2.2.2 _ hm
  generalize (s.2.2.2.2.1.getD r dRu).2.2.2.2.2 = Ls at *
  have ng : ∀ l, l < Ls.length → (Ls.getD l dLt).1 = 2 → ∀ w ∈ M (Ls.getD l dLt).2.1.toNat, 0 ≤ w.2 ∧ w.2 ≤ hiR Ls (mbR s p) rk l := fun l hl h2 w hw => by
    obtain ⟨y1, y2⟩ := w9 _ (lt_in hl)
    have y4 : (Ls.getD l dLt).2.1 < s.1.length ∧ 0 ≤ (Ls.getD l dLt).2.1 := by
      have := y2 (by omega)
      rcases y1 with ⟨_, _, z, _⟩ | ⟨z, _⟩
      · exact ⟨z, this⟩
      · omega
    have hk := (hMo _ (by omega : (Ls.getD l dLt).2.1.toNat < s.1.length)).2.2.2 w hw
    unfold hiR
    rw [if_neg (fun z => by have := z.1; omega)]
    exact hk
  constructor
  · intro h
    refine ⟨fun y hy h1 => ?_, fun y hy => ?_⟩
    · obtain ⟨l, hl, rfl⟩ := List.getElem_of_mem hy
      obtain ⟨q1, _, _⟩ := h l hl
      rw [getD_e hl] at q1
      obtain ⟨w, u1, u2, u3⟩ := q1 h1
      have := op hl (by rw [getD_e hl]; exact h1)
      rw [getD_e hl] at this
      exact ⟨w, u1, (this w u1).mp u2, u3⟩
    · obtain ⟨l, hl, rfl⟩ := List.getElem_of_mem hy
      obtain ⟨_, q2, q3⟩ := h l hl
      have n2 := ng l hl
      rw [getD_e hl] at q2 q3 n2
      exact ⟨fun h2 ⟨w, u1, u2⟩ => q2 h2 ⟨w, u1, n2 h2 w u1, u2⟩, q3⟩
  · rintro ⟨h1, h2⟩ l hl
    refine ⟨fun z => ?_, fun z ⟨w, u1, _, u3⟩ => (h2 _ (lt_in hl)).1 z ⟨w, u1, u3⟩, (h2 _ (lt_in hl)).2⟩
    obtain ⟨w, u1, u2, u3⟩ := h1 _ (lt_in hl) z
    exact ⟨w, u1, (op hl z w u1).mpr u2, u3⟩
/-- findWay() -/
theorem k_164w (hf : 100003010 < f) (hs : cSs S) (hp : cPs G) (hq : 226 < q) (h931 : G 93 1 = (q : Int)) (hP : cPgm S G q nq s) (hok : qOc s) (hM : cMr S G nx mp q rp s xr cr M) (hMo : okM8 s M) (hrp : 203 < rp) (hr : r < s.2.2.2.2.1.length) {u : Nat} (hu : G (q + 7) r = (u : Int)) (hhd : (s.2.2.2.2.1.getD r dRu).1 = (p : Int)) (hpn : p < s.1.length) (hg : (s.2.2.2.2.1.getD r dRu).2.2.1.1 = 0) (hrk : 0 ≤ rk ∧ rk ≤ 1700) (hgv : ∀ c, c < as.length → G 105 c = as.getD c 0) (has : as.length = qN s p) (hav : ∀ c, c < as.length → vOk (as.getD c 0)) :
    ∃ v G', c164 f 93 u rp rk (S, G, m) = some (v, (S, G', m)) ∧ cPs G' ∧ (∀ b j, ¬ (83 ≤ b ∧ b ≤ 92) → b ≠ 103 → b ≠ 106 → b ≠ 107 → G' b j = G b j) ∧ ((v = 0 ∧ (∀ w, ¬ rsW s M p as rk (s.2.2.2.2.1.getD r dRu) w) ∧ ∀ k, G' 107 k = G 107 k) ∨ (v = 1 ∧ ∃ b, rsW s M p as rk (s.2.2.2.2.1.getD r dRu) b ∧ (∀ x, rsW s M p as rk (s.2.2.2.2.1.getD r dRu) x → vLe b x) ∧ (∀ k, pAtoms (s.2.2.2.2.1.getD r dRu).2.2.2.2.2 ≤ k → G' 107 k = G 107 k) ∧ ∀ l, l < (s.2.2.2.2.1.getD r dRu).2.2.2.2.2.length → ((s.2.2.2.2.1.getD r dRu).2.2.2.2.2.getD l dLt).1 = 1 → rsS ((s.2.2.2.2.1.getD r dRu).2.2.2.2.2.getD l dLt) M (qOp (qK s) (qK s p : Int) rk) b (G' 107 (atN (s.2.2.2.2.1.getD r dRu).2.2.2.2.2 l)))) := by
  obtain ⟨u', K, pl, ⟨e7, hu8, e0⟩, hR, hI, ⟨h6, hnv⟩, hnd, ⟨dd, hpB⟩, we⟩ := mx_rule hs hP hok hM hMo hrp hr
  have eu : u' = u := by omega
  subst eu
  have hm : s.2.2.2.2.1.getD r dRu ∈ s.2.2.2.2.1 := by rw [getD_e hr]; exact List.getElem_mem hr
  have lit := fun {v} => lit_o (p := p) (rk := rk) hok hMo hr (v := v)
  have opl := fun {l} hl h1 => op_hi (p := p) (rk := rk) hok hMo hr (l := l) hl h1
  unfold rsW
  obtain ⟨w1, w2, w3, w4, w5, w6, w7, w8, w9⟩ := hok.1.1.2.2.2.2.2.2 _ hm
  obtain ⟨i1, i2, i3⟩ := ru_it hok hm
  have hsf := (hok.1.2.1 _ hm).1
  have hIl := (hok.1.2.1 _ hm).2
  have hdl := (hok.2.1 _ hm).2
  generalize s.2.2.2.2.1.getD r dRu = ru at *
  have h16 : s.1.length ≤ 16 := hok.1.1.1
  have hN : ru.2.2.2.1.length = qN s p := by
    have := (qN_c hok.1.1 p).1
    rw [hhd] at hIl
    omega
  have hgA : ru.2.2.1.2.1 = -1 := by
    rcases w5.1 with z | z
    · exact z.2.1
    · have : (10 : Int) ≤ ru.2.2.1.1 := z.1.1
      omega
  rw [hgA] at i1
  have h3 : G u' 3 = -1 := by
    rcases hI.2.2.2.2 with z | z
    · exact z.2
    · have := z.1.1; omega
  have hn4 := hI.2.1
  have hl8 := hR.2.2.2.1.2.1
  -- open
  obtain ⟨G1, a1, a2, a3, a4, a5, a6, a7, a8, a9, a10, a11⟩ := k_130 (u := u') (fa := rp) (m := m) (G := G) (f := f) (br := 0) (by omega) hs hp (.inl rfl)
  have hR1 : cRq S G1 u' K ru.2.2.2.2.2 := hR.fx (fun a j y => a2 a j (by omega) (by omega) (by omega) (by omega))
  have mb16 : mbR s p < 2 ^ 16 := qMb_16 _ _ _ h16
  obtain ⟨G2, b1, b2, b3, b4⟩ := k_164h (f := f) (m := m) (u := u') (K := K) (Ls := ru.2.2.2.2.2) (mb := mbR s p) (rk := rk) (by omega) hs mb16 (by omega) (fun l hl h1 => by
    obtain ⟨y1, y2⟩ := w9 _ (lt_in hl)
    have y3 := y2 (by omega)
    rcases y1 with ⟨_, _, z, _⟩ | ⟨z, _⟩
    · exact ⟨y3, by omega⟩
    · omega) ru.2.2.2.2.2.length 0 f G1 (by omega) (by omega) a3 hR1
  have z2 : ∀ b j, ¬ (83 ≤ b ∧ b ≤ 92) → G2 b j = G b j := fun b j y => by rw [b2 b j (by omega), a2 b j (by omega) (by omega) (by omega) (by omega)]
  have l2 : lvE G2 0 0 (fun _ => 0) := ⟨by rw [b2 _ _ (by omega)]; exact a9, by decide, fun k hk => by rw [Nat.zero_testBit] at hk; cases hk⟩
  have lohi : ∀ l, l < 8 → G2 85 l = 0 ∧ G2 86 l = hiR ru.2.2.2.2.2 (mbR s p) rk l := fun l hl => by
    refine ⟨by rw [b2 _ _ (by omega)]; exact a10 l hl, ?_⟩
    rw [b4 l hl]
    by_cases c : l < ru.2.2.2.2.2.length
    · rw [if_pos ⟨Nat.zero_le _, c⟩]
    · rw [if_neg (by omega), a11 l hl]
      unfold hiR
      have : ru.2.2.2.2.2.getD l dLt = dLt := by rw [List.getD_eq_getElem?_getD, List.getElem?_eq_none (by omega)]; rfl
      rw [this, if_neg (fun z => absurd z.1 (by decide))]
  have hE2 := we G2 0 (fun _ => 0) (hiR ru.2.2.2.2.2 (mbR s p) rk) b3 (fun a j y => z2 a j (by omega)) (by rw [b2 _ _ (by omega)]; exact a4) (by rw [b2 _ _ (by omega)]; exact a5) (by rw [b2 _ _ (by omega)]; exact a6) lohi
  -- up to what the HEAD tells
  have st : c164 f 93 u' rp rk (S, G, m) = c164_82 f f 93 u' 0 (S, G2, m) := by
    have e26 := k_26 (f := f) (m := m) (g := qK s p) (T := qWm s.1.length (qRd s.2.2.2.2.1) s.1.length) (by omega) (by omega) h16 hP.1 hP.2.1 hP.2.2.1.1 hP.2.2.2.2.2.2.2.1.1
    have gr : G (q + 8) p = ((qK s p : Nat) : Int) := hP.2.2.2.2.2.2.2.1.1 p hpn
    have iq : cq_is 3 14 q (S, G, m) = some () := if_pos hP.1.1
    have i83 : cq_is 9 14 83 (S, G, m) = some () := if_pos (s83 hs)
    unfold c164
    rw [o_gr (s93 hs) h931, Option.bind_some, Option.bind_some, o_gr hP.1.1 hP.2.1.2.2.2.2.2.2.2.1, Option.bind_some, o_gi hR.1.1, Option.bind_some, e0, hhd, o_a hP.1.2.2.2.2.2.2.2.2.1 (by omega), Option.bind_some, gr, iq, Option.bind_some, e26, Option.bind_some, o_gr (y := 83) (s93 hs) (p93_0 hp), Option.bind_some, i83, Option.bind_some, a1, Option.bind_some]
    exact b1
  have hI2 : cIt G2 u' K ru.2.2.1 ru.2.2.2.1 := hI.fx hu8 (fun a j y => z2 a j (by omega))
  have needs : ∀ v : Nat → Int, qMk ru.2.2.2.1 (-1) v ru.2.2.2.1.length = some as → ∀ c', c' < ru.2.2.2.1.length → ∀ x : Nat, ru.2.2.2.1.getD c' [] = [(2, (x : Int))] → v x = as.getD c' 0 := fun v hv c' hc' x hx => by
    have := qMk_get _ _ hv c' hc'
    rw [hx] at this
    have e : qEv v [(2, (x : Int))] = some (v x) := rfl
    rw [e] at this
    injection this
  have none_ok : (∀ v : Nat → Int, ¬ ∀ c', c' < ru.2.2.2.1.length → ∀ x : Nat, ru.2.2.2.1.getD c' [] = [(2, (x : Int))] → v x = as.getD c' 0) → ∀ w, ¬ (isW ru.2.2.2.2.2 ru.2.2.2.2.1.length M (qOp (qK s) (qK s p : Int) rk) w ∧ qMk ru.2.2.2.1 (-1) (vF w) ru.2.2.2.1.length = some as) := fun hn w hw => hn (vF w) (needs (vF w) hw.2)
  have key := k_164f (f := f) (m := m) (u := u') (K := K) (g := ru.2.2.1) (I := ru.2.2.2.1) (as := as) (nv := ru.2.2.2.2.1.length) (by omega) hs hnv hn4 (fun c hc => i2 _ (by rw [getD_e hc]; exact List.getElem_mem hc)) (by omega) hav ru.2.2.2.1.length 0 f G2 0 (fun _ => 0) (by omega) (by omega) hE2.wy hI2 (fun c hc => by rw [z2 _ _ (by omega)]; exact hgv c hc) l2 (fun v _ j hj => by rw [Nat.zero_testBit] at hj; cases hj)
  rcases key with ⟨k1, k2⟩ | ⟨G3, b', vl', k1, k2, k3⟩
  · exact ⟨0, G2, st.trans k1, b3, fun b j y _ _ _ => z2 b j y, .inl ⟨rfl, none_ok k2, fun k => z2 _ _ (by omega)⟩⟩
  · have z3 : ∀ b j, ¬ (83 ≤ b ∧ b ≤ 92) → G3 b j = G b j := fun b j y => by rw [k1 b j (by omega) (by omega), z2 b j y]
    rcases k3 with ⟨k3, k4, k5⟩ | ⟨k3, k4⟩
    · have hE3 := we G3 0 (fun _ => 0) (hiR ru.2.2.2.2.2 (mbR s p) rk) k2 (fun a j y => z3 a j (by omega)) (by rw [k1 _ _ (by omega) (by omega), b2 _ _ (by omega)]; exact a4) (by rw [k1 _ _ (by omega) (by omega), b2 _ _ (by omega)]; exact a5) (by rw [k1 _ _ (by omega) (by omega), b2 _ _ (by omega)]; exact a6) (fun l hl => by rw [k1 _ _ (by omega) (by omega), k1 _ _ (by omega) (by omega)]; exact lohi l hl)
      obtain ⟨V, k, Bf, x1, x2, x3, x4, x5, x6, _⟩ := ways_start hE3 (by rw [k1 _ _ (by omega) (by omega), b2 _ _ (by omega)]; exact a7) (by rw [k1 _ _ (by omega) (by omega), b2 _ _ (by omega)]; exact a8) k4 w8 hsf hnd hpB
      obtain ⟨_, x8⟩ := x6 rfl
      have hx203 : ∀ p, p < s.1.length → 203 < xr p := fun p hp => (hM.2.2.2.2 p hp).2.1.1
      obtain ⟨G4, fd, r1, r2, r3, r4⟩ := k_164n (f := f) (m := m) (I := ru.2.2.2.1) (g := ru.2.2.1) (as := as) hf hrp hx203 hn4 i1 hnv (by omega) x4 V [] k 0 f G3 0 hE3 x3 x1 (by omega) (by omega) (hI.fx hu8 (fun a j y => z3 a j (by omega))) (by rw [z3 _ _ (by omega)]; exact h3) (by rw [z3 _ _ (by omega)]; exact h6) (fun c hc => by rw [z3 _ _ (by omega)]; exact hgv c hc) (.inl ⟨rfl, fun v hv => by cases hv⟩)
      rw [List.nil_append] at r4
      have r1' : c164_138 f f 93 u' 0 0 (S, G3, m) = c164_220 f 93 u' fd (S, G4, m) := r1
      have z4 : ∀ b j, ¬ (83 ≤ b ∧ b ≤ 92) → b ≠ 103 → b ≠ 106 → G4 b j = G b j := fun b j y1 y2 y3 => by rw [r2 b j (by omega) (by omega) (by omega) y2 y3, z3 b j y1]
      have st4 := (st.trans k3).trans r1'
      -- WAYS of the rule and those that were found
      have agr : ∀ v : Nat → Int, qMk ru.2.2.2.1 (-1) (vF (vec ru.2.2.2.2.1.length v)) ru.2.2.2.1.length = qMk ru.2.2.2.1 (-1) v ru.2.2.2.1.length := fun v => qMk_xt (fun k hk hg => (i1 k hk hg).1) (fun k hk => vec_vF hk) _ (Nat.le_refl _)
      have toW : ∀ v ∈ V, isW ru.2.2.2.2.2 ru.2.2.2.2.1.length M (qOp (qK s) (qK s p : Int) rk) (vec ru.2.2.2.2.1.length v) := fun v hv => by
        obtain ⟨y1, y2⟩ := lit.mp (x5 v hv).2
        have ev : ∀ k, k < ru.2.2.2.2.1.length → v k = vF (vec ru.2.2.2.2.1.length v) k := fun k hk => (vec_vF hk).symm
        refine ⟨vec_len, fun y hy h1 => ?_, sNC_xt (fun y hy => (w9 y hy).1) ev y2⟩
        obtain ⟨w, u1, u2, u3⟩ := y1 y hy h1
        refine ⟨w, u1, u2, sTs_xt ?_ ev u3⟩
        rcases (w9 y hy).1 with ⟨_, _, _, _, _, z⟩ | ⟨z, _⟩
        · exact z
        · omega
      have toV : ∀ w, isW ru.2.2.2.2.2 ru.2.2.2.2.1.length M (qOp (qK s) (qK s p : Int) rk) w → qMk ru.2.2.2.1 (-1) (vF w) ru.2.2.2.1.length = some as → ∃ v ∈ V, vec ru.2.2.2.2.1.length v = w ∧ gvY ru.2.2.2.1 as v := fun w hw hq => by
        obtain ⟨v, v1, v2⟩ := x8 (vF w) (fun j hj => k5 (vF w) (needs (vF w) hq) j hj) (lit.mpr hw.2)
        have e : vec ru.2.2.2.2.1.length v = w := by
          rw [vec_ext (fun k hk => v2 k (x4 k hk)), vec_id hw.1]
        refine ⟨v, v1, e, ?_⟩
        unfold gvY
        rw [← agr, e]
        exact hq
      rcases r4 with ⟨rfl, q2⟩ | ⟨rfl, v, q2, q3, q4, q5⟩
      · refine ⟨0, G4, st4.trans ?_, r3, fun b j y1 y2 y3 _ => z4 b j y1 y2 y3, .inl ⟨rfl, fun w hw => ?_, fun k => z4 _ _ (by omega) (by omega) (by omega)⟩⟩
        · obtain ⟨fu, hfu⟩ : ∃ t, f = t + 1 := ⟨f - 1, by omega⟩
          have : ∀ t, c164_226 f (t + 1) 93 u' 0 0 0 (S, G4, m) = some (0, (S, G4, m)) := fun t => by
            show c164_226b (c164_226 f t) f _ _ _ _ _ _ = _
            unfold c164_226b
            rw [if_pos rfl]
            exact if_pos (.inl rfl)
          have := this fu
          rw [← hfu] at this
          exact this
        · obtain ⟨v, v1, _, v3⟩ := toV w hw.1 hw.2
          exact q2 v v1 v3
      · have hE4 := hE3.f3 hrp hx203 r3 (fun b j y1 y2 y3 y4 y5 _ _ => r2 b j y1 y2 y3 y4 y5)
        obtain ⟨G5, t1, t2, t3, t4, t5⟩ := k_164r (f := f) (m := m) (vl := fun k => G4 106 k) (by omega) hrp hx203 w8 hl8 ru.2.2.2.2.2.length 0 f G4 (by omega) (by omega) hE4 (fun k _ => rfl)
        have a0 : atN ru.2.2.2.2.2 0 = 0 := rfl
        rw [a0] at t1
        have t1' : c164_220 f 93 u' 1 (S, G4, m) = some (1, (S, G5, m)) := t1
        refine ⟨1, G5, st4.trans t1', t3, fun b j y1 y2 y3 y4 => by rw [t2 b j (by omega) (by omega) (by omega) y4, z4 b j y1 y2 y3], .inr ⟨rfl, vec ru.2.2.2.2.1.length v, ⟨toW v q2, by rw [agr]; exact q3⟩, fun x hx => ?_, fun k hk => by rw [t4 k (.inr hk), z4 _ _ (by omega) (by omega) (by omega)], fun l hl h1 => ?_⟩⟩
        · obtain ⟨w, y1, y2, y3⟩ := toV x hx.1 hx.2
          rw [← y2]
          exact q5 w y1 y3
        · have q := t5 l (Nat.zero_le _) hl h1
          have ev : ∀ k, k < ru.2.2.2.2.1.length → G4 106 k = vF (vec ru.2.2.2.2.1.length v) k := fun k hk => by rw [q4 k hk, vec_vF hk]
          have hT : ∀ y ∈ (ru.2.2.2.2.2.getD l dLt).2.2.2.1, wT1 ru.2.2.2.2.1.length y := by
            rcases (w9 _ (lt_in hl)).1 with ⟨_, _, _, _, _, z⟩ | ⟨z, _⟩
            · exact z
            · omega
          have eqj : ∀ j, j < (M (ru.2.2.2.2.2.getD l dLt).2.1.toNat).length → (((0 ≤ ((M (ru.2.2.2.2.2.getD l dLt).2.1.toNat).getD j dRw).2 ∧ ((M (ru.2.2.2.2.2.getD l dLt).2.1.toNat).getD j dRw).2 ≤ hiR ru.2.2.2.2.2 (mbR s p) rk l) ∧ sTs (fun k => G4 106 k) (ru.2.2.2.2.2.getD l dLt).2.2.2.1 ((M (ru.2.2.2.2.2.getD l dLt).2.1.toNat).getD j dRw).1) ↔ (qOp (qK s) (qK s p : Int) rk (ru.2.2.2.2.2.getD l dLt).2.1.toNat ((M (ru.2.2.2.2.2.getD l dLt).2.1.toNat).getD j dRw) ∧ sTs (vF (vec ru.2.2.2.2.1.length v)) (ru.2.2.2.2.2.getD l dLt).2.2.2.1 ((M (ru.2.2.2.2.2.getD l dLt).2.1.toNat).getD j dRw).1)) := fun j hj => by
            have o := opl hl h1 _ (get_in hj)
            constructor
            · rintro ⟨y1, y2⟩; exact ⟨o.mp y1, sTs_xt hT ev y2⟩
            · rintro ⟨y1, y2⟩; exact ⟨o.mpr y1, sTs_xt hT (fun k hk => (ev k hk).symm) y2⟩
          rcases q with ⟨j, j1, j2, j3, j4⟩ | ⟨j1, j2⟩
          · exact .inl ⟨j, j1, (eqj j j1).mp j2, fun i hi z => j3 i hi ((eqj i (by omega)).mpr z), j4⟩
          · exact .inr ⟨fun j hj z => j1 j hj ((eqj j hj).mpr z), j2⟩
    · exact ⟨0, G3, st.trans k3, k2, fun b j y _ _ _ => z3 b j y, .inl ⟨rfl, none_ok k4, fun k => z3 _ _ (by omega)⟩⟩
end
