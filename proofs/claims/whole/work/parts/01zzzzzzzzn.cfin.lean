/-! THE CLASS: finish() of a rule -/
section
variable {f u nv sl : Nat} {S : Nat → Nat × Nat × Nat} {G G' : xG_} {m : Nat × Nat} {K : pCd} {Ls : List pLt} {g : Int × Int × Int} {I : List pCd}
theorem st_96e {n pm b : Nat} {r6 : Nat → Int → Int → Int → xT_ → Option (xT_)} (us : S u = (1, 6, 20)) (h8 : G u 8 = (n : Int)) : (G u 3 = -1 → c96_6b r6 f u (pm : Int) (b : Int) (n : Int) (S, G, m) = c96_164 f f u ((0 : Nat) : Int) ((0 : Nat) : Int) (S, G, m)) ∧ (G u 3 ≠ -1 → G u 4 = 10 → c96_6b r6 f u (pm : Int) (b : Int) (n : Int) (S, G, m) = c96_164 f f u ((0 : Nat) : Int) ((0 : Nat) : Int) (S, G, m)) ∧ (G u 3 ≠ -1 → G u 4 ≠ 10 → c96_6b r6 f u (pm : Int) (b : Int) (n : Int) (S, G, m) = c96_164 f f u (xshl 1 (G u 5)) ((0 : Nat) : Int) (S, G, m)) := by
  refine ⟨fun c => ?_, fun c c' => ?_, fun c c' => ?_⟩
  · unfold c96_6b c96_150 c96_160
    simp (disch := omega) only [cq_gi, cq_gr, cq_a, cq_s, cq_p, cq_pr, cq_is, cq_ar, cq_ab, cq_ln, xq_nz, Option.bind_some, xup2_n, xup2_s, Int.toNat_natCast, Int.reduceToNat, if_pos, if_neg, true_and, and_true, and_self, eq_self, if_true, reduceIte, not_true_eq_false, not_false_eq_true, or_true, true_or, us, h8, c]
    rfl
  · unfold c96_6b c96_150 c96_160
    simp (disch := omega) only [cq_gi, cq_gr, cq_a, cq_s, cq_p, cq_pr, cq_is, cq_ar, cq_ab, cq_ln, xq_nz, Option.bind_some, xup2_n, xup2_s, Int.toNat_natCast, Int.reduceToNat, if_pos, if_neg, true_and, and_true, and_self, eq_self, if_true, reduceIte, not_true_eq_false, not_false_eq_true, or_true, true_or, us, h8, c, c']
    rfl
  · unfold c96_6b c96_160
    simp (disch := omega) only [cq_gi, cq_gr, cq_a, cq_s, cq_p, cq_pr, cq_is, cq_ar, cq_ab, cq_ln, xq_nz, Option.bind_some, xup2_n, xup2_s, Int.toNat_natCast, Int.reduceToNat, if_pos, if_neg, true_and, and_true, and_self, eq_self, if_true, reduceIte, not_true_eq_false, not_false_eq_true, or_true, true_or, us, h8, c, c']
    rfl
/-- makePlan() -/
theorem k_96 (hf : 3010 < f) (hR : cRq S G u K Ls) (hw : ∀ y ∈ Ls, wLv nv y) (hnv : nv ≤ 8) (hI : cIt G u K g I) (hwI : ∀ E ∈ I, wC nv E) (hg : g.1 = 0 ∨ g.1 = 10 ∨ 0 ≤ g.2.2 ∧ g.2.2 < nv) (hz : ∀ k, k < 8 → G (u + 9) k = 0) : ∃ G', c96 f u (S, G, m) = some (S, G', m) ∧ (∀ a j, a ≠ u + 9 → a ≠ u + 10 → G' a j = G a j) ∧ cPl G' u nv Ls (qAs g I) := by
  have u2 := hR.2.2.2.2.1
  have hl8 := hR.2.2.2.1.2.1
  have hP0 : isPl G u Ls nv 0 0 0 [] := ⟨⟨by decide, by decide⟩, fun j _ hb => (by rw [Nat.zero_testBit] at hb; cases hb), fun k hk => ⟨0, hz k (by omega), by omega⟩, fun _ => ⟨rfl, List.nodup_nil, fun j => (by rw [Nat.zero_testBit]; exact ⟨fun q => (by cases q), fun q => (by cases q)⟩), fun j hj => (by cases hj), rfl, fun k hk => absurd hk (Nat.not_lt_zero k)⟩⟩
  obtain ⟨fu, G1, pm, b, pl, i1, i2, i3, ⟨_, _, i4, i5⟩, i6⟩ := k_96o (f := f) (m := m) (S := S) (u := u) (K := K) hf hw hnv Ls.length 0 f G 0 0 [] (by omega) (by omega) hR hP0
  obtain ⟨fu', rfl⟩ : ∃ t, fu = t + 1 := ⟨fu - 1, by omega⟩
  have us := i3.1.1
  have h8 := i3.2.2.2.1.1
  have hI1 : cIt G1 u K g I := by
    have z : ∀ j, G1 u j = G u j := fun j => i6 u j (by omega)
    have := hI.2.2.1
    refine ⟨by rw [z]; exact hI.1, hI.2.1, fun c hc => ?_, fun c h1 h2 => ?_, hI.2.2.2.2.ge (fun j _ _ => z j)⟩
    · have q := cSg.ge (D := []) (G' := G1) (hI.2.2.1 c hc) (i6 _ _ (by omega)) (i6 _ _ (by omega))
      rw [List.append_nil] at q
      exact q
    · rw [i6 _ _ (by omega), i6 _ _ (by omega)]
      exact hI.2.2.2.1 c h1 h2
  obtain ⟨e1, e2, e3⟩ := st_96e (f := f) (m := m) (pm := pm) (b := b) (r6 := c96_6 f fu') us h8
  have hmask : ∃ a : Nat, a < 2 ^ 8 ∧ a = (if g.1 = 0 ∨ g.1 = 10 then 0 else 2 ^ g.2.2.toNat) ∧ c96_6 f (fu' + 1) u (pm : Int) (b : Int) (Ls.length : Int) (S, G1, m) = c96_164 f f u (a : Int) ((0 : Nat) : Int) (S, G1, m) := by
    rcases hI1.2.2.2.2 with ⟨a1, a2⟩ | ⟨a1, a2, a3, a4, a5⟩
    · exact ⟨0, by decide, by rw [if_pos (.inl a1)], e1 a2⟩
    · by_cases c : g.1 = 10
      · exact ⟨0, by decide, by rw [if_pos (.inr c)], e2 (by omega) (by omega)⟩
      · have hb : 0 ≤ g.2.2 ∧ g.2.2 < nv := by rcases hg with q | q | q; omega; exact absurd q c; exact q
        refine ⟨2 ^ g.2.2.toNat, Nat.pow_lt_pow_right (by decide) (by omega), by rw [if_neg (by omega)], ?_⟩
        have e5 : G1 u 5 = (g.2.2.toNat : Int) := by rw [a5 c]; omega
        rw [← xshl_nat (by omega), ← e5]
        exact e3 (by omega) (by omega)
  obtain ⟨a, ha, hae, hc⟩ := hmask
  have e164 := k_164 (f := f) (m := m) hf i3 hI1 hwI hnv ha I.length 0 f (by omega) (by have := hI.2.1; omega)
  rw [List.take_zero, show qIm [] = 0 from rfl, Nat.or_zero] at e164
  have hA8 := Nat.or_lt_two_pow ha (qIm_8 hnv hwI)
  -- the rows as a list
  have hrow : ∃ pl' : List Nat, pl'.length = Ls.length ∧ (∀ k, k < Ls.length → G1 (u + 9) k = ((pl'.getD k 0 : Nat) : Int) ∧ pl'.getD k 0 < Ls.length) ∧ (sfe Ls nv → pl'.Nodup ∧ ∃ b, plB Ls pl' 0 = some b) := by
    by_cases hsf : sfe Ls nv
    · obtain ⟨q1, q2, q3, q4, q5, q6⟩ := i5 hsf
      exact ⟨pl, q1, fun k hk => ⟨q6 k hk, q4 _ (by rw [getD_e (by omega)]; exact List.getElem_mem _)⟩, fun _ => ⟨q2, b, q5⟩⟩
    · refine ⟨(List.range Ls.length).map (fun k => (G1 (u + 9) k).toNat), by rw [List.length_map, List.length_range], fun k hk => ?_, fun q => absurd q hsf⟩
      obtain ⟨p, p1, p2⟩ := i4 k hk
      have : ((List.range Ls.length).map (fun k => (G1 (u + 9) k).toNat)).getD k 0 = p := by
        rw [getD_e (by rw [List.length_map, List.length_range]; exact hk), List.getElem_map, List.getElem_range, p1]
        exact Int.toNat_natCast p
      rw [this]
      exact ⟨p1, p2⟩
  obtain ⟨pl', l1, l2, l3⟩ := hrow
  obtain ⟨G2, j1, j2, j3, j4⟩ := k_196 (f := f) (m := m) hf hw hnv hA8 l1 (fun k hk => (l2 k hk).2) Ls.length f G1 (Nat.le_refl _) (by omega) i3 (fun j hj => (l2 j hj).1)
  rw [List.drop_of_length_le (by omega), show plA Ls (a ||| qIm I) [] = a ||| qIm I from rfl] at j1
  refine ⟨G2, ?_, fun a j z1 z2 => by rw [j2 a j z2, i6 a j z1], pl', l1, fun k hk => ⟨by rw [j2 _ _ (by omega)]; exact (l2 k hk).1, (l2 k hk).2, ?_⟩, l3⟩
  · show c96_6 f f u ((0 : Nat) : Int) ((0 : Nat) : Int) ((0 : Nat) : Int) (S, G, m) = _
    rw [i2, hc, e164]
    exact j1
  · rw [j4 k hk]
    unfold qAs
    rw [hae]
/-- Arrays.copyOf() of less than all -/
theorem cpy {kk n : Nat} {x a : Nat} {L : Nat} (hkk : kk = 3 ∨ kk = 4) (hS : S x = (2, kk, L)) (hxa : x < a) (hn : n < L) (hL : L ≤ 5000) : ∃ S' G', ((cq_na kk (n : Int) (S, G, (a, sl))).bind fun p104 => ((cq_ln x p104.2).bind fun v109 => ((cq_cp x 0 p104.1 0 (xmin v109 (n : Int)) p104.2).bind fun T112 => (some (p104.1, T112))))) = some (a, (S', G', (a + 1, sl + n))) ∧ (∀ b, b < a → S' b = S b) ∧ S' a = (2, kk, n) ∧ (∀ b j, b < a → G' b j = G b j) ∧ ∀ j, j < n → G' a j = G x j := by
  have e1 : cq_na kk (n : Int) (S, G, (a, sl)) = some (a, (xup1 S a (2, kk, n), xz1 G a (fun _ => 0), a + 1, sl + n)) := by
    rw [cq_na_ok (by omega) (by omega) (by omega), Int.toNat_natCast]
  have hS' : xup1 S a (2, kk, n) x = (2, kk, L) := by rw [xup1_n (by omega)]; exact hS
  have e2 : cq_ln x (xup1 S a (2, kk, n), xz1 G a (fun _ => 0), a + 1, sl + n) = some (L : Int) := by
    unfold cq_ln
    show (if (xup1 S a (2, kk, n) x).1 = 2 ∧ (xup1 S a (2, kk, n) x).2.2 < 2147483648 then some ((xup1 S a (2, kk, n) x).2.2 : Int) else none) = _
    rw [hS', if_pos ⟨rfl, by show L < _; omega⟩]
  have e3 : xmin (L : Int) (n : Int) = (n : Int) := by unfold xmin; rw [if_pos (by omega)]
  refine ⟨xup1 S a (2, kk, n), xz1 (xz1 G a (fun _ => 0)) a (fun i => if 0 ≤ i ∧ i < 0 + n then xz1 G a (fun _ => 0) x (0 + (i - 0)) else xz1 G a (fun _ => 0) a i), ?_, fun b hb => xup1_n (by omega), xup1_s _ _ _, fun b j hb => by rw [xz1_n _ (by omega), xz1_n _ (by omega)], fun j hj => ?_⟩
  · rw [e1, Option.bind_some, e2, Option.bind_some, e3]
    unfold cq_cp
    have hSa : xup1 S a (2, kk, n) a = (2, kk, n) := xup1_s _ _ _
    show ((if (xup1 S a (2, kk, n) x).1 = 2 ∧ (xup1 S a (2, kk, n) a).1 = 2 ∧ (xup1 S a (2, kk, n) x).2.1 = (xup1 S a (2, kk, n) a).2.1 ∧ ((xup1 S a (2, kk, n) a).2.1 = 3 ∨ (xup1 S a (2, kk, n) a).2.1 = 4) ∧ (0 : Int) ≤ 0 ∧ (0 : Int) ≤ 0 ∧ (0 : Int) ≤ (n : Int) ∧ (0 : Int).toNat + (n : Int).toNat ≤ (xup1 S a (2, kk, n) x).2.2 ∧ (0 : Int).toNat + (n : Int).toNat ≤ (xup1 S a (2, kk, n) a).2.2 then _ else none)).bind _ = _
    rw [hS', hSa, Int.toNat_natCast, if_pos ⟨rfl, rfl, rfl, hkk, by decide, by decide, by omega, by show 0 + n ≤ L; omega, by show 0 + n ≤ n; omega⟩]
    rfl
  · rw [xz1_s, if_pos ⟨Nat.zero_le _, by omega⟩, xz1_n _ (by omega)]
    congr 1
    omega
end
