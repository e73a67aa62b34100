/-! THE CLASS: the SHEET: settle(), the texts -/
section
variable {S : Nat → Nat × Nat × Nat} {G : xG_} {m : Nat × Nat} {x k n c z kk L y : Nat} {v : Int}
theorem o_gr (h : S x = (1, c, n)) (e : G x k = (y : Int)) : cq_gr c k n x (S, G, m) = some y := by
  show (if S x = (1, c, n) then some (G x k).toNat else none) = _
  rw [if_pos h, e, Int.toNat_natCast]
theorem o_gi (h : S x = (1, c, n)) : cq_gi c k n x (S, G, m) = some (G x k) := if_pos h
theorem o_p (h : S x = (1, c, n)) : cq_p c k n x v (S, G, m) = some (S, xup2 G x k v, m) := if_pos h
theorem o_pr (h : S x = (1, c, n)) : cq_pr c k n x y (S, G, m) = some (S, xup2 G x k (y : Int), m) := if_pos h
theorem o_ar (h : S x = (2, kk, L)) (hk : 5 ≤ kk) (hz : z < L) (e : G x z = (y : Int)) : cq_ar x (z : Int) (S, G, m) = some y := by
  unfold cq_ar
  show (if (S x).1 = 2 ∧ 5 ≤ (S x).2.1 ∧ 0 ≤ (z : Int) ∧ (z : Int) < ((S x).2.2 : Int) then some (G x (z : Int).toNat).toNat else none) = _
  rw [h, if_pos ⟨rfl, hk, by omega, by show (z : Int) < ((L : Nat) : Int); omega⟩, Int.toNat_natCast, e, Int.toNat_natCast]
theorem o_ab (h : S x = (2, 0, L)) (hz : z < L) : cq_ab x (z : Int) (S, G, m) = some (G x z) := by
  unfold cq_ab
  show (if (S x).1 = 2 ∧ (S x).2.1 < 2 ∧ 0 ≤ (z : Int) ∧ (z : Int) < ((S x).2.2 : Int) then some (G x (z : Int).toNat) else none) = _
  rw [h, if_pos ⟨rfl, by show 0 < 2; decide, by omega, by show (z : Int) < ((L : Nat) : Int); omega⟩, Int.toNat_natCast]
theorem o_sr (h : S x = (2, 5, L)) (hz : z < L) (hy : y = 0 ∨ S y = (1, 0, 5)) : cq_sr x (z : Int) y (S, G, m) = some (S, xup2 G x z (y : Int), m) := by
  unfold cq_sr
  show (if (S x).1 = 2 ∧ 5 ≤ (S x).2.1 ∧ 0 ≤ (z : Int) ∧ (z : Int) < ((S x).2.2 : Int) ∧ (y = 0 ∨ (S y).1 = 1 ∧ (S x).2.1 = (S y).2.1 + 5) then _ else _) = _
  rw [h, if_pos ⟨rfl, by show 5 ≤ 5; decide, by omega, by show (z : Int) < ((L : Nat) : Int); omega, by
    rcases hy with q | q
    · exact .inl q
    · right; rw [q]; exact ⟨rfl, rfl⟩⟩]
  rfl
end
section
variable {f ah be ln tb c fu A sl : Nat} {S : Nat → Nat × Nat × Nat} {G : xG_} {m : Nat × Nat} {ch u : Int}
/-- what is used -/
theorem sw_99u {x : Nat} (hb : S be = (1, 2, 8)) (h2 : G be 2 = (tb : Int)) (ht : S tb = (2, 5, 72)) (hc : c < 72) (hx : G tb c = (x : Int)) {r27 : Nat → Nat → Nat → Nat → Int → Int → Int → xT_ → Option xT_} : c99_89 r27 f 216 ah be ln ch u (c : Int) (S, G, m) = r27 216 ah be ln ch (xor_ u (if x = 0 then 0 else 1)) ((c + 1 : Nat) : Int) (S, G, m) := by
  have ec : xwr ((c : Int) + 1) = ((c + 1 : Nat) : Int) := by rw [xwr_g _ (by omega) (by omega)]; omega
  unfold c99_89 c99_106
  rw [o_gr hb h2, Option.bind_some, o_ar ht (by decide) hc hx, Option.bind_some]
  by_cases h : x = 0
  · rw [if_pos h, if_pos h, ec]
  · rw [if_neg h, if_neg h, ec]
theorem sw_99n (hl : S ln = (1, 1, 14)) (h12 : G ln 12 = ((ln + 7 : Nat) : Int)) (hs7 : S (ln + 7) = (2, 0, 72)) (hc : c < 72) (h0 : G (ln + 7) c = 0) : c99_27 f (fu + 1) 216 ah be ln ch u (c : Int) (S, G, m) = c99_89 (c99_27 f fu) f 216 ah be ln ch u (c : Int) (S, G, m) := by
  show c99_27b (c99_27 f fu) f 216 _ _ _ _ _ _ _ = _
  unfold c99_27b
  rw [if_neg (by omega), o_gr hl h12, Option.bind_some, o_ab hs7 hc, Option.bind_some, if_pos h0]
/-- a text is put -/
theorem sw_99p {n o : Nat} {r27 : Nat → Nat → Nat → Nat → Int → Int → Int → xT_ → Option xT_} (hb : S be = (1, 2, 8)) (h2 : G be 2 = (tb : Int)) (ht : S tb = (2, 5, 72)) (hc : c < 72) (hl : S ln = (1, 1, 14)) (h13 : G ln 13 = ((ln + 8 : Nat) : Int)) (hs8 : S (ln + 8) = (2, 5, 72)) (ho : G (ln + 8) c = (o : Int)) (hy : o = 0 ∨ S o = (1, 0, 5)) (h5 : G be 5 = (n : Int)) (hn : n ≤ 100) (hbt : be ≠ tb) : c99_65 r27 f 216 ah be ln ch u (c : Int) (S, G, m) = c99_89 r27 f 216 ah be ln ch u (c : Int) (S, xup2 (xup2 G tb c (o : Int)) be 5 ((n + 1 : Nat) : Int), m) := by
  have en : xwr ((n : Int) + 1) = ((n + 1 : Nat) : Int) := by rw [xwr_g _ (by omega) (by omega)]; omega
  have e5 : xup2 G tb c (o : Int) be 5 = (n : Int) := by rw [xup2_n (by omega)]; exact h5
  unfold c99_65
  rw [o_gr hb h2, Option.bind_some, o_gr hl h13, Option.bind_some, o_ar hs8 (by decide) hc ho, Option.bind_some, o_sr ht hc hy, Option.bind_some, o_gi hb, Option.bind_some, e5, en, o_p hb, Option.bind_some]
theorem sw_99y {n : Nat} (hb : S be = (1, 2, 8)) (hl : S ln = (1, 1, 14)) (h12 : G ln 12 = ((ln + 7 : Nat) : Int)) (hs7 : S (ln + 7) = (2, 0, 72)) (hc : c < 72) (h0 : ¬ G (ln + 7) c = 0) (h5 : G be 5 = (n : Int)) (hn : 0 < n) : c99_27 f (fu + 1) 216 ah be ln ch u (c : Int) (S, G, m) = c99_65 (c99_27 f fu) f 216 ah be ln ch u (c : Int) (S, G, m) := by
  show c99_27b (c99_27 f fu) f 216 _ _ _ _ _ _ _ = _
  unfold c99_27b
  rw [if_neg (by omega), o_gr hl h12, Option.bind_some, o_ab hs7 hc, Option.bind_some, if_neg h0, o_gi hb, Option.bind_some, if_pos (by omega)]
/-- the texts are copied -/
theorem sw_99f {tp : Nat} (hb : S be = (1, 2, 8)) (hl : S ln = (1, 1, 14)) (h12 : G ln 12 = ((ln + 7 : Nat) : Int)) (hs7 : S (ln + 7) = (2, 0, 72)) (hc : c < 72) (h0 : ¬ G (ln + 7) c = 0) (h5 : G be 5 = 0) (ha : S ah = (1, 2, 8)) (h2 : G ah 2 = (tp : Int)) (ht : S tp = (2, 5, 72)) (hbA : be ≠ A) : c99_27 f (fu + 1) 216 ah be ln ch u (c : Int) (S, G, (A, sl)) = c99_65 (c99_27 f fu) f 216 ah be ln ch u (c : Int) (xup1 S A (2, 5, 72), xup2 (xz1 G A (G tp)) be 2 (A : Int), (A + 1, sl + 72)) := by
  have ecl : cq_cl 5 tp (S, G, (A, sl)) = some (A, (xup1 S A (2, 5, 72), xz1 G A (G tp), (A + 1, sl + 72))) := by
    have e0 : cq_cl 5 tp (S, G, (A, sl)) = some (A, cq_mk (S tp) (G tp) (S tp).2.2 (S, G, (A, sl))) := if_pos ⟨by show (S tp).1 = 2; rw [ht], by show (S tp).2.1 = 5; rw [ht], .inr (by decide)⟩
    rw [e0, ht]
    rfl
  have eca : cq_ca 5 A (xup1 S A (2, 5, 72), xz1 G A (G tp), (A + 1, sl + 72)) = some () := if_pos ⟨by show (xup1 S A (2, 5, 72) A).1 = 2; rw [xup1_s], by show (xup1 S A (2, 5, 72) A).2.1 = 5; rw [xup1_s]⟩
  have hb' : xup1 S A (2, 5, 72) be = (1, 2, 8) := by rw [xup1_n (by omega)]; exact hb
  show c99_27b (c99_27 f fu) f 216 _ _ _ _ _ _ _ = _
  unfold c99_27b
  rw [if_neg (by omega), o_gr hl h12, Option.bind_some, o_ab hs7 hc, Option.bind_some, if_neg h0, o_gi hb, Option.bind_some, if_neg (fun z => z h5), o_gr ha h2, Option.bind_some, ecl, Option.bind_some, eca, Option.bind_some, o_pr hb', Option.bind_some]
end
