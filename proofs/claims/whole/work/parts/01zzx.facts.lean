/-! The reference's facts: what they are, where one stands -/
theorem xush_1 (a : Int) (h1 : 0 ≤ a) (h2 : a < 2147483648) : xush a 1 = a / 2 := by
  obtain ⟨n, rfl⟩ : ∃ n : Nat, a = (n : Int) := ⟨a.toNat, by omega⟩
  have e1 : (Int32.ofInt (n : Int)).toBitVec = BitVec.ofNat 32 n := by
    rw [Int32.toBitVec_ofInt]
    rfl
  have e : xush (n : Int) 1 = ((Int32.ofInt (n : Int)).toBitVec >>> 1).toInt := rfl
  rw [e, e1]
  have e2 : (BitVec.ofNat 32 n >>> 1).toNat = n / 2 := by
    rw [BitVec.toNat_ushiftRight, BitVec.toNat_ofNat, Nat.mod_eq_of_lt (by omega), Nat.shiftRight_eq_div_pow]
  rw [BitVec.toInt_eq_toNat_of_lt (by omega), e2]
  omega
/-- the values xs lie from i on in a row -/
def rVe (G : xG_) (a i : Nat) (xs : List Int) : Prop := (i : Int) + xs.length ≤ ((xl_t a).2.2 : Int) ∧ i < 100000 ∧ xs.length ≤ 8 ∧ ∀ k, k < xs.length → G a (i + k) = xs.getD k 0
theorem drop_c {xs : List Int} {k : Nat} (h : k < xs.length) : xs.drop k = xs.getD k 0 :: xs.drop (k + 1) := by
  rw [List.drop_eq_getElem_cons h, getD_e h]
section
variable {f a i b j n : Nat} {G : xG_} {xs ys : List Int}
theorem l_262_3 (hx : rVe G a i xs) (hy : rVe G b j ys) (hn : xs.length = n) (hm : ys.length = n) : ∀ (d k fu : Nat), k + d = n → d < fu → g262_3 f fu a (i : Int) b (j : Int) (n : Int) (k : Int) G = some (vCmp (xs.drop k) (ys.drop k), G) := by
  obtain ⟨x1, x2, x3, x4⟩ := hx
  obtain ⟨y1, y2, y3, y4⟩ := hy
  intro d
  induction d with
  | zero =>
    intro k fu hk hfu
    obtain ⟨fu, rfl⟩ : ∃ t, fu = t + 1 := ⟨fu - 1, by omega⟩
    show g262_3b (g262_3 f fu) f _ _ _ _ _ _ _ = _
    unfold g262_3b
    rw [if_pos (by omega), List.drop_of_length_le (by omega)]
    rfl
  | succ d ih =>
    intro k fu hk hfu
    obtain ⟨fu, rfl⟩ : ∃ t, fu = t + 1 := ⟨fu - 1, by omega⟩
    have e1 : xwr ((i : Int) + (k : Int)) = ((i + k : Nat) : Int) := by rw [xwr_g _ (by omega) (by omega)]; omega
    have e2 : xwr ((j : Int) + (k : Int)) = ((j + k : Nat) : Int) := by rw [xwr_g _ (by omega) (by omega)]; omega
    have e3 : xwr ((k : Int) + 1) = ((k + 1 : Nat) : Int) := by rw [xwr_g _ (by omega) (by omega)]; omega
    show g262_3b (g262_3 f fu) f _ _ _ _ _ _ _ = _
    unfold g262_3b g262_47
    rw [if_neg (by omega), e1, e2, if_pos (by omega), if_pos (by omega), Int.toNat_natCast, Int.toNat_natCast, x4 k (by omega), y4 k (by omega), e3, drop_c (by omega : k < xs.length), drop_c (by omega : k < ys.length)]
    show _ = some (vCmp (_ :: _) (_ :: _), G)
    unfold vCmp
    by_cases c : xs.getD k 0 = ys.getD k 0
    · rw [if_pos c, if_pos c]
      exact ih (k + 1) fu (by omega) (by omega)
    · rw [if_neg c, if_neg c, if_pos (by omega), if_pos (by omega)]
      by_cases c2 : xs.getD k 0 < ys.getD k 0
      · rw [if_neg (by omega), if_pos c2]
      · rw [if_pos (by omega), if_neg c2]
/-- compareRows -/
theorem l_262 (hf : 20 < f) (hx : rVe G a i xs) (hy : rVe G b j ys) (hn : xs.length = n) (hm : ys.length = n) : g262 f a (i : Int) b (j : Int) (n : Int) G = some (vCmp xs ys, G) := by
  unfold g262
  have := l_262_3 (f := f) hx hy hn hm n 0 f (by omega) (by have := hx.2.2.1; omega)
  exact this
theorem l_195_41 (hx : rVe G a i xs) (hy : rVe G b j ys) (hn : xs.length = n) (hm : ys.length = n) : ∀ (d k fu : Nat), k + d = n → d < fu → g195_41 f fu (n : Int) a (i : Int) b (j : Int) (k : Int) G = some (vCmp (xs.drop k) (ys.drop k), G) := by
  obtain ⟨x1, x2, x3, x4⟩ := hx
  obtain ⟨y1, y2, y3, y4⟩ := hy
  intro d
  induction d with
  | zero =>
    intro k fu hk hfu
    obtain ⟨fu, rfl⟩ : ∃ t, fu = t + 1 := ⟨fu - 1, by omega⟩
    show g195_41b (g195_41 f fu) f _ _ _ _ _ _ _ = _
    unfold g195_41b
    rw [if_pos (by omega), List.drop_of_length_le (by omega)]
    rfl
  | succ d ih =>
    intro k fu hk hfu
    obtain ⟨fu, rfl⟩ : ∃ t, fu = t + 1 := ⟨fu - 1, by omega⟩
    have e1 : xwr ((i : Int) + (k : Int)) = ((i + k : Nat) : Int) := by rw [xwr_g _ (by omega) (by omega)]; omega
    have e2 : xwr ((j : Int) + (k : Int)) = ((j + k : Nat) : Int) := by rw [xwr_g _ (by omega) (by omega)]; omega
    have e3 : xwr ((k : Int) + 1) = ((k + 1 : Nat) : Int) := by rw [xwr_g _ (by omega) (by omega)]; omega
    show g195_41b (g195_41 f fu) f _ _ _ _ _ _ _ = _
    unfold g195_41b g195_90
    rw [if_neg (by omega), e1, e2, if_pos (by omega), if_pos (by omega), Int.toNat_natCast, Int.toNat_natCast, x4 k (by omega), y4 k (by omega), e3, drop_c (by omega : k < xs.length), drop_c (by omega : k < ys.length)]
    show _ = some (vCmp (_ :: _) (_ :: _), G)
    unfold vCmp
    by_cases c : xs.getD k 0 = ys.getD k 0
    · rw [if_pos c, if_pos c]
      exact ih (k + 1) fu (by omega) (by omega)
    · rw [if_neg c, if_neg c, if_pos (by omega), if_pos (by omega)]
      by_cases c2 : xs.getD k 0 < ys.getD k 0
      · rw [if_neg (by omega), if_pos c2]
      · rw [if_pos (by omega), if_neg c2]
/-- compare -/
theorem l_195 {u v : Int} (hf : 20 < f) (hx : rVe G a i xs) (hy : rVe G b j ys) : g195 f u (xs.length : Int) a (i : Int) v (ys.length : Int) b (j : Int) G = some (fCmp (u, xs) (v, ys), G) := by
  unfold g195 g195_19 g195_37 fCmp
  by_cases c1 : u = v
  · rw [if_pos c1, if_pos c1]
    by_cases c2 : xs.length = ys.length
    · rw [if_pos (by omega), if_pos c2]
      have := l_195_41 (f := f) hx hy rfl c2.symm xs.length 0 f (by omega) (by have := hx.2.2.1; omega)
      exact this
    · rw [if_neg (by omega), if_neg c2]
      by_cases c3 : xs.length < ys.length
      · rw [if_neg (by omega), if_pos c3]
      · rw [if_pos (by omega), if_neg c3]
  · rw [if_neg c1, if_neg c1]
    by_cases c3 : u < v
    · rw [if_neg (by omega), if_pos c3]
    · rw [if_pos (by omega), if_neg c3]
end
/-- where facts may lie -/
def isFb (b : Nat) : Prop := b = 243 ∨ b = 247 ∨ b = 253 ∨ b = 124 ∨ b = 153 ∨ b = 182 ∨ b = 211
theorem isFb.len {b : Nat} (h : isFb b) : ((xl_t (b + 2)).2.2 : Int) = 13600 := by
  rcases h with rfl | rfl | rfl | rfl | rfl | rfl | rfl <;> decide +kernel
def rFa (G : xG_) (b : Nat) (F : List pFc) : Prop := G b 3 = (F.length : Int) ∧ F.length ≤ 3400 ∧ ∀ i, i < F.length → G (b + 1) i = (F.getD i dFc).1 ∧ G (b + 3) i = ((F.getD i dFc).2.length : Int) ∧ (F.getD i dFc).2.length ≤ 4 ∧ ∀ j, j < 4 → G (b + 2) (4 * i + j) = (F.getD i dFc).2.getD j 0
theorem rFa.ve {G : xG_} {b i : Nat} {F : List pFc} (hb : isFb b) (h : rFa G b F) (hi : i < F.length) : rVe G (b + 2) (4 * i) (F.getD i dFc).2 := by
  obtain ⟨a1, a2, a3⟩ := h
  obtain ⟨b1, b2, b3, b4⟩ := a3 i hi
  refine ⟨by rw [hb.len]; omega, by omega, by omega, fun k hk => b4 k (by omega)⟩
section
variable {f b c i : Nat} {G : xG_} {F : List pFc} {x : pFc}
/-- where a fact stands, or would -/
def fPl (F : List pFc) (x : pFc) (k : Nat) : Prop := k ≤ F.length ∧ (∀ i, i < k → fLt (F.getD i dFc) x) ∧ ∀ i, k ≤ i → i < F.length → ¬ fLt (F.getD i dFc) x
theorem l_196_9 (hf : 20 < f) (hb : isFb b) (h : rFa G b F) (hs : F.Pairwise fLt) (hx : rVe G c i x.2) : ∀ (d fu lo hi : Nat), hi ≤ lo + d → d < fu → lo ≤ hi → hi ≤ F.length → (∀ i, i < lo → fLt (F.getD i dFc) x) → (∀ i, hi ≤ i → i < F.length → ¬ fLt (F.getD i dFc) x) →
    ∃ k : Nat, g196_9 f fu b x.1 (x.2.length : Int) c (i : Int) (lo : Int) (hi : Int) G = some ((k : Int), G) ∧ fPl F x k := by
  have hl := h.2.1
  intro d
  induction d with
  | zero =>
    intro fu lo hi h1 h2 h3 h4 h5 h6
    obtain ⟨fu, rfl⟩ : ∃ t, fu = t + 1 := ⟨fu - 1, by omega⟩
    refine ⟨lo, ?_, by omega, h5, fun j k1 k2 => h6 j (by omega) k2⟩
    show g196_9b (g196_9 f fu) f _ _ _ _ _ _ _ _ = _
    unfold g196_9b
    rw [if_pos (by omega)]
  | succ d ih =>
    intro fu lo hi h1 h2 h3 h4 h5 h6
    obtain ⟨fu, rfl⟩ : ∃ t, fu = t + 1 := ⟨fu - 1, by omega⟩
    by_cases c0 : hi ≤ lo
    · refine ⟨lo, ?_, by omega, h5, fun j k1 k2 => h6 j (by omega) k2⟩
      show g196_9b (g196_9 f fu) f _ _ _ _ _ _ _ _ = _
      unfold g196_9b
      rw [if_pos (by omega)]
    · have e1 : xush (xwr ((lo : Int) + (hi : Int))) 1 = (((lo + hi) / 2 : Nat) : Int) := by
        rw [xwr_g _ (by omega) (by omega), xush_1 _ (by omega) (by omega)]
        omega
      have hm : (lo + hi) / 2 < F.length := by omega
      have e2 : xwr (4 * (((lo + hi) / 2 : Nat) : Int)) = ((4 * ((lo + hi) / 2) : Nat) : Int) := by
        rw [xwr_g _ (by omega) (by omega)]
        omega
      have e3 : xwr ((((lo + hi) / 2 : Nat) : Int) + 1) = (((lo + hi) / 2 + 1 : Nat) : Int) := by
        rw [xwr_g _ (by omega) (by omega)]
        omega
      obtain ⟨q1, q2, q3, q4⟩ := h.2.2 _ hm
      have step : g196_9 f (fu + 1) b x.1 (x.2.length : Int) c (i : Int) (lo : Int) (hi : Int) G = if 0 ≤ fCmp (F.getD ((lo + hi) / 2) dFc) x then g196_9 f fu b x.1 (x.2.length : Int) c (i : Int) (lo : Int) (((lo + hi) / 2 : Nat) : Int) G else g196_9 f fu b x.1 (x.2.length : Int) c (i : Int) (((lo + hi) / 2 + 1 : Nat) : Int) (hi : Int) G := by
        show g196_9b (g196_9 f fu) f _ _ _ _ _ _ _ _ = _
        unfold g196_9b g196_72
        rw [if_neg (by omega), e1, if_pos (by omega), if_pos (by omega), Int.toNat_natCast, q1, q2, e2, l_195 hf (h.ve hb hm) hx, Option.bind_some, e3]
      rw [step]
      by_cases c1 : 0 ≤ fCmp (F.getD ((lo + hi) / 2) dFc) x
      · rw [if_pos c1]
        refine ih fu lo ((lo + hi) / 2) (by omega) (by omega) (by omega) (by omega) h5 (fun j k1 k2 k3 => ?_)
        by_cases ce : j = (lo + hi) / 2
        · unfold fLt at k3
          rw [ce] at k3
          omega
        · have k4 : fLt (F.getD ((lo + hi) / 2) dFc) (F.getD j dFc) := srt_get hs (by omega) k2
          have k5 := fLt_tr k4 k3
          unfold fLt at k5
          omega
      · rw [if_neg c1]
        refine ih fu ((lo + hi) / 2 + 1) hi (by omega) (by omega) (by omega) h4 (fun j k1 => ?_) h6
        have k3 : fLt (F.getD ((lo + hi) / 2) dFc) x := by unfold fLt; omega
        by_cases ce : j = (lo + hi) / 2
        · rw [ce]; exact k3
        · exact fLt_tr (srt_get hs (by omega) hm) k3
theorem l_196 (hf : 3500 < f) (hb : isFb b) (h : rFa G b F) (hs : F.Pairwise fLt) (hx : rVe G c i x.2) : ∃ k : Nat, g196 f b x.1 (x.2.length : Int) c (i : Int) G = some ((k : Int), G) ∧ fPl F x k := by
  have hl := h.2.1
  unfold g196
  rw [h.1]
  exact l_196_9 (by omega) hb h hs hx F.length f 0 F.length (by omega) (by omega) (by omega) (by omega) (fun _ h => absurd h (by omega)) (fun _ h1 h2 => absurd h2 (by omega))
theorem fPl.mem {k : Nat} (hs : F.Pairwise fLt) (h : fPl F x k) : x ∈ F ↔ k < F.length ∧ F.getD k dFc = x := by
  obtain ⟨h1, h2, h3⟩ := h
  constructor
  · intro hx
    obtain ⟨j, hj, rfl⟩ := List.getElem_of_mem hx
    have ej : F.getD j dFc = F[j] := getD_e hj
    have k1 : ¬ j < k := fun c => fLt_irr _ (by have := h2 j c; rw [ej] at this; exact this)
    have k2 : ¬ k < j := fun c => h3 k (by omega) (by omega) (by have := srt_get (d := dFc) hs c hj; rw [ej] at this; exact this)
    have : j = k := by omega
    subst this
    exact ⟨hj, ej⟩
  · rintro ⟨k1, k2⟩
    rw [← k2, getD_e k1]
    exact List.getElem_mem k1
/-- has -/
theorem l_197 (hf : 3500 < f) (hb : isFb b) (h : rFa G b F) (hs : F.Pairwise fLt) (hx : rVe G c i x.2) : g197 f b x.1 (x.2.length : Int) c (i : Int) G = some (if x ∈ F then 1 else 0, G) := by
  obtain ⟨k, e1, e2⟩ := l_196 hf hb h hs hx
  have hm := e2.mem hs
  have hl := h.2.1
  have hk := e2.1
  unfold g197
  rw [e1, Option.bind_some]
  show (if G b 3 ≤ (k : Int) then _ else _) = _
  rw [h.1]
  by_cases c1 : k < F.length
  · obtain ⟨q1, q2, q3, q4⟩ := h.2.2 _ c1
    have e4 : xwr (4 * (k : Int)) = ((4 * k : Nat) : Int) := by
      rw [xwr_g _ (by omega) (by omega)]
      omega
    rw [if_neg (by omega), if_pos (by omega), if_pos (by omega)]
    show Option.bind (g195 f (G (b + 1) ((k : Int)).toNat) (G (b + 3) ((k : Int)).toNat) (b + 2) (xwr (4 * (k : Int))) _ _ _ _ G) _ = _
    rw [Int.toNat_natCast, q1, q2, e4, l_195 (by omega) (h.ve hb c1) hx, Option.bind_some]
    by_cases c2 : fCmp (F.getD k dFc) x = 0
    · have c3 : ¬ ¬ (fCmp ((F.getD k dFc).1, (F.getD k dFc).2) (x.1, x.2), G).1 = 0 := fun q => q c2
      rw [if_neg c3, if_pos (hm.mpr ⟨c1, fCmp_eq c2⟩)]
      rfl
    · have c3 : ¬ (fCmp ((F.getD k dFc).1, (F.getD k dFc).2) (x.1, x.2), G).1 = 0 := c2
      rw [if_pos c3, if_neg (fun q => c2 (by rw [(hm.mp q).2]; exact fCmp_self x))]
      rfl
  · rw [if_pos (by omega), if_neg (fun q => c1 (hm.mp q).1)]
    rfl
end
