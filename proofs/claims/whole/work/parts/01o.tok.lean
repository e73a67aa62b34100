/-! TOKENS of themselves: B is a text, -1 from its end (n) on -/
abbrev tBl (c : Int) : Prop := c = 9 ∨ c = 10 ∨ c = 13 ∨ c = 32
abbrev tSm (c : Int) : Prop := 97 ≤ c ∧ c ≤ 122
abbrev tGr (c : Int) : Prop := 65 ≤ c ∧ c ≤ 90
abbrev tDi (c : Int) : Prop := 48 ≤ c ∧ c ≤ 57
abbrev tNm (c : Int) : Prop := tSm c ∨ tDi c ∨ c = 95
abbrev tVr (c : Int) : Prop := tSm c ∨ tGr c ∨ tDi c
def tTx (B : Nat → Int) (n : Nat) : Prop := ∀ p, (p < n → 0 ≤ B p ∧ B p ≤ 255) ∧ (n ≤ p → B p = -1)
theorem tTx.neg {B : Nat → Int} {n p : Nat} (h : tTx B n) : B p < 0 ↔ n ≤ p := by
  have h1 := h p
  constructor
  · intro q; exact Nat.le_of_not_lt (fun c => by have := h1.1 c; omega)
  · intro q; have := h1.2 q; omega
theorem tTx.lt {B : Nat → Int} {n p : Nat} (h : tTx B n) (hp : 0 ≤ B p) : p < n := Nat.lt_of_not_le (fun c => by have := (h p).2 c; omega)
theorem tTx.le {B : Nat → Int} {n : Nat} (h : tTx B n) (p : Nat) : -1 ≤ B p ∧ B p ≤ 255 := by
  have h1 := h p
  by_cases c : p < n
  · have := h1.1 c; omega
  · have := h1.2 (by omega); omega
/-- blanks and remarks -/
def tskip (B : Nat → Int) : Nat → Bool → Nat → Nat
  | 0, _, p => p
  | k + 1, r, p => if B p < 0 then p else if B p ≠ 10 ∧ (r = true ∨ B p = 35) then tskip B k true (p + 1) else if tBl (B p) then tskip B k false (p + 1) else p
def tsk (B : Nat → Int) (n : Nat) (r : Bool) (p : Nat) : Nat := tskip B (n - p) r p
theorem tsk_eq {B : Nat → Int} {n p : Nat} (h : tTx B n) (r : Bool) (hp : p ≤ n) : tsk B n r p = if B p < 0 then p else if B p ≠ 10 ∧ (r = true ∨ B p = 35) then tsk B n true (p + 1) else if tBl (B p) then tsk B n false (p + 1) else p := by
  unfold tsk
  by_cases c : p < n
  · obtain ⟨k, hk⟩ : ∃ k, n - p = k + 1 := ⟨n - p - 1, by omega⟩
    have hk2 : n - (p + 1) = k := by omega
    rw [hk, hk2]
    rfl
  · have : n - p = 0 := by omega
    rw [this, if_pos (h.neg.mpr (by omega))]
    rfl
theorem tsk_le {B : Nat → Int} {n : Nat} (h : tTx B n) : ∀ (k p : Nat) (r : Bool), n - p = k → p ≤ n → p ≤ tsk B n r p ∧ tsk B n r p ≤ n ∧ ¬ tBl (B (tsk B n r p)) ∧ B (tsk B n r p) ≠ 35 := by
  intro k
  induction k with
  | zero =>
    intro p r hk hp
    have hn : B p < 0 := h.neg.mpr (by omega)
    rw [tsk_eq h r hp, if_pos hn]
    unfold tBl
    omega
  | succ k ih =>
    intro p r hk hp
    have h1 := ih (p + 1) true (by omega) (by omega)
    have h2 := ih (p + 1) false (by omega) (by omega)
    rw [tsk_eq h r hp]
    have hn := h.neg (p := p)
    unfold tBl at *
    grind
/-- the end of a run of signs -/
def trun (B : Nat → Int) (P : Int → Prop) [DecidablePred P] : Nat → Nat → Nat
  | 0, p => p
  | k + 1, p => if P (B p) then trun B P k (p + 1) else p
theorem trun_is {B : Nat → Int} {P : Int → Prop} [DecidablePred P] {n : Nat} (h : tTx B n) (hP : ¬ P (-1)) : ∀ (k p : Nat), n - p ≤ k → p ≤ n → p ≤ trun B P k p ∧ trun B P k p ≤ n ∧ (∀ j, p ≤ j → j < trun B P k p → P (B j)) ∧ ¬ P (B (trun B P k p)) := by
  intro k
  induction k with
  | zero =>
    intro p hk hp
    have e : p = n := by omega
    refine ⟨Nat.le_refl _, hp, fun j h1 h2 => absurd h1 (by have : trun B P 0 p = p := rfl; omega), ?_⟩
    show ¬ P (B p)
    rw [(h p).2 (by omega)]
    exact hP
  | succ k ih =>
    intro p hk hp
    unfold trun
    by_cases c : P (B p)
    · rw [if_pos c]
      have hlt : p < n := by
        by_cases q : p < n
        · exact q
        · rw [(h p).2 (by omega)] at c; exact absurd c hP
      have h1 := ih (p + 1) (by omega) (by omega)
      refine ⟨by omega, h1.2.1, fun j h2 h3 => ?_, h1.2.2.2⟩
      by_cases e : j = p
      · rw [e]; exact c
      · exact h1.2.2.1 j (by omega) h3
    · rw [if_neg c]
      exact ⟨Nat.le_refl _, hp, fun j h2 h3 => by omega, c⟩
theorem trun_uniq {B : Nat → Int} {P : Int → Prop} {p e e' : Nat} (h1 : ∀ j, p ≤ j → j < e → P (B j)) (h2 : ¬ P (B e)) (h3 : ∀ j, p ≤ j → j < e' → P (B j)) (h4 : ¬ P (B e')) (h5 : p ≤ e) (h6 : p ≤ e') : e = e' := by
  rcases Nat.lt_trichotomy e e' with c | c | c
  · exact absurd (h3 e h5 c) h2
  · exact c
  · exact absurd (h1 e' h6 c) h4
/-- signs as one number -/
def tenc (b : Int) (d : Int → Int) (B : Nat → Int) (s : Nat) : Nat → Int
  | 0 => 0
  | k + 1 => tenc b d B s k * b + d (B (s + k))
def d63 (c : Int) : Int := if 65 ≤ c ∧ c ≤ 90 then c - 64 else if 97 ≤ c ∧ c ≤ 122 then c - 70 else c + 5
theorem tenc_in {b : Int} {d : Int → Int} {B : Nat → Int} {s : Nat} (hb : 1 ≤ b) : ∀ k, (∀ j, j < k → 1 ≤ d (B (s + j)) ∧ d (B (s + j)) < b) → 0 ≤ tenc b d B s k ∧ tenc b d B s k < b ^ k := by
  intro k
  induction k with
  | zero => intro _; exact ⟨Int.le_refl _, by simp [tenc]⟩
  | succ k ih =>
    intro h
    have h1 := ih (fun j hj => h j (by omega))
    have h2 := h k (by omega)
    have h3 : tenc b d B s (k + 1) = tenc b d B s k * b + d (B (s + k)) := rfl
    rw [h3, Int.pow_succ]
    have h4 : 0 ≤ tenc b d B s k * b := Int.mul_nonneg h1.1 (by omega)
    have h5 : (tenc b d B s k + 1) * b ≤ b ^ k * b := Int.mul_le_mul_of_nonneg_right (by omega) (by omega)
    rw [Int.add_mul] at h5
    omega
theorem tenc_inj {b : Int} {d : Int → Int} {B : Nat → Int} {s t : Nat} {C : Nat → Int} : ∀ k l, (∀ j, j < k → 1 ≤ d (B (s + j)) ∧ d (B (s + j)) < b) → (∀ j, j < l → 1 ≤ d (C (t + j)) ∧ d (C (t + j)) < b) → tenc b d B s k = tenc b d C t l → k = l ∧ ∀ j, j < k → d (B (s + j)) = d (C (t + j)) := by
  have pos : ∀ {D : Nat → Int} {u : Nat} k, (∀ j, j < k + 1 → 1 ≤ d (D (u + j)) ∧ d (D (u + j)) < b) → 0 < tenc b d D u (k + 1) := by
    intro D u k h
    have h1 := h k (by omega)
    have h2 := tenc_in (b := b) (d := d) (B := D) (s := u) (by omega) k (fun j hj => h j (by omega))
    have h3 : tenc b d D u (k + 1) = tenc b d D u k * b + d (D (u + k)) := rfl
    have h4 : 0 ≤ tenc b d D u k * b := Int.mul_nonneg h2.1 (by omega)
    omega
  intro k
  induction k with
  | zero =>
    intro l _ h2 e
    cases l with
    | zero => exact ⟨rfl, fun j hj => by omega⟩
    | succ l => have := pos l h2; rw [← e] at this; exact absurd this (by simp [tenc])
  | succ k ih =>
    intro l h1 h2 e
    cases l with
    | zero => have := pos k h1; rw [e] at this; exact absurd this (by simp [tenc])
    | succ l =>
      have e1 : tenc b d B s k * b + d (B (s + k)) = tenc b d C t l * b + d (C (t + l)) := e
      have a1 := h1 k (by omega)
      have a2 := h2 l (by omega)
      have hd : d (B (s + k)) = d (C (t + l)) := by
        have m1 : (tenc b d B s k * b + d (B (s + k))) % b = d (B (s + k)) := by rw [Int.add_comm, Int.add_mul_emod_self_right, Int.emod_eq_of_lt (by omega) (by omega)]
        have m2 : (tenc b d C t l * b + d (C (t + l))) % b = d (C (t + l)) := by rw [Int.add_comm, Int.add_mul_emod_self_right, Int.emod_eq_of_lt (by omega) (by omega)]
        rw [← m1, ← m2, e1]
      have hm : tenc b d B s k * b = tenc b d C t l * b := by omega
      have hq := Int.eq_of_mul_eq_mul_right (by omega) hm
      have h3 := ih l (fun j hj => h1 j (by omega)) (fun j hj => h2 j (by omega)) hq
      refine ⟨by omega, fun j hj => ?_⟩
      by_cases c : j = k
      · rw [c, hd, h3.1]
      · exact h3.2 j (by omega)
/-- a word's number, a number's -/
def tword (B : Nat → Int) (s e : Nat) : Nat → Int
  | 0 => 0
  | k + 1 => tword B s e k * 27 + (if s + k < e then B (s + k) - 96 else 0)
def tnum (cap : Int) (B : Nat → Int) (s : Nat) : Nat → Int
  | 0 => 0
  | k + 1 => min (tnum cap B s k * 10 + B (s + k) - 48) cap
def tcell (B : Nat → Int) (s e : Nat) : Int :=
  if 6 ≤ B s - 65 then -1
  else if e = s + 2 then (if 49 ≤ B (s + 1) ∧ B (s + 1) ≤ 57 then B s - 65 + 6 * (B (s + 1) - 49) else -1)
  else if e = s + 3 then (if B (s + 1) = 49 ∧ 48 ≤ B (s + 2) ∧ B (s + 2) ≤ 50 then B s - 65 + 6 * (B (s + 2) - 39) else -1)
  else -1
def tres (c : Int) : Int := if c = 19558354 then 6 else if c = 1233436738 then 7 else if c = 16099 then 8 else if c = 20806 then 9 else if c = 7109364 then 10 else if c = 28247 then 11 else if c = 25298178 then 12 else if c = 735738 then 13 else 1
def tsgn (c d : Int) : Int :=
  if c = 58 ∧ d = 45 then 256 else if c = 33 ∧ d = 61 then 257 else if c = 60 ∧ d = 61 then 258 else if c = 62 ∧ d = 61 then 259
  else if c = 95 then 3 else if c = 40 ∨ c = 41 ∨ c = 44 ∨ c = 46 ∨ c = 47 ∨ c = 58 ∨ c = 43 ∨ c = 45 ∨ c = 42 ∨ c = 37 ∨ c = 61 ∨ c = 60 ∨ c = 62 then c else 5
/-- a TOKEN that begins at s: its end, its kind (0 END, 1 NAME, 2 VARIABLE, 3 _, 4 NUMBER, 5 none, 6 to 13 words with a meaning, 256 to 259 signs of two bytes, else a sign), its signs' number, what it stands for -/
def tnend (B : Nat → Int) (n s : Nat) : Nat := trun B tNm (n - s) s
def tvend (B : Nat → Int) (n s : Nat) : Nat := trun B tVr (n - s) s
def tdend (B : Nat → Int) (n s : Nat) : Nat := if B s = 48 then s + 1 else trun B tDi (n - s) s
def tsens (B : Nat → Int) (s e : Nat) : Int := if (∀ i, i < e - s → tSm (B (s + i))) ∧ e - s ≤ 8 then 2000000000000 + tword B s e 8 else -1
def tncode (B : Nat → Int) (s e : Nat) : Int := tenc 38 xdig B s (min (e - s) 12)
def tvcode (B : Nat → Int) (s e : Nat) : Int := tenc 64 xdig B s (min (e - s) 8)
def ten (B : Nat → Int) (n s : Nat) : Nat :=
  if B s < 0 then s
  else if tSm (B s) then tnend B n s
  else if tGr (B s) then tvend B n s
  else if tDi (B s) then tdend B n s
  else if 256 ≤ tsgn (B s) (B (s + 1)) then s + 2 else s + 1
def tkd (B : Nat → Int) (n s : Nat) : Int :=
  if B s < 0 then 0
  else if tSm (B s) then tres (tncode B s (tnend B n s))
  else if tGr (B s) then 2
  else if tDi (B s) then 4
  else tsgn (B s) (B (s + 1))
def tco (B : Nat → Int) (n s : Nat) : Int :=
  if tSm (B s) then tncode B s (tnend B n s)
  else if tGr (B s) then tvcode B s (tvend B n s)
  else if tDi (B s) then tnum 1000000000001 B s (tdend B n s - s)
  else 0
def tse (B : Nat → Int) (n s : Nat) : Int :=
  if tSm (B s) then tsens B s (tnend B n s)
  else if tGr (B s) then tcell B s (tvend B n s)
  else 0
/-- where the TOKENS of a text begin, END again and again behind the last one -/
def tS (B : Nat → Int) (n : Nat) : Nat → Nat
  | 0 => tsk B n false 0
  | k + 1 => tsk B n false (ten B n (tS B n k))
theorem tsgn_2 {c d : Int} (h : 256 ≤ tsgn c d) : 0 ≤ d := by
  unfold tsgn at h
  repeat' split at h
  all_goals omega
theorem ten_le {B : Nat → Int} {n s : Nat} (h : tTx B n) (hs : s ≤ n) : s ≤ ten B n s ∧ ten B n s ≤ n ∧ (0 ≤ B s → s < ten B n s) := by
  have hn := trun_is (P := tNm) h (by decide) (n - s) s (Nat.le_refl _) hs
  have hv := trun_is (P := tVr) h (by decide) (n - s) s (Nat.le_refl _) hs
  have hd := trun_is (P := tDi) h (by decide) (n - s) s (Nat.le_refl _) hs
  have h0 := h.neg (p := s)
  have h1 := h.neg (p := s + 1)
  unfold ten
  split
  · omega
  split
  · rename_i c1 c2
    refine ⟨hn.1, hn.2.1, fun _ => Nat.lt_of_le_of_ne hn.1 (fun e => hn.2.2.2 ?_)⟩
    have e2 : trun B tNm (n - s) s = s := e.symm
    rw [e2]; exact .inl c2
  split
  · rename_i c1 c2 c3
    refine ⟨hv.1, hv.2.1, fun _ => Nat.lt_of_le_of_ne hv.1 (fun e => hv.2.2.2 ?_)⟩
    have e2 : trun B tVr (n - s) s = s := e.symm
    rw [e2]; exact .inr (.inl c3)
  split
  · rename_i c1 c2 c3 c4
    unfold tdend
    split
    · omega
    · refine ⟨hd.1, hd.2.1, fun _ => Nat.lt_of_le_of_ne hd.1 (fun e => hd.2.2.2 ?_)⟩
      rw [← e]; exact c4
  · have hs2 : 256 ≤ tsgn (B s) (B (s + 1)) → 0 ≤ B (s + 1) := tsgn_2
    split <;> omega
theorem tS_le {B : Nat → Int} {n : Nat} (h : tTx B n) (k : Nat) : tS B n k ≤ n ∧ ¬ tBl (B (tS B n k)) ∧ B (tS B n k) ≠ 35 := by
  cases k with
  | zero => have := tsk_le h n 0 false (by omega) (by omega); exact ⟨this.2.1, this.2.2⟩
  | succ k =>
    have hk : tS B n k ≤ n := by
      induction k with
      | zero => exact (tsk_le h n 0 false (by omega) (by omega)).2.1
      | succ k ih => exact (tsk_le h _ _ false rfl (ten_le h ih).2.1).2.1
    have := tsk_le h _ (ten B n (tS B n k)) false rfl (ten_le h hk).2.1
    exact ⟨this.2.1, this.2.2⟩
