section
/-! Small rules for what follows -/
theorem xup2_e (G : xG_) (o i : Nat) (v : Int) (p j : Nat) : xup2 G o i v p j = if p = o ∧ j = i then v else G p j := rfl
theorem xwr_g (a : Int) (h1 : -2147483648 ≤ a) (h2 : a < 2147483648) : xwr a = a := by
  unfold xwr
  exact Int32.toInt_ofInt_of_le h1 h2
theorem xwl_g (a : Int) (h1 : -9223372036854775808 ≤ a) (h2 : a < 9223372036854775808) : xwl a = a := by
  unfold xwl
  exact Int64.toInt_ofInt_of_le h1 h2
theorem xup2_s (G : xG_) (o i : Nat) (v : Int) : xup2 G o i v o i = v := by unfold xup2; rw [if_pos ⟨rfl, rfl⟩]
theorem xup2_n {G : xG_} {o i p j : Nat} {v : Int} (h : ¬ (p = o ∧ j = i)) : xup2 G o i v p j = G p j := by unfold xup2; rw [if_neg h]
theorem xup2_w (G : xG_) (o i : Nat) (a b : Int) : xup2 (xup2 G o i a) o i b = xup2 G o i b := by
  funext p j
  unfold xup2
  by_cases h : p = o ∧ j = i
  · rw [if_pos h, if_pos h]
  · rw [if_neg h, if_neg h, if_neg h]
theorem xup2_c {G : xG_} {o i p j : Nat} {a b : Int} (h : ¬ (p = o ∧ j = i)) : xup2 (xup2 G o i a) p j b = xup2 (xup2 G p j b) o i a := by
  funext q k
  unfold xup2
  by_cases h1 : q = p ∧ k = j
  · rw [if_pos h1]
    by_cases h2 : q = o ∧ k = i
    · exact absurd ⟨h1.1 ▸ h2.1, h1.2 ▸ h2.2⟩ h
    · rw [if_neg h2, if_pos h1]
  · rw [if_neg h1]
    by_cases h2 : q = o ∧ k = i
    · rw [if_pos h2, if_pos h2]
    · rw [if_neg h2, if_neg h2, if_neg h1]
theorem xup2_id {G : xG_} {o i : Nat} {v : Int} (h : G o i = v) : xup2 G o i v = G := by
  funext p j
  unfold xup2
  by_cases e : p = o ∧ j = i
  · rw [if_pos e, e.1, e.2, h]
  · rw [if_neg e]
/-- only fields of the reference itself have changed -/
def xfr (S : List Nat) (G G' : xG_) : Prop := ∀ o i, ¬ (o = 0 ∧ i ∈ S) → G' o i = G o i
theorem xfr_refl (S : List Nat) (G : xG_) : xfr S G G := fun _ _ _ => rfl
theorem xfr_trans {S : List Nat} {G G1 G2 : xG_} (h : xfr S G G1) (h1 : xfr S G1 G2) : xfr S G G2 := fun o i q => (h1 o i q).trans (h o i q)
theorem xfr_up {S : List Nat} {G : xG_} {k : Nat} {v : Int} (h : k ∈ S) : xfr S G (xup2 G 0 k v) := fun o i q => xup2_n (fun e => q ⟨e.1, e.2 ▸ h⟩)
theorem xfr_mono {S S' : List Nat} {G G' : xG_} (h : xfr S G G') (hs : ∀ x, x ∈ S → x ∈ S') : xfr S' G G' := fun o i q => h o i (fun e => q ⟨e.1, hs _ e.2⟩)
/-- the byte at a place of the text; -1 at its end -/
def gB (G : xG_) (p : Int) : Int := if G 0 1 ≤ p then -1 else xand (G (G 0 0).toNat p.toNat) 255
def gT (G : xG_) : Prop := (G 0 0 = 239 ∨ G 0 0 = 240) ∧ 0 ≤ G 0 1 ∧ G 0 1 ≤ ((xl_t (G 0 0).toNat).2.2 : Int)
theorem gT_len {G : xG_} (h : gT G) : G 0 1 ≤ 90000 := by
  have h1 := h.2.2
  rcases h.1 with e | e
  · rw [e] at h1; exact h1
  · rw [e] at h1
    have h2 : ((xl_t (240 : Int).toNat).2.2 : Int) = 3000 := by decide +kernel
    omega
theorem gsee {G : xG_} {f : Nat} {p : Int} (h : gT G) (hp : 0 ≤ p) : g209 f p G = some (gB G p, G) := by
  unfold g209 g209_22 gB
  by_cases c : G 0 1 ≤ p
  · rw [if_pos c, if_pos c]
  · rw [if_neg c, if_neg c, if_neg (by have := h.1; omega), if_pos ⟨hp, by have := h.2.2; omega⟩]
theorem gB_up {G : xG_} {k : Nat} {v p : Int} (h : gT G) (h0 : k ≠ 0) (h1 : k ≠ 1) : gB (xup2 G 0 k v) p = gB G p := by
  unfold gB
  have e0 : xup2 G 0 k v 0 0 = G 0 0 := xup2_n (by omega)
  have e1 : xup2 G 0 k v 0 1 = G 0 1 := xup2_n (by omega)
  rw [e0, e1, xup2_n (by have := h.1; omega)]
theorem gT_up {G : xG_} {k : Nat} {v : Int} (h : gT G) (h0 : k ≠ 0) (h1 : k ≠ 1) : gT (xup2 G 0 k v) := by
  unfold gT
  rw [xup2_n (by omega), xup2_n (by omega)]
  exact h
theorem gB_fr {S : List Nat} {G G' : xG_} {p : Int} (h : gT G) (hf : xfr S G G') (h0 : 0 ∉ S) (h1 : 1 ∉ S) : gB G' p = gB G p := by
  unfold gB
  rw [hf 0 0 (fun e => h0 e.2), hf 0 1 (fun e => h1 e.2), hf _ _ (fun e => by have := h.1; omega)]
theorem gT_fr {S : List Nat} {G G' : xG_} (h : gT G) (hf : xfr S G G') (h0 : 0 ∉ S) (h1 : 1 ∉ S) : gT G' := by
  unfold gT
  rw [hf 0 0 (fun e => h0 e.2), hf 0 1 (fun e => h1 e.2)]
  exact h
theorem xand_255 (x : Int) : 0 ≤ xand x 255 ∧ xand x 255 ≤ 255 := by
  unfold xand
  have h : (Int32.ofInt x &&& Int32.ofInt 255).toInt = ((Int32.ofInt x).toBitVec &&& 255#32).toInt := rfl
  rw [h]
  have h1 : ((Int32.ofInt x).toBitVec &&& 255#32).toNat ≤ 255 := by
    rw [BitVec.toNat_and]
    exact Nat.and_le_right
  have h2 : ((Int32.ofInt x).toBitVec &&& 255#32).toInt = (((Int32.ofInt x).toBitVec &&& 255#32).toNat : Int) := by
    rw [BitVec.toInt_eq_toNat_of_lt (by omega)]
  rw [h2]
  omega
theorem gB_in (G : xG_) (p : Int) : -1 ≤ gB G p ∧ gB G p ≤ 255 := by
  unfold gB
  split
  · omega
  · have := xand_255 (G (G 0 0).toNat p.toNat); omega
theorem gB_end {G : xG_} {p : Int} : gB G p = -1 ↔ G 0 1 ≤ p := by
  unfold gB
  have := xand_255 (G (G 0 0).toNat p.toNat)
  grind
theorem gsmall {f : Nat} {c : Int} {G : xG_} : g206 f c G = some (if 97 ≤ c ∧ c ≤ 122 then 1 else 0, G) := by
  unfold g206 g206_16 g206_17
  grind
theorem ggreat {f : Nat} {c : Int} {G : xG_} : g207 f c G = some (if 65 ≤ c ∧ c ≤ 90 then 1 else 0, G) := by
  unfold g207 g207_16 g207_17
  grind
theorem gdigit {f : Nat} {c : Int} {G : xG_} : g208 f c G = some (if 48 ≤ c ∧ c ≤ 57 then 1 else 0, G) := by
  unfold g208 g208_16 g208_17
  grind
/-- a sign's digit -/
def xdig (c : Int) : Int := if 97 ≤ c ∧ c ≤ 122 then c - 96 else if 48 ≤ c ∧ c ≤ 57 then c - 21 else if c = 95 then 37 else c - 27
theorem gdig {f : Nat} {c : Int} {G : xG_} (hc : -1 ≤ c ∧ c ≤ 255) : g215 f c G = some (xdig c, G) := by
  unfold g215 g215_51 xdig
  rw [gsmall]
  simp only [Option.bind_some]
  rw [gdigit]
  simp only [Option.bind_some]
  rw [xwr_g (38 + c) (by omega) (by omega), xwr_g (27 + c) (by omega) (by omega), xwr_g (1 + c) (by omega) (by omega), xwr_g (38 + c - 65) (by omega) (by omega), xwr_g (27 + c - 48) (by omega) (by omega), xwr_g (1 + c - 97) (by omega) (by omega)]
  grind
/-! A function that answers, and of what -/
def xok {α : Type} (o : Option α) (P : α → Prop) : Prop := ∃ r, o = some r ∧ P r
theorem xok_bind {α β : Type} {o : Option α} {k : α → Option β} {P : β → Prop} : xok (o.bind k) P ↔ xok o (fun v => xok (k v) P) := by
  constructor
  · rintro ⟨r, h, hp⟩
    cases o with
    | none => cases h
    | some v => exact ⟨v, rfl, r, h, hp⟩
  · rintro ⟨v, h1, r, h2, hp⟩
    refine ⟨r, ?_, hp⟩
    rw [h1]
    exact h2
theorem xok_some {α : Type} {r : α} {P : α → Prop} : xok (some r) P ↔ P r := by
  constructor
  · rintro ⟨s, h, hp⟩
    cases h
    exact hp
  · intro h
    exact ⟨r, rfl, h⟩
theorem xok_eq {α : Type} {o : Option α} {r : α} {P : α → Prop} (h : o = some r) (hp : P r) : xok o P := ⟨r, h, hp⟩
theorem xok_eqb {α β : Type} {o : Option α} {r : α} {k : α → Option β} {P : β → Prop} (h : o = some r) (hp : xok (k r) P) : xok (o.bind k) P := by
  rw [h]
  exact hp
theorem xok_ite {α : Type} {c : Prop} [Decidable c] {a b : Option α} {P : α → Prop} (h1 : c → xok a P) (h2 : ¬ c → xok b P) : xok (if c then a else b) P := by
  by_cases h : c
  · rw [if_pos h]; exact h1 h
  · rw [if_neg h]; exact h2 h
theorem xok_it {α : Type} {c : Prop} [Decidable c] {a b : Option α} {P : α → Prop} (h : c) (h1 : xok a P) : xok (if c then a else b) P := by rw [if_pos h]; exact h1
theorem xok_if {α : Type} {c : Prop} [Decidable c] {a b : Option α} {P : α → Prop} (h : ¬ c) (h1 : xok b P) : xok (if c then a else b) P := by rw [if_neg h]; exact h1
theorem xok_mono {α : Type} {o : Option α} {P Q : α → Prop} (h : xok o P) (hq : ∀ r, P r → Q r) : xok o Q := by
  obtain ⟨r, h1, h2⟩ := h
  exact ⟨r, h1, hq r h2⟩
theorem xok_call {α β : Type} {o : Option α} {k : α → Option β} {P : α → Prop} {Q : β → Prop} (h : xok o P) (hk : ∀ r, P r → xok (k r) Q) : xok (o.bind k) Q := by
  obtain ⟨r, h1, h2⟩ := h
  rw [h1]
  exact hk r h2
theorem i10 (c : Prop) [Decidable c] : ((if c then (1 : Int) else 0) = 0) = ¬ c := by
  by_cases h : c
  · rw [if_pos h]; simp [h]
  · rw [if_neg h]; simp [h]
theorem i01 (c : Prop) [Decidable c] : ((if c then (0 : Int) else 1) = 0) = c := by
  by_cases h : c
  · rw [if_pos h]; simp [h]
  · rw [if_neg h]; simp [h]
theorem xok_sb {α β : Type} {a : α} {k : α → Option β} {P : β → Prop} (h : xok (k a) P) : xok ((some a).bind k) P := h
theorem xok_is {α : Type} {o : Option α} {a : α} (h : xok o (fun Z => Z = a)) : o = some a := by
  obtain ⟨r, h1, h2⟩ := h
  rw [h1, h2]
end
section
/-! TOKENS of themselves: B is a text, -1 from its end (n) on -/
abbrev tBl (c : Int) : Prop := c = 9 ∨ c = 10 ∨ c = 13 ∨ c = 32
abbrev tSm (c : Int) : Prop := 97 ≤ c ∧ c ≤ 122
abbrev tGr (c : Int) : Prop := 65 ≤ c ∧ c ≤ 90
abbrev tDi (c : Int) : Prop := 48 ≤ c ∧ c ≤ 57
abbrev tNm (c : Int) : Prop := tSm c ∨ tDi c ∨ c = 95
abbrev tVr (c : Int) : Prop := tSm c ∨ tGr c ∨ tDi c
def tTx (B : Nat → Int) (n : Nat) : Prop := ∀ p, (p < n → 0 ≤ B p ∧ B p ≤ 255) ∧ (n ≤ p → B p = -1)
theorem tTx.neg {B : Nat → Int} {n p : Nat} (h : tTx B n) : B p < 0 ↔ n ≤ p := by
  have h1 := h p
  constructor
  · intro q; exact Nat.le_of_not_lt (fun c => by have := h1.1 c; omega)
  · intro q; have := h1.2 q; omega
theorem tTx.lt {B : Nat → Int} {n p : Nat} (h : tTx B n) (hp : 0 ≤ B p) : p < n := Nat.lt_of_not_le (fun c => by have := (h p).2 c; omega)
theorem tTx.le {B : Nat → Int} {n : Nat} (h : tTx B n) (p : Nat) : -1 ≤ B p ∧ B p ≤ 255 := by
  have h1 := h p
  by_cases c : p < n
  · have := h1.1 c; omega
  · have := h1.2 (by omega); omega
/-- blanks and remarks -/
def tskip (B : Nat → Int) : Nat → Bool → Nat → Nat
  | 0, _, p => p
  | k + 1, r, p => if B p < 0 then p else if B p ≠ 10 ∧ (r = true ∨ B p = 35) then tskip B k true (p + 1) else if tBl (B p) then tskip B k false (p + 1) else p
def tsk (B : Nat → Int) (n : Nat) (r : Bool) (p : Nat) : Nat := tskip B (n - p) r p
theorem tsk_eq {B : Nat → Int} {n p : Nat} (h : tTx B n) (r : Bool) (hp : p ≤ n) : tsk B n r p = if B p < 0 then p else if B p ≠ 10 ∧ (r = true ∨ B p = 35) then tsk B n true (p + 1) else if tBl (B p) then tsk B n false (p + 1) else p := by
  unfold tsk
  by_cases c : p < n
  · obtain ⟨k, hk⟩ : ∃ k, n - p = k + 1 := ⟨n - p - 1, by omega⟩
    have hk2 : n - (p + 1) = k := by omega
    rw [hk, hk2]
    rfl
  · have : n - p = 0 := by omega
    rw [this, if_pos (h.neg.mpr (by omega))]
    rfl
theorem tsk_le {B : Nat → Int} {n : Nat} (h : tTx B n) : ∀ (k p : Nat) (r : Bool), n - p = k → p ≤ n → p ≤ tsk B n r p ∧ tsk B n r p ≤ n ∧ ¬ tBl (B (tsk B n r p)) ∧ B (tsk B n r p) ≠ 35 := by
  intro k
  induction k with
  | zero =>
    intro p r hk hp
    have hn : B p < 0 := h.neg.mpr (by omega)
    rw [tsk_eq h r hp, if_pos hn]
    unfold tBl
    omega
  | succ k ih =>
    intro p r hk hp
    have h1 := ih (p + 1) true (by omega) (by omega)
    have h2 := ih (p + 1) false (by omega) (by omega)
    rw [tsk_eq h r hp]
    have hn := h.neg (p := p)
    unfold tBl at *
    grind
/-- the end of a run of signs -/
def trun (B : Nat → Int) (P : Int → Prop) [DecidablePred P] : Nat → Nat → Nat
  | 0, p => p
  | k + 1, p => if P (B p) then trun B P k (p + 1) else p
theorem trun_is {B : Nat → Int} {P : Int → Prop} [DecidablePred P] {n : Nat} (h : tTx B n) (hP : ¬ P (-1)) : ∀ (k p : Nat), n - p ≤ k → p ≤ n → p ≤ trun B P k p ∧ trun B P k p ≤ n ∧ (∀ j, p ≤ j → j < trun B P k p → P (B j)) ∧ ¬ P (B (trun B P k p)) := by
  intro k
  induction k with
  | zero =>
    intro p hk hp
    have e : p = n := by omega
    refine ⟨Nat.le_refl _, hp, fun j h1 h2 => absurd h1 (by have : trun B P 0 p = p := rfl; omega), ?_⟩
    show ¬ P (B p)
    rw [(h p).2 (by omega)]
    exact hP
  | succ k ih =>
    intro p hk hp
    unfold trun
    by_cases c : P (B p)
    · rw [if_pos c]
      have hlt : p < n := by
        by_cases q : p < n
        · exact q
        · rw [(h p).2 (by omega)] at c; exact absurd c hP
      have h1 := ih (p + 1) (by omega) (by omega)
      refine ⟨by omega, h1.2.1, fun j h2 h3 => ?_, h1.2.2.2⟩
      by_cases e : j = p
      · rw [e]; exact c
      · exact h1.2.2.1 j (by omega) h3
    · rw [if_neg c]
      exact ⟨Nat.le_refl _, hp, fun j h2 h3 => by omega, c⟩
theorem trun_uniq {B : Nat → Int} {P : Int → Prop} {p e e' : Nat} (h1 : ∀ j, p ≤ j → j < e → P (B j)) (h2 : ¬ P (B e)) (h3 : ∀ j, p ≤ j → j < e' → P (B j)) (h4 : ¬ P (B e')) (h5 : p ≤ e) (h6 : p ≤ e') : e = e' := by
  rcases Nat.lt_trichotomy e e' with c | c | c
  · exact absurd (h3 e h5 c) h2
  · exact c
  · exact absurd (h1 e' h6 c) h4
/-- signs as one number -/
def tenc (b : Int) (d : Int → Int) (B : Nat → Int) (s : Nat) : Nat → Int
  | 0 => 0
  | k + 1 => tenc b d B s k * b + d (B (s + k))
def d63 (c : Int) : Int := if 65 ≤ c ∧ c ≤ 90 then c - 64 else if 97 ≤ c ∧ c ≤ 122 then c - 70 else c + 5
theorem tenc_in {b : Int} {d : Int → Int} {B : Nat → Int} {s : Nat} (hb : 1 ≤ b) : ∀ k, (∀ j, j < k → 1 ≤ d (B (s + j)) ∧ d (B (s + j)) < b) → 0 ≤ tenc b d B s k ∧ tenc b d B s k < b ^ k := by
  intro k
  induction k with
  | zero => intro _; exact ⟨Int.le_refl _, by simp [tenc]⟩
  | succ k ih =>
    intro h
    have h1 := ih (fun j hj => h j (by omega))
    have h2 := h k (by omega)
    have h3 : tenc b d B s (k + 1) = tenc b d B s k * b + d (B (s + k)) := rfl
    rw [h3, Int.pow_succ]
    have h4 : 0 ≤ tenc b d B s k * b := Int.mul_nonneg h1.1 (by omega)
    have h5 : (tenc b d B s k + 1) * b ≤ b ^ k * b := Int.mul_le_mul_of_nonneg_right (by omega) (by omega)
    rw [Int.add_mul] at h5
    omega
theorem tenc_inj {b : Int} {d : Int → Int} {B : Nat → Int} {s t : Nat} {C : Nat → Int} : ∀ k l, (∀ j, j < k → 1 ≤ d (B (s + j)) ∧ d (B (s + j)) < b) → (∀ j, j < l → 1 ≤ d (C (t + j)) ∧ d (C (t + j)) < b) → tenc b d B s k = tenc b d C t l → k = l ∧ ∀ j, j < k → d (B (s + j)) = d (C (t + j)) := by
  have pos : ∀ {D : Nat → Int} {u : Nat} k, (∀ j, j < k + 1 → 1 ≤ d (D (u + j)) ∧ d (D (u + j)) < b) → 0 < tenc b d D u (k + 1) := by
    intro D u k h
    have h1 := h k (by omega)
    have h2 := tenc_in (b := b) (d := d) (B := D) (s := u) (by omega) k (fun j hj => h j (by omega))
    have h3 : tenc b d D u (k + 1) = tenc b d D u k * b + d (D (u + k)) := rfl
    have h4 : 0 ≤ tenc b d D u k * b := Int.mul_nonneg h2.1 (by omega)
    omega
  intro k
  induction k with
  | zero =>
    intro l _ h2 e
    cases l with
    | zero => exact ⟨rfl, fun j hj => by omega⟩
    | succ l => have := pos l h2; rw [← e] at this; exact absurd this (by simp [tenc])
  | succ k ih =>
    intro l h1 h2 e
    cases l with
    | zero => have := pos k h1; rw [e] at this; exact absurd this (by simp [tenc])
    | succ l =>
      have e1 : tenc b d B s k * b + d (B (s + k)) = tenc b d C t l * b + d (C (t + l)) := e
      have a1 := h1 k (by omega)
      have a2 := h2 l (by omega)
      have hd : d (B (s + k)) = d (C (t + l)) := by
        have m1 : (tenc b d B s k * b + d (B (s + k))) % b = d (B (s + k)) := by rw [Int.add_comm, Int.add_mul_emod_self_right, Int.emod_eq_of_lt (by omega) (by omega)]
        have m2 : (tenc b d C t l * b + d (C (t + l))) % b = d (C (t + l)) := by rw [Int.add_comm, Int.add_mul_emod_self_right, Int.emod_eq_of_lt (by omega) (by omega)]
        rw [← m1, ← m2, e1]
      have hm : tenc b d B s k * b = tenc b d C t l * b := by omega
      have hq := Int.eq_of_mul_eq_mul_right (by omega) hm
      have h3 := ih l (fun j hj => h1 j (by omega)) (fun j hj => h2 j (by omega)) hq
      refine ⟨by omega, fun j hj => ?_⟩
      by_cases c : j = k
      · rw [c, hd, h3.1]
      · exact h3.2 j (by omega)
/-- a word's number, a number's -/
def tword (B : Nat → Int) (s e : Nat) : Nat → Int
  | 0 => 0
  | k + 1 => tword B s e k * 27 + (if s + k < e then B (s + k) - 96 else 0)
def tnum (cap : Int) (B : Nat → Int) (s : Nat) : Nat → Int
  | 0 => 0
  | k + 1 => min (tnum cap B s k * 10 + B (s + k) - 48) cap
def tcell (B : Nat → Int) (s e : Nat) : Int :=
  if 6 ≤ B s - 65 then -1
  else if e = s + 2 then (if 49 ≤ B (s + 1) ∧ B (s + 1) ≤ 57 then B s - 65 + 6 * (B (s + 1) - 49) else -1)
  else if e = s + 3 then (if B (s + 1) = 49 ∧ 48 ≤ B (s + 2) ∧ B (s + 2) ≤ 50 then B s - 65 + 6 * (B (s + 2) - 39) else -1)
  else -1
def tres (c : Int) : Int := if c = 19558354 then 6 else if c = 1233436738 then 7 else if c = 16099 then 8 else if c = 20806 then 9 else if c = 7109364 then 10 else if c = 28247 then 11 else if c = 25298178 then 12 else if c = 735738 then 13 else 1
def tsgn (c d : Int) : Int :=
  if c = 58 ∧ d = 45 then 256 else if c = 33 ∧ d = 61 then 257 else if c = 60 ∧ d = 61 then 258 else if c = 62 ∧ d = 61 then 259
  else if c = 95 then 3 else if c = 40 ∨ c = 41 ∨ c = 44 ∨ c = 46 ∨ c = 47 ∨ c = 58 ∨ c = 43 ∨ c = 45 ∨ c = 42 ∨ c = 37 ∨ c = 61 ∨ c = 60 ∨ c = 62 then c else 5
/-- a TOKEN that begins at s: its end, its kind (0 END, 1 NAME, 2 VARIABLE, 3 _, 4 NUMBER, 5 none, 6 to 13 words with a meaning, 256 to 259 signs of two bytes, else a sign), its signs' number, what it stands for -/
def tnend (B : Nat → Int) (n s : Nat) : Nat := trun B tNm (n - s) s
def tvend (B : Nat → Int) (n s : Nat) : Nat := trun B tVr (n - s) s
def tdend (B : Nat → Int) (n s : Nat) : Nat := if B s = 48 then s + 1 else trun B tDi (n - s) s
def tsens (B : Nat → Int) (s e : Nat) : Int := if (∀ i, i < e - s → tSm (B (s + i))) ∧ e - s ≤ 8 then 2000000000000 + tword B s e 8 else -1
def tncode (B : Nat → Int) (s e : Nat) : Int := tenc 38 xdig B s (min (e - s) 12)
def tvcode (B : Nat → Int) (s e : Nat) : Int := tenc 64 xdig B s (min (e - s) 8)
def ten (B : Nat → Int) (n s : Nat) : Nat :=
  if B s < 0 then s
  else if tSm (B s) then tnend B n s
  else if tGr (B s) then tvend B n s
  else if tDi (B s) then tdend B n s
  else if 256 ≤ tsgn (B s) (B (s + 1)) then s + 2 else s + 1
def tkd (B : Nat → Int) (n s : Nat) : Int :=
  if B s < 0 then 0
  else if tSm (B s) then tres (tncode B s (tnend B n s))
  else if tGr (B s) then 2
  else if tDi (B s) then 4
  else tsgn (B s) (B (s + 1))
def tco (B : Nat → Int) (n s : Nat) : Int :=
  if tSm (B s) then tncode B s (tnend B n s)
  else if tGr (B s) then tvcode B s (tvend B n s)
  else if tDi (B s) then tnum 1000000000001 B s (tdend B n s - s)
  else 0
def tse (B : Nat → Int) (n s : Nat) : Int :=
  if tSm (B s) then tsens B s (tnend B n s)
  else if tGr (B s) then tcell B s (tvend B n s)
  else 0
/-- where the TOKENS of a text begin, END again and again behind the last one -/
def tS (B : Nat → Int) (n : Nat) : Nat → Nat
  | 0 => tsk B n false 0
  | k + 1 => tsk B n false (ten B n (tS B n k))
theorem tsgn_2 {c d : Int} (h : 256 ≤ tsgn c d) : 0 ≤ d := by
  unfold tsgn at h
  repeat' split at h
  all_goals omega
theorem ten_le {B : Nat → Int} {n s : Nat} (h : tTx B n) (hs : s ≤ n) : s ≤ ten B n s ∧ ten B n s ≤ n ∧ (0 ≤ B s → s < ten B n s) := by
  have hn := trun_is (P := tNm) h (by decide) (n - s) s (Nat.le_refl _) hs
  have hv := trun_is (P := tVr) h (by decide) (n - s) s (Nat.le_refl _) hs
  have hd := trun_is (P := tDi) h (by decide) (n - s) s (Nat.le_refl _) hs
  have h0 := h.neg (p := s)
  have h1 := h.neg (p := s + 1)
  unfold ten
  split
  · omega
  split
  · rename_i c1 c2
    refine ⟨hn.1, hn.2.1, fun _ => Nat.lt_of_le_of_ne hn.1 (fun e => hn.2.2.2 ?_)⟩
    have e2 : trun B tNm (n - s) s = s := e.symm
    rw [e2]; exact .inl c2
  split
  · rename_i c1 c2 c3
    refine ⟨hv.1, hv.2.1, fun _ => Nat.lt_of_le_of_ne hv.1 (fun e => hv.2.2.2 ?_)⟩
    have e2 : trun B tVr (n - s) s = s := e.symm
    rw [e2]; exact .inr (.inl c3)
  split
  · rename_i c1 c2 c3 c4
    unfold tdend
    split
    · omega
    · refine ⟨hd.1, hd.2.1, fun _ => Nat.lt_of_le_of_ne hd.1 (fun e => hd.2.2.2 ?_)⟩
      rw [← e]; exact c4
  · have hs2 : 256 ≤ tsgn (B s) (B (s + 1)) → 0 ≤ B (s + 1) := tsgn_2
    split <;> omega
theorem tS_le {B : Nat → Int} {n : Nat} (h : tTx B n) (k : Nat) : tS B n k ≤ n ∧ ¬ tBl (B (tS B n k)) ∧ B (tS B n k) ≠ 35 := by
  cases k with
  | zero => have := tsk_le h n 0 false (by omega) (by omega); exact ⟨this.2.1, this.2.2⟩
  | succ k =>
    have hk : tS B n k ≤ n := by
      induction k with
      | zero => exact (tsk_le h n 0 false (by omega) (by omega)).2.1
      | succ k ih => exact (tsk_le h _ _ false rfl (ten_le h ih).2.1).2.1
    have := tsk_le h _ (ten B n (tS B n k)) false rfl (ten_le h hk).2.1
    exact ⟨this.2.1, this.2.2⟩
end
section
/-! The reference lexes: its TOKENS are those of 01o. The fields 2 to 10 of the reference are its lexer's: xlx G L has L there -/
def xu (L : Nat → Int) (k : Nat) (v : Int) : Nat → Int := fun j => if j = k then v else L j
def xlx (G : xG_) (L : Nat → Int) : xG_ := fun o i => if o = 0 ∧ 2 ≤ i ∧ i ≤ 10 then L i else G o i
theorem xu_e (L : Nat → Int) (k : Nat) (v : Int) (j : Nat) : xu L k v j = if j = k then v else L j := rfl
theorem xlx_e (G : xG_) (L : Nat → Int) (o i : Nat) : xlx G L o i = if o = 0 ∧ 2 ≤ i ∧ i ≤ 10 then L i else G o i := rfl
theorem xlx_2 (G : xG_) (L : Nat → Int) : xlx G L 0 2 = L 2 := rfl
theorem xlx_3 (G : xG_) (L : Nat → Int) : xlx G L 0 3 = L 3 := rfl
theorem xlx_4 (G : xG_) (L : Nat → Int) : xlx G L 0 4 = L 4 := rfl
theorem xlx_5 (G : xG_) (L : Nat → Int) : xlx G L 0 5 = L 5 := rfl
theorem xlx_6 (G : xG_) (L : Nat → Int) : xlx G L 0 6 = L 6 := rfl
theorem xlx_7 (G : xG_) (L : Nat → Int) : xlx G L 0 7 = L 7 := rfl
theorem xlx_8 (G : xG_) (L : Nat → Int) : xlx G L 0 8 = L 8 := rfl
theorem xlx_9 (G : xG_) (L : Nat → Int) : xlx G L 0 9 = L 9 := rfl
theorem xlx_10 (G : xG_) (L : Nat → Int) : xlx G L 0 10 = L 10 := rfl
theorem xlx_up (G : xG_) (L : Nat → Int) {k : Nat} (v : Int) (h : 2 ≤ k ∧ k ≤ 10) : xup2 (xlx G L) 0 k v = xlx G (xu L k v) := by
  funext o i
  unfold xup2 xlx xu
  grind
theorem xlx_u2 (G : xG_) (L : Nat → Int) (v : Int) : xup2 (xlx G L) 0 2 v = xlx G (xu L 2 v) := xlx_up G L v (by decide)
theorem xlx_u3 (G : xG_) (L : Nat → Int) (v : Int) : xup2 (xlx G L) 0 3 v = xlx G (xu L 3 v) := xlx_up G L v (by decide)
theorem xlx_u4 (G : xG_) (L : Nat → Int) (v : Int) : xup2 (xlx G L) 0 4 v = xlx G (xu L 4 v) := xlx_up G L v (by decide)
theorem xlx_u5 (G : xG_) (L : Nat → Int) (v : Int) : xup2 (xlx G L) 0 5 v = xlx G (xu L 5 v) := xlx_up G L v (by decide)
theorem xlx_u6 (G : xG_) (L : Nat → Int) (v : Int) : xup2 (xlx G L) 0 6 v = xlx G (xu L 6 v) := xlx_up G L v (by decide)
theorem xlx_u7 (G : xG_) (L : Nat → Int) (v : Int) : xup2 (xlx G L) 0 7 v = xlx G (xu L 7 v) := xlx_up G L v (by decide)
theorem xlx_u8 (G : xG_) (L : Nat → Int) (v : Int) : xup2 (xlx G L) 0 8 v = xlx G (xu L 8 v) := xlx_up G L v (by decide)
theorem xlx_u9 (G : xG_) (L : Nat → Int) (v : Int) : xup2 (xlx G L) 0 9 v = xlx G (xu L 9 v) := xlx_up G L v (by decide)
theorem xlx_u10 (G : xG_) (L : Nat → Int) (v : Int) : xup2 (xlx G L) 0 10 v = xlx G (xu L 10 v) := xlx_up G L v (by decide)
theorem xlx_id (G : xG_) : xlx G (G 0) = G := by
  funext o i
  unfold xlx
  split
  · rename_i h; rw [h.1]
  · rfl
theorem xlx_ext {G : xG_} {L L' : Nat → Int} (h : ∀ j, L j = L' j) : xlx G L = xlx G L' := by rw [show L = L' from funext h]
/-- the text that G reads: B from the place q on -/
def rTx (G : xG_) (q : Nat) (B : Nat → Int) (n : Nat) : Prop := gT G ∧ tTx B n ∧ G 0 1 = (q : Int) + n ∧ (∀ p : Nat, gB G ((q : Int) + p) = B p) ∧ ∀ p, p < n → -128 ≤ G (G 0 0).toNat (q + p) ∧ G (G 0 0).toNat (q + p) ≤ 127
theorem rTx.len {G : xG_} {q n : Nat} {B : Nat → Int} (h : rTx G q B n) : (q : Int) + n ≤ 90000 := by have := gT_len h.1; have := h.2.2.1; omega
theorem rTx.see {G : xG_} {q n : Nat} {B : Nat → Int} {L : Nat → Int} (h : rTx G q B n) {f : Nat} {p : Nat} {z : Int} (hz : z = (q : Int) + p) : g209 f z (xlx G L) = some (B p, xlx G L) := by
  have h0 : gT (xlx G L) := h.1
  have h1 := h.1.1
  have e : ∀ k, xlx G L (G 0 0).toNat k = G (G 0 0).toNat k := fun k => if_neg (by omega)
  rw [hz, gsee h0 (by omega), ← h.2.2.2.1 p]
  unfold gB
  show some (if G 0 1 ≤ _ then _ else xand (xlx G L (G 0 0).toNat _) 255, _) = _
  rw [e]
theorem tNm_dig {c : Int} (h : tNm c) : 1 ≤ xdig c ∧ xdig c < 38 := by unfold xdig; unfold tNm tSm tDi at h; grind
theorem tVr_dig {c : Int} (h : tVr c) : 1 ≤ xdig c ∧ xdig c < 64 := by unfold xdig; unfold tVr tSm tDi tGr at h; grind
theorem tenc_b38 {B : Nat → Int} {s : Nat} (k : Nat) (hk : k ≤ 11) (h : ∀ j, j < k → tNm (B (s + j))) : 0 ≤ tenc 38 xdig B s k ∧ tenc 38 xdig B s k < 238572050223552512 := by
  have h1 := tenc_in (b := 38) (d := xdig) (B := B) (s := s) (by decide) k (fun j hj => tNm_dig (h j hj))
  have h2 : (38 : Int) ^ k ≤ 38 ^ 11 := by
    have : (38 : Nat) ^ k ≤ 38 ^ 11 := Nat.pow_le_pow_right (by decide) hk
    exact_mod_cast this
  exact ⟨h1.1, Int.lt_of_lt_of_le h1.2 h2⟩
theorem tenc_b64 {B : Nat → Int} {s : Nat} (k : Nat) (hk : k ≤ 8) (h : ∀ j, j < k → tVr (B (s + j))) : 0 ≤ tenc 64 xdig B s k ∧ tenc 64 xdig B s k < 281474976710656 := by
  have h1 := tenc_in (b := 64) (d := xdig) (B := B) (s := s) (by decide) k (fun j hj => tVr_dig (h j hj))
  have h2 : (64 : Int) ^ k ≤ 64 ^ 8 := by
    have : (64 : Nat) ^ k ≤ 64 ^ 8 := Nat.pow_le_pow_right (by decide) hk
    exact_mod_cast this
  exact ⟨h1.1, Int.lt_of_lt_of_le h1.2 h2⟩
theorem tenc_s (b : Int) (d : Int → Int) (B : Nat → Int) (s k : Nat) : tenc b d B s (k + 1) = tenc b d B s k * b + d (B (s + k)) := rfl
/-- the word that a NAME is -/
theorem rl_wd {f q n s e : Nat} {B : Nat → Int} {G : xG_} (h : rTx G q B n) (hsm : ∀ j, j < e - s → tSm (B (s + j))) (hse : s ≤ e) (hen : e ≤ n) : ∀ (k i fu : Nat) (L : Nat → Int), i + k = 8 → k < fu → L 4 = (q : Int) + s → L 10 = tword B s e i → 0 ≤ L 10 → L 10 < 27 ^ i →
    g216_157 f fu ((q : Int) + e) i (xlx G L) = some (xlx G (xu L 10 (2000000000000 + tword B s e 8))) := by
  have hl := h.len
  intro k
  induction k with
  | zero =>
    intro i fu L hk hfu h4 h10 hp hq
    obtain ⟨fu, rfl⟩ : ∃ t, fu = t + 1 := ⟨fu - 1, by omega⟩
    obtain rfl : i = 8 := by omega
    show g216_157b (g216_157 f fu) f _ _ _ = _
    unfold g216_157b
    rw [if_pos (by omega)]
    simp only [xlx_2, xlx_3, xlx_4, xlx_5, xlx_6, xlx_7, xlx_8, xlx_9, xlx_10, xlx_u2, xlx_u3, xlx_u4, xlx_u5, xlx_u6, xlx_u7, xlx_u8, xlx_u9, xlx_u10, xu_e, eq_self, reduceIte, Nat.reduceEqDiff, if_true, if_false, not_true_eq_false, not_false_eq_true, Option.bind_some]
    rw [h10, xwl_g _ (by omega) (by omega), Int.add_comm]
  | succ k ih =>
    intro i fu L hk hfu h4 h10 hp hq
    obtain ⟨fu, rfl⟩ : ∃ t, fu = t + 1 := ⟨fu - 1, by omega⟩
    show g216_157b (g216_157 f fu) f _ _ _ = _
    unfold g216_157b g216_201
    have e1 : xwr ((q : Int) + s + i) = (q : Int) + (s + i : Nat) := by rw [xwr_g _ (by omega) (by omega)]; omega
    have e2 : xwr ((i : Int) + 1) = (i + 1 : Nat) := by rw [xwr_g _ (by omega) (by omega)]; omega
    have hq1 : (27 : Int) ^ i ≤ 27 ^ 7 := by
      have : (27 : Nat) ^ i ≤ 27 ^ 7 := Nat.pow_le_pow_right (by decide) (by omega)
      exact_mod_cast this
    have hq2 : L 10 < 10460353203 := Int.lt_of_lt_of_le hq hq1
    have hb := h.2.1.le (s + i)
    have ht : tword B s e (i + 1) = tword B s e i * 27 + (if s + i < e then B (s + i) - 96 else 0) := rfl
    have hpw : (27 : Int) ^ (i + 1) = 27 ^ i * 27 := Int.pow_succ 27 i
    rw [if_neg (by omega)]
    simp only [xlx_2, xlx_3, xlx_4, xlx_5, xlx_6, xlx_7, xlx_8, xlx_9, xlx_10, xlx_u2, xlx_u3, xlx_u4, xlx_u5, xlx_u6, xlx_u7, xlx_u8, xlx_u9, xlx_u10, xu_e, eq_self, reduceIte, Nat.reduceEqDiff, if_true, if_false, not_true_eq_false, not_false_eq_true, Option.bind_some, h4, e1, e2]
    by_cases c : s + i < e
    · have hm := hsm i (by omega)
      rw [if_neg (by omega), h.see rfl]
      simp only [xlx_2, xlx_3, xlx_4, xlx_5, xlx_6, xlx_7, xlx_8, xlx_9, xlx_10, xlx_u2, xlx_u3, xlx_u4, xlx_u5, xlx_u6, xlx_u7, xlx_u8, xlx_u9, xlx_u10, xu_e, eq_self, reduceIte, Nat.reduceEqDiff, if_true, if_false, not_true_eq_false, not_false_eq_true, Option.bind_some]
      simp (disch := omega) only [xwr_g, xwl_g]
      rw [ih _ _ _ (by omega) (by omega) (by simp only [xlx_2, xlx_3, xlx_4, xlx_5, xlx_6, xlx_7, xlx_8, xlx_9, xlx_10, xlx_u2, xlx_u3, xlx_u4, xlx_u5, xlx_u6, xlx_u7, xlx_u8, xlx_u9, xlx_u10, xu_e, eq_self, reduceIte, Nat.reduceEqDiff, if_true, if_false, not_true_eq_false, not_false_eq_true, Option.bind_some, h4]) (by simp only [xlx_2, xlx_3, xlx_4, xlx_5, xlx_6, xlx_7, xlx_8, xlx_9, xlx_10, xlx_u2, xlx_u3, xlx_u4, xlx_u5, xlx_u6, xlx_u7, xlx_u8, xlx_u9, xlx_u10, xu_e, eq_self, reduceIte, Nat.reduceEqDiff, if_true, if_false, not_true_eq_false, not_false_eq_true, Option.bind_some, ht, h10]; rw [if_pos c]; omega) (by simp only [xlx_2, xlx_3, xlx_4, xlx_5, xlx_6, xlx_7, xlx_8, xlx_9, xlx_10, xlx_u2, xlx_u3, xlx_u4, xlx_u5, xlx_u6, xlx_u7, xlx_u8, xlx_u9, xlx_u10, xu_e, eq_self, reduceIte, Nat.reduceEqDiff, if_true, if_false, not_true_eq_false, not_false_eq_true, Option.bind_some]; omega) (by simp only [xlx_2, xlx_3, xlx_4, xlx_5, xlx_6, xlx_7, xlx_8, xlx_9, xlx_10, xlx_u2, xlx_u3, xlx_u4, xlx_u5, xlx_u6, xlx_u7, xlx_u8, xlx_u9, xlx_u10, xu_e, eq_self, reduceIte, Nat.reduceEqDiff, if_true, if_false, not_true_eq_false, not_false_eq_true, Option.bind_some]; omega)]
      exact congrArg some (xlx_ext (fun j => by unfold xu; grind))
    · rw [if_pos (by omega)]
      simp (disch := omega) only [xwr_g, xwl_g]
      rw [ih _ _ _ (by omega) (by omega) (by simp only [xlx_2, xlx_3, xlx_4, xlx_5, xlx_6, xlx_7, xlx_8, xlx_9, xlx_10, xlx_u2, xlx_u3, xlx_u4, xlx_u5, xlx_u6, xlx_u7, xlx_u8, xlx_u9, xlx_u10, xu_e, eq_self, reduceIte, Nat.reduceEqDiff, if_true, if_false, not_true_eq_false, not_false_eq_true, Option.bind_some, h4]) (by simp only [xlx_2, xlx_3, xlx_4, xlx_5, xlx_6, xlx_7, xlx_8, xlx_9, xlx_10, xlx_u2, xlx_u3, xlx_u4, xlx_u5, xlx_u6, xlx_u7, xlx_u8, xlx_u9, xlx_u10, xu_e, eq_self, reduceIte, Nat.reduceEqDiff, if_true, if_false, not_true_eq_false, not_false_eq_true, Option.bind_some, ht, h10]; rw [if_neg c]; omega) (by simp only [xlx_2, xlx_3, xlx_4, xlx_5, xlx_6, xlx_7, xlx_8, xlx_9, xlx_10, xlx_u2, xlx_u3, xlx_u4, xlx_u5, xlx_u6, xlx_u7, xlx_u8, xlx_u9, xlx_u10, xu_e, eq_self, reduceIte, Nat.reduceEqDiff, if_true, if_false, not_true_eq_false, not_false_eq_true, Option.bind_some]; omega) (by simp only [xlx_2, xlx_3, xlx_4, xlx_5, xlx_6, xlx_7, xlx_8, xlx_9, xlx_10, xlx_u2, xlx_u3, xlx_u4, xlx_u5, xlx_u6, xlx_u7, xlx_u8, xlx_u9, xlx_u10, xu_e, eq_self, reduceIte, Nat.reduceEqDiff, if_true, if_false, not_true_eq_false, not_false_eq_true, Option.bind_some]; omega)]
      exact congrArg some (xlx_ext (fun j => by unfold xu; grind))
/-- NAMES -/
theorem rl_nm {f q n s e : Nat} {B : Nat → Int} {G : xG_} (hf : 10 < f) (h : rTx G q B n) (hrun : ∀ j, s ≤ j → j < e → tNm (B j)) (hend : ¬ tNm (B e)) (hse : s ≤ e) (hen : e ≤ n) : ∀ (k i fu : Nat) (x : Int) (L : Nat → Int), s + i + k = e → k < fu → L 4 = (q : Int) + s → L 6 = (if 12 < i then (q : Int) + s + 12 else -1) → L 9 = tenc 38 xdig B s (min i 12) → x = (if ∀ j, j < i → tSm (B (s + j)) then 1 else 0) →
    g216_17 f fu x ((q : Int) + (s + i : Nat)) (xlx G L) = some (xlx G (xu (xu (xu (xu L 6 (if 12 < e - s then (q : Int) + s + 12 else -1)) 9 (tncode B s e)) 5 ((q : Int) + e)) 10 (tsens B s e))) := by
  have hl := h.len
  intro k
  induction k with
  | zero =>
    intro i fu x L hk hfu h4 h6 h9 hx
    obtain ⟨fu, rfl⟩ : ∃ t, fu = t + 1 := ⟨fu - 1, by omega⟩
    show g216_17b (g216_17 f fu) f _ _ _ = _
    obtain rfl : e = s + i := by omega
    unfold g216_17b g216_149
    have hB := h.2.1.le (s + i)
    unfold tNm tSm tDi at hend
    simp only [xlx_2, xlx_3, xlx_4, xlx_5, xlx_6, xlx_7, xlx_8, xlx_9, xlx_10, xlx_u2, xlx_u3, xlx_u4, xlx_u5, xlx_u6, xlx_u7, xlx_u8, xlx_u9, xlx_u10, xu_e, eq_self, reduceIte, Nat.reduceEqDiff, if_true, if_false, not_true_eq_false, not_false_eq_true, Option.bind_some, h.see (p := s + i) rfl, gsmall, gdigit]
    rw [if_neg (by grind), if_neg (by grind), if_pos (by grind), h4, xwr_g _ (by omega) (by omega)]
    have e9 : tncode B s (s + i) = L 9 := by unfold tncode; rw [h9, show s + i - s = i by omega]
    have e6 : (if 12 < s + i - s then (q : Int) + s + 12 else -1) = L 6 := by rw [h6, show s + i - s = i by omega]
    rw [e9, e6]
    by_cases c : ∀ j, j < i → tSm (B (s + j))
    · rw [if_pos c] at hx
      rw [hx, if_neg (by decide)]
      by_cases c2 : i ≤ 8
      · rw [if_pos (by omega), show ((q : Int) + (s + i : Nat)) = ((q : Int) + (s + i : Nat)) from rfl, show (0 : Int) = ((0 : Nat) : Int) from rfl, rl_wd h (e := s + i) (s := s) (fun j hj => c j (by omega)) (by omega) (by omega) 8 0 f _ (by omega) (by omega) (by simp only [xlx_2, xlx_3, xlx_4, xlx_5, xlx_6, xlx_7, xlx_8, xlx_9, xlx_10, xlx_u2, xlx_u3, xlx_u4, xlx_u5, xlx_u6, xlx_u7, xlx_u8, xlx_u9, xlx_u10, xu_e, eq_self, reduceIte, Nat.reduceEqDiff, if_true, if_false, not_true_eq_false, not_false_eq_true, Option.bind_some, h4]) (by simp only [xlx_2, xlx_3, xlx_4, xlx_5, xlx_6, xlx_7, xlx_8, xlx_9, xlx_10, xlx_u2, xlx_u3, xlx_u4, xlx_u5, xlx_u6, xlx_u7, xlx_u8, xlx_u9, xlx_u10, xu_e, eq_self, reduceIte, Nat.reduceEqDiff, if_true, if_false, not_true_eq_false, not_false_eq_true, Option.bind_some]; rfl) (by simp only [xlx_2, xlx_3, xlx_4, xlx_5, xlx_6, xlx_7, xlx_8, xlx_9, xlx_10, xlx_u2, xlx_u3, xlx_u4, xlx_u5, xlx_u6, xlx_u7, xlx_u8, xlx_u9, xlx_u10, xu_e, eq_self, reduceIte, Nat.reduceEqDiff, if_true, if_false, not_true_eq_false, not_false_eq_true, Option.bind_some]; decide) (by simp only [xlx_2, xlx_3, xlx_4, xlx_5, xlx_6, xlx_7, xlx_8, xlx_9, xlx_10, xlx_u2, xlx_u3, xlx_u4, xlx_u5, xlx_u6, xlx_u7, xlx_u8, xlx_u9, xlx_u10, xu_e, eq_self, reduceIte, Nat.reduceEqDiff, if_true, if_false, not_true_eq_false, not_false_eq_true, Option.bind_some]; decide)]
        have et : tsens B s (s + i) = 2000000000000 + tword B s (s + i) 8 := if_pos ⟨fun j hj => c j (by omega), by omega⟩
        rw [et]
        exact congrArg some (xlx_ext (fun j => by unfold xu; grind))
      · rw [if_neg (by omega)]
        have et : tsens B s (s + i) = -1 := if_neg (fun q => c2 (by omega))
        rw [et]
        exact congrArg some (xlx_ext (fun j => by unfold xu; grind))
    · rw [if_neg c] at hx
      rw [hx, if_pos rfl]
      have et : tsens B s (s + i) = -1 := if_neg (fun q => c (fun j hj => q.1 j (by omega)))
      rw [et]
      exact congrArg some (xlx_ext (fun j => by unfold xu; grind))
  | succ k ih =>
    intro i fu x L hk hfu h4 h6 h9 hx
    obtain ⟨fu, rfl⟩ : ∃ t, fu = t + 1 := ⟨fu - 1, by omega⟩
    have hB := h.2.1.le (s + i)
    have hNi := hrun (s + i) (by omega) (by omega)
    have hd := tNm_dig hNi
    have h12 := tenc_b38 (B := B) (s := s) (min i 11) (by omega) (fun j hj => hrun (s + j) (by omega) (by omega))
    have e2 : xwr ((q : Int) + (s + i : Nat) + 1) = (q : Int) + (s + (i + 1) : Nat) := by rw [xwr_g _ (by omega) (by omega)]; omega
    have e3 : xwr ((q : Int) + s + 12) = (q : Int) + s + 12 := by rw [xwr_g _ (by omega) (by omega)]
    have hsee := fun L' => h.see (f := f) (L := L') (p := s + i) rfl
    show g216_17b (g216_17 f fu) f _ _ _ = _
    have a1 : ∀ y L', L' 4 = (q : Int) + s → g216_85 (g216_17 f fu) f ((q : Int) + (s + i : Nat)) y (xlx G L') = g216_17 f fu y ((q : Int) + (s + (i + 1) : Nat)) (xlx G (if L' 6 = -1 then xu L' 9 (xwl (xwl (38 * L' 9) + xdig (B (s + i)))) else L')) := by
      intro y L' hL'
      unfold g216_85 g216_116
      simp only [xlx_2, xlx_3, xlx_4, xlx_5, xlx_6, xlx_7, xlx_8, xlx_9, xlx_10, xlx_u2, xlx_u3, xlx_u4, xlx_u5, xlx_u6, xlx_u7, xlx_u8, xlx_u9, xlx_u10, xu_e, eq_self, reduceIte, Nat.reduceEqDiff, if_true, if_false, not_true_eq_false, not_false_eq_true, Option.bind_some, hsee, gdig hB, e2]
      grind
    have a2 : ∀ L', L' 4 = (q : Int) + s → g216_65 (g216_17 f fu) f x ((q : Int) + (s + i : Nat)) (xlx G L') = g216_85 (g216_17 f fu) f ((q : Int) + (s + i : Nat)) (if x ≠ 0 ∧ tSm (B (s + i)) then 1 else 0) (xlx G L') := by
      intro L' hL'
      unfold g216_65 g216_84
      simp only [xlx_2, xlx_3, xlx_4, xlx_5, xlx_6, xlx_7, xlx_8, xlx_9, xlx_10, xlx_u2, xlx_u3, xlx_u4, xlx_u5, xlx_u6, xlx_u7, xlx_u8, xlx_u9, xlx_u10, xu_e, eq_self, reduceIte, Nat.reduceEqDiff, if_true, if_false, not_true_eq_false, not_false_eq_true, Option.bind_some, hsee, gsmall]
      grind
    have a3 : g216_17b (g216_17 f fu) f x ((q : Int) + (s + i : Nat)) (xlx G L) = g216_65 (g216_17 f fu) f x ((q : Int) + (s + i : Nat)) (xlx G (if i = 12 then xu L 6 ((q : Int) + (s + i : Nat)) else L)) := by
      unfold g216_17b g216_49
      simp only [xlx_2, xlx_3, xlx_4, xlx_5, xlx_6, xlx_7, xlx_8, xlx_9, xlx_10, xlx_u2, xlx_u3, xlx_u4, xlx_u5, xlx_u6, xlx_u7, xlx_u8, xlx_u9, xlx_u10, xu_e, eq_self, reduceIte, Nat.reduceEqDiff, if_true, if_false, not_true_eq_false, not_false_eq_true, Option.bind_some, hsee, gsmall, gdigit, h4, e3]
      unfold tNm tSm tDi at hNi
      grind
    have hx2 : (if x ≠ 0 ∧ tSm (B (s + i)) then (1 : Int) else 0) = (if ∀ j, j < i + 1 → tSm (B (s + j)) then 1 else 0) := by
      have : (∀ j, j < i + 1 → tSm (B (s + j))) ↔ (∀ j, j < i → tSm (B (s + j))) ∧ tSm (B (s + i)) := by
        constructor
        · intro q; exact ⟨fun j hj => q j (by omega), q i (by omega)⟩
        · rintro ⟨q1, q2⟩ j hj
          by_cases e : j = i
          · rw [e]; exact q2
          · exact q1 j (by omega)
      rw [hx]
      grind
    rw [a3, a2 _ (by grind [xu]), hx2, a1 _ _ (by grind [xu])]
    by_cases c : i < 12
    · have m1 : min i 12 = i := by omega
      have m2 : min (i + 1) 12 = i + 1 := by omega
      have m3 : min i 11 = i := by omega
      rw [m1] at h9
      rw [m3] at h12
      rw [if_neg (show ¬ i = 12 by omega), if_pos (show L 6 = -1 by rw [h6, if_neg (by omega)]), h9, xwl_g (38 * _) (by omega) (by omega), xwl_g _ (by omega) (by omega), ih (i + 1) fu _ _ (by omega) (by omega) (by simp only [xlx_2, xlx_3, xlx_4, xlx_5, xlx_6, xlx_7, xlx_8, xlx_9, xlx_10, xlx_u2, xlx_u3, xlx_u4, xlx_u5, xlx_u6, xlx_u7, xlx_u8, xlx_u9, xlx_u10, xu_e, eq_self, reduceIte, Nat.reduceEqDiff, if_true, if_false, not_true_eq_false, not_false_eq_true, Option.bind_some, h4]) (by simp only [xlx_2, xlx_3, xlx_4, xlx_5, xlx_6, xlx_7, xlx_8, xlx_9, xlx_10, xlx_u2, xlx_u3, xlx_u4, xlx_u5, xlx_u6, xlx_u7, xlx_u8, xlx_u9, xlx_u10, xu_e, eq_self, reduceIte, Nat.reduceEqDiff, if_true, if_false, not_true_eq_false, not_false_eq_true, Option.bind_some, h6]; grind) (by simp only [xlx_2, xlx_3, xlx_4, xlx_5, xlx_6, xlx_7, xlx_8, xlx_9, xlx_10, xlx_u2, xlx_u3, xlx_u4, xlx_u5, xlx_u6, xlx_u7, xlx_u8, xlx_u9, xlx_u10, xu_e, eq_self, reduceIte, Nat.reduceEqDiff, if_true, if_false, not_true_eq_false, not_false_eq_true, Option.bind_some]; rw [m2, tenc_s]; omega) rfl]
      exact congrArg some (xlx_ext (fun j => by unfold xu; grind))
    · by_cases c2 : i = 12
      · rw [if_pos c2, if_neg (by simp only [xlx_2, xlx_3, xlx_4, xlx_5, xlx_6, xlx_7, xlx_8, xlx_9, xlx_10, xlx_u2, xlx_u3, xlx_u4, xlx_u5, xlx_u6, xlx_u7, xlx_u8, xlx_u9, xlx_u10, xu_e, eq_self, reduceIte, Nat.reduceEqDiff, if_true, if_false, not_true_eq_false, not_false_eq_true, Option.bind_some]; omega : ¬ xu L 6 ((q : Int) + (s + i : Nat)) 6 = -1), ih (i + 1) fu _ _ (by omega) (by omega) (by simp only [xlx_2, xlx_3, xlx_4, xlx_5, xlx_6, xlx_7, xlx_8, xlx_9, xlx_10, xlx_u2, xlx_u3, xlx_u4, xlx_u5, xlx_u6, xlx_u7, xlx_u8, xlx_u9, xlx_u10, xu_e, eq_self, reduceIte, Nat.reduceEqDiff, if_true, if_false, not_true_eq_false, not_false_eq_true, Option.bind_some, h4]) (by simp only [xlx_2, xlx_3, xlx_4, xlx_5, xlx_6, xlx_7, xlx_8, xlx_9, xlx_10, xlx_u2, xlx_u3, xlx_u4, xlx_u5, xlx_u6, xlx_u7, xlx_u8, xlx_u9, xlx_u10, xu_e, eq_self, reduceIte, Nat.reduceEqDiff, if_true, if_false, not_true_eq_false, not_false_eq_true, Option.bind_some]; rw [if_pos (by omega)]; omega) (by simp only [xlx_2, xlx_3, xlx_4, xlx_5, xlx_6, xlx_7, xlx_8, xlx_9, xlx_10, xlx_u2, xlx_u3, xlx_u4, xlx_u5, xlx_u6, xlx_u7, xlx_u8, xlx_u9, xlx_u10, xu_e, eq_self, reduceIte, Nat.reduceEqDiff, if_true, if_false, not_true_eq_false, not_false_eq_true, Option.bind_some]; rw [h9]; congr 1; omega) rfl]
        exact congrArg some (xlx_ext (fun j => by unfold xu; grind))
      · rw [if_neg c2, if_neg (show ¬ L 6 = -1 by rw [h6, if_pos (by omega)]; omega), ih (i + 1) fu _ _ (by omega) (by omega) h4 (by rw [h6, if_pos (by omega), if_pos (by omega)]) (by rw [h9]; congr 1; omega) rfl]
end
section
/-! The reference lexes: VARIABLES, NUMBERS, signs; a TOKEN -/
theorem rl_vr {f q n s e : Nat} {B : Nat → Int} {G : xG_} (h : rTx G q B n) (hrun : ∀ j, s ≤ j → j < e → tVr (B j)) (hend : ¬ tVr (B e)) (hse : s ≤ e) (hen : e ≤ n) : ∀ (k i fu : Nat) (L : Nat → Int), s + i + k = e → k < fu → L 4 = (q : Int) + s → L 6 = (if 8 < i then (q : Int) + s + 8 else -1) → L 9 = tenc 64 xdig B s (min i 8) →
    g217_15 f fu ((q : Int) + (s + i : Nat)) (xlx G L) = some (xlx G (xu (xu (xu L 6 (if 8 < e - s then (q : Int) + s + 8 else -1)) 9 (tvcode B s e)) 5 ((q : Int) + e))) := by
  have hl := h.len
  intro k
  induction k with
  | zero =>
    intro i fu L hk hfu h4 h6 h9
    obtain ⟨fu, rfl⟩ : ∃ t, fu = t + 1 := ⟨fu - 1, by omega⟩
    show g217_15b (g217_15 f fu) f _ _ = _
    obtain rfl : e = s + i := by omega
    unfold g217_15b
    have hB := h.2.1.le (s + i)
    unfold tVr tSm tGr tDi at hend
    simp only [xlx_2, xlx_3, xlx_4, xlx_5, xlx_6, xlx_7, xlx_8, xlx_9, xlx_10, xlx_u2, xlx_u3, xlx_u4, xlx_u5, xlx_u6, xlx_u7, xlx_u8, xlx_u9, xlx_u10, xu_e, eq_self, reduceIte, Nat.reduceEqDiff, if_true, if_false, not_true_eq_false, not_false_eq_true, Option.bind_some, h.see (p := s + i) rfl, gsmall, gdigit, ggreat]
    rw [if_neg (by grind), if_neg (by grind), if_pos (by grind)]
    have e9 : tvcode B s (s + i) = L 9 := by unfold tvcode; rw [h9, show s + i - s = i by omega]
    have e6 : (if 8 < s + i - s then (q : Int) + s + 8 else -1) = L 6 := by rw [h6, show s + i - s = i by omega]
    rw [e9, e6]
    exact congrArg some (xlx_ext (fun j => by unfold xu; grind))
  | succ k ih =>
    intro i fu L hk hfu h4 h6 h9
    obtain ⟨fu, rfl⟩ : ∃ t, fu = t + 1 := ⟨fu - 1, by omega⟩
    have hB := h.2.1.le (s + i)
    have hNi := hrun (s + i) (by omega) (by omega)
    have hd := tVr_dig hNi
    have h12 := tenc_b64 (B := B) (s := s) (min i 8) (by omega) (fun j hj => hrun (s + j) (by omega) (by omega))
    have e2 : xwr ((q : Int) + (s + i : Nat) + 1) = (q : Int) + (s + (i + 1) : Nat) := by rw [xwr_g _ (by omega) (by omega)]; omega
    have e3 : xwr ((q : Int) + s + 8) = (q : Int) + s + 8 := by rw [xwr_g _ (by omega) (by omega)]
    have hsee := fun L' => h.see (f := f) (L := L') (p := s + i) rfl
    show g217_15b (g217_15 f fu) f _ _ = _
    have a1 : ∀ L', L' 4 = (q : Int) + s → g217_64 (g217_15 f fu) f ((q : Int) + (s + i : Nat)) (xlx G L') = g217_15 f fu ((q : Int) + (s + (i + 1) : Nat)) (xlx G (if L' 6 = -1 then xu L' 9 (xwl (xwl (64 * L' 9) + xdig (B (s + i)))) else L')) := by
      intro L' hL'
      unfold g217_64 g217_94
      simp only [xlx_2, xlx_3, xlx_4, xlx_5, xlx_6, xlx_7, xlx_8, xlx_9, xlx_10, xlx_u2, xlx_u3, xlx_u4, xlx_u5, xlx_u6, xlx_u7, xlx_u8, xlx_u9, xlx_u10, xu_e, eq_self, reduceIte, Nat.reduceEqDiff, if_true, if_false, not_true_eq_false, not_false_eq_true, Option.bind_some, hsee, gdig hB, e2]
      grind
    have a3 : g217_15b (g217_15 f fu) f ((q : Int) + (s + i : Nat)) (xlx G L) = g217_64 (g217_15 f fu) f ((q : Int) + (s + i : Nat)) (xlx G (if i = 8 then xu L 6 ((q : Int) + (s + i : Nat)) else L)) := by
      unfold g217_15b g217_48
      simp only [xlx_2, xlx_3, xlx_4, xlx_5, xlx_6, xlx_7, xlx_8, xlx_9, xlx_10, xlx_u2, xlx_u3, xlx_u4, xlx_u5, xlx_u6, xlx_u7, xlx_u8, xlx_u9, xlx_u10, xu_e, eq_self, reduceIte, Nat.reduceEqDiff, if_true, if_false, not_true_eq_false, not_false_eq_true, Option.bind_some, hsee, gsmall, gdigit, ggreat, h4, e3]
      unfold tVr tSm tGr tDi at hNi
      grind
    rw [a3, a1 _ (by grind [xu])]
    by_cases c : i < 8
    · have m1 : min i 8 = i := by omega
      have m2 : min (i + 1) 8 = i + 1 := by omega
      rw [m1] at h9 h12
      rw [if_neg (show ¬ i = 8 by omega), if_pos (show L 6 = -1 by rw [h6, if_neg (by omega)]), h9]
      simp (disch := omega) only [xwr_g, xwl_g]
      rw [ih (i + 1) fu _ (by omega) (by omega) (by simp only [xlx_2, xlx_3, xlx_4, xlx_5, xlx_6, xlx_7, xlx_8, xlx_9, xlx_10, xlx_u2, xlx_u3, xlx_u4, xlx_u5, xlx_u6, xlx_u7, xlx_u8, xlx_u9, xlx_u10, xu_e, eq_self, reduceIte, Nat.reduceEqDiff, if_true, if_false, not_true_eq_false, not_false_eq_true, Option.bind_some, h4]) (by simp only [xlx_2, xlx_3, xlx_4, xlx_5, xlx_6, xlx_7, xlx_8, xlx_9, xlx_10, xlx_u2, xlx_u3, xlx_u4, xlx_u5, xlx_u6, xlx_u7, xlx_u8, xlx_u9, xlx_u10, xu_e, eq_self, reduceIte, Nat.reduceEqDiff, if_true, if_false, not_true_eq_false, not_false_eq_true, Option.bind_some, h6]; grind) (by simp only [xlx_2, xlx_3, xlx_4, xlx_5, xlx_6, xlx_7, xlx_8, xlx_9, xlx_10, xlx_u2, xlx_u3, xlx_u4, xlx_u5, xlx_u6, xlx_u7, xlx_u8, xlx_u9, xlx_u10, xu_e, eq_self, reduceIte, Nat.reduceEqDiff, if_true, if_false, not_true_eq_false, not_false_eq_true, Option.bind_some]; rw [m2, tenc_s]; omega)]
      exact congrArg some (xlx_ext (fun j => by unfold xu; grind))
    · by_cases c2 : i = 8
      · rw [if_pos c2, if_neg (by simp only [xlx_2, xlx_3, xlx_4, xlx_5, xlx_6, xlx_7, xlx_8, xlx_9, xlx_10, xlx_u2, xlx_u3, xlx_u4, xlx_u5, xlx_u6, xlx_u7, xlx_u8, xlx_u9, xlx_u10, xu_e, eq_self, reduceIte, Nat.reduceEqDiff, if_true, if_false, not_true_eq_false, not_false_eq_true, Option.bind_some]; omega : ¬ xu L 6 ((q : Int) + (s + i : Nat)) 6 = -1), ih (i + 1) fu _ (by omega) (by omega) (by simp only [xlx_2, xlx_3, xlx_4, xlx_5, xlx_6, xlx_7, xlx_8, xlx_9, xlx_10, xlx_u2, xlx_u3, xlx_u4, xlx_u5, xlx_u6, xlx_u7, xlx_u8, xlx_u9, xlx_u10, xu_e, eq_self, reduceIte, Nat.reduceEqDiff, if_true, if_false, not_true_eq_false, not_false_eq_true, Option.bind_some, h4]) (by simp only [xlx_2, xlx_3, xlx_4, xlx_5, xlx_6, xlx_7, xlx_8, xlx_9, xlx_10, xlx_u2, xlx_u3, xlx_u4, xlx_u5, xlx_u6, xlx_u7, xlx_u8, xlx_u9, xlx_u10, xu_e, eq_self, reduceIte, Nat.reduceEqDiff, if_true, if_false, not_true_eq_false, not_false_eq_true, Option.bind_some]; rw [if_pos (by omega)]; omega) (by simp only [xlx_2, xlx_3, xlx_4, xlx_5, xlx_6, xlx_7, xlx_8, xlx_9, xlx_10, xlx_u2, xlx_u3, xlx_u4, xlx_u5, xlx_u6, xlx_u7, xlx_u8, xlx_u9, xlx_u10, xu_e, eq_self, reduceIte, Nat.reduceEqDiff, if_true, if_false, not_true_eq_false, not_false_eq_true, Option.bind_some]; rw [h9]; congr 1; omega)]
        exact congrArg some (xlx_ext (fun j => by unfold xu; grind))
      · rw [if_neg c2, if_neg (show ¬ L 6 = -1 by rw [h6, if_pos (by omega)]; omega), ih (i + 1) fu _ (by omega) (by omega) h4 (by rw [h6, if_pos (by omega), if_pos (by omega)]) (by rw [h9]; congr 1; omega)]
theorem tnum_in {cap : Int} {B : Nat → Int} {s : Nat} (hc : 9 ≤ cap) : ∀ k, (∀ j, j < k → tDi (B (s + j))) → 0 ≤ tnum cap B s k ∧ tnum cap B s k ≤ cap := by
  intro k
  induction k with
  | zero => intro _; show 0 ≤ (0 : Int) ∧ (0 : Int) ≤ cap; omega
  | succ k ih =>
    intro hk
    have h1 := ih (fun j hj => hk j (by omega))
    have h2 := hk k (by omega)
    show 0 ≤ min (tnum cap B s k * 10 + B (s + k) - 48) cap ∧ min (tnum cap B s k * 10 + B (s + k) - 48) cap ≤ cap
    omega
/-- two caps above what may be a number are as one -/
theorem tnum_two {B : Nat → Int} {s : Nat} : ∀ k, (∀ j, j < k → tDi (B (s + j))) → min (tnum 4000000000000 B s k) 1000000000001 = tnum 1000000000001 B s k := by
  intro k
  induction k with
  | zero => intro _; rfl
  | succ k ih =>
    intro hk
    have h0 := ih (fun j hj => hk j (by omega))
    have h1 := tnum_in (cap := 4000000000000) (by decide) k (fun j hj => hk j (by omega))
    have h2 := hk k (by omega)
    show min (min (tnum 4000000000000 B s k * 10 + B (s + k) - 48) 4000000000000) 1000000000001 = min (tnum 1000000000001 B s k * 10 + B (s + k) - 48) 1000000000001
    omega
/-- NUMBERS -/
theorem rl_nu {f q n s e : Nat} {B : Nat → Int} {G : xG_} {z : Int} (h : rTx G q B n) (hz : z ≠ 0 → e = s + 1) (hrun : ∀ j, s ≤ j → j < e → tDi (B j)) (hend : z = 0 → ¬ tDi (B e)) (hse : s < e) (hen : e ≤ n) : ∀ (k i fu : Nat) (L : Nat → Int), s + i + k = e → k < fu → L 4 = (q : Int) + s → L 9 = tnum 4000000000000 B s i →
    g218_31 f fu ((q : Int) + (s + i : Nat)) z (xlx G L) = some (xlx G (xu (xu (xu L 9 (tnum 4000000000000 B s (e - s))) 5 ((q : Int) + e)) 2 (if tnum 4000000000000 B s (e - s) ≤ 1000000000000 then L 2 else 1))) := by
  have hl := h.len
  intro k
  induction k with
  | zero =>
    intro i fu L hk hfu h4 h9
    obtain ⟨fu, rfl⟩ : ∃ t, fu = t + 1 := ⟨fu - 1, by omega⟩
    show g218_31b (g218_31 f fu) f _ _ _ = _
    obtain rfl : e = s + i := by omega
    unfold g218_31b g218_89 g218_110
    have hB := h.2.1.le (s + i)
    unfold tDi at hend
    simp only [xlx_2, xlx_3, xlx_4, xlx_5, xlx_6, xlx_7, xlx_8, xlx_9, xlx_10, xlx_u2, xlx_u3, xlx_u4, xlx_u5, xlx_u6, xlx_u7, xlx_u8, xlx_u9, xlx_u10, xu_e, eq_self, reduceIte, Nat.reduceEqDiff, if_true, if_false, not_true_eq_false, not_false_eq_true, Option.bind_some, h.see (p := s + i) rfl, gdigit, h4]
    have e9 : tnum 4000000000000 B s (s + i - s) = L 9 := by rw [h9, show s + i - s = i by omega]
    rw [e9]
    by_cases cz : z = 0
    · rw [if_pos (by grind)]
      split
      · exact congrArg some (xlx_ext (fun j => by unfold xu; grind))
      · exact congrArg some (xlx_ext (fun j => by unfold xu; grind))
    · have := hz cz
      rw [if_neg cz, if_pos (show ¬ (q : Int) + (s + i : Nat) = (q : Int) + s by omega)]
      repeat' split
      all_goals exact congrArg some (xlx_ext (fun j => by unfold xu; grind))
  | succ k ih =>
    intro i fu L hk hfu h4 h9
    obtain ⟨fu, rfl⟩ : ∃ t, fu = t + 1 := ⟨fu - 1, by omega⟩
    have hB := h.2.1.le (s + i)
    have hNi := hrun (s + i) (by omega) (by omega)
    have h12 := tnum_in (cap := 4000000000000) (B := B) (s := s) (by decide) i (fun j hj => hrun (s + j) (by omega) (by omega))
    have e2 : xwr ((q : Int) + (s + i : Nat) + 1) = (q : Int) + (s + (i + 1) : Nat) := by rw [xwr_g _ (by omega) (by omega)]; omega
    show g218_31b (g218_31 f fu) f _ _ _ = _
    have a1 : g218_31b (g218_31 f fu) f ((q : Int) + (s + i : Nat)) z (xlx G L) = g218_54 (g218_31 f fu) f ((q : Int) + (s + i : Nat)) z (xlx G L) := by
      unfold g218_31b
      simp only [xlx_2, xlx_3, xlx_4, xlx_5, xlx_6, xlx_7, xlx_8, xlx_9, xlx_10, xlx_u2, xlx_u3, xlx_u4, xlx_u5, xlx_u6, xlx_u7, xlx_u8, xlx_u9, xlx_u10, xu_e, eq_self, reduceIte, Nat.reduceEqDiff, if_true, if_false, not_true_eq_false, not_false_eq_true, Option.bind_some, h.see (p := s + i) rfl, gdigit, h4]
      rw [if_pos hNi, if_neg (by decide)]
      by_cases cz : z = 0
      · rw [if_pos cz]
      · have := hz cz
        rw [if_neg cz, if_neg (show ¬ ¬ (q : Int) + (s + i : Nat) = (q : Int) + s by omega)]
    rw [a1]
    unfold g218_54
    simp only [xlx_2, xlx_3, xlx_4, xlx_5, xlx_6, xlx_7, xlx_8, xlx_9, xlx_10, xlx_u2, xlx_u3, xlx_u4, xlx_u5, xlx_u6, xlx_u7, xlx_u8, xlx_u9, xlx_u10, xu_e, eq_self, reduceIte, Nat.reduceEqDiff, if_true, if_false, not_true_eq_false, not_false_eq_true, Option.bind_some, h.see (p := s + i) rfl, e2, h9]
    simp (disch := omega) only [xwr_g, xwl_g]
    rw [ih (i + 1) fu _ (by omega) (by omega) (by simp only [xlx_2, xlx_3, xlx_4, xlx_5, xlx_6, xlx_7, xlx_8, xlx_9, xlx_10, xlx_u2, xlx_u3, xlx_u4, xlx_u5, xlx_u6, xlx_u7, xlx_u8, xlx_u9, xlx_u10, xu_e, eq_self, reduceIte, Nat.reduceEqDiff, if_true, if_false, not_true_eq_false, not_false_eq_true, Option.bind_some, h4]) (by simp only [xlx_2, xlx_3, xlx_4, xlx_5, xlx_6, xlx_7, xlx_8, xlx_9, xlx_10, xlx_u2, xlx_u3, xlx_u4, xlx_u5, xlx_u6, xlx_u7, xlx_u8, xlx_u9, xlx_u10, xu_e, eq_self, reduceIte, Nat.reduceEqDiff, if_true, if_false, not_true_eq_false, not_false_eq_true, Option.bind_some]; show _ = min (tnum 4000000000000 B s i * 10 + B (s + i) - 48) 4000000000000; unfold xmin; split <;> omega)]
    exact congrArg some (xlx_ext (fun j => by unfold xu; grind))
end
section
/-! The reference lexes: signs; a TOKEN -/
theorem xidx_is : ∀ c : Fin 256, decide (0 ≤ xidx (xi2ch ((c.val : Nat) : Int))) = decide (c.val = 40 ∨ c.val = 41 ∨ c.val = 44 ∨ c.val = 46 ∨ c.val = 47 ∨ c.val = 58 ∨ c.val = 43 ∨ c.val = 45 ∨ c.val = 42 ∨ c.val = 37 ∨ c.val = 61 ∨ c.val = 60 ∨ c.val = 62) := by decide +kernel
theorem xidx_g {c : Int} (h0 : 0 ≤ c) (h1 : c ≤ 255) : 0 ≤ xidx (xi2ch c) ↔ (c = 40 ∨ c = 41 ∨ c = 44 ∨ c = 46 ∨ c = 47 ∨ c = 58 ∨ c = 43 ∨ c = 45 ∨ c = 42 ∨ c = 37 ∨ c = 61 ∨ c = 60 ∨ c = 62) := by
  have h := xidx_is ⟨c.toNat, by omega⟩
  rw [decide_eq_decide] at h
  have e : ((c.toNat : Nat) : Int) = c := by omega
  simp only [e] at h
  rw [h]
  omega
theorem xand_10 : ∀ c : Fin 256, decide (xand (((c.val : Nat) : Int) - 128) 255 = 10) = decide (c.val = 138) := by decide +kernel
theorem xand_10g {c : Int} (h0 : -128 ≤ c) (h1 : c ≤ 127) : xand c 255 = 10 ↔ c = 10 := by
  have h := xand_10 ⟨(c + 128).toNat, by omega⟩
  rw [decide_eq_decide] at h
  have e : (((c + 128).toNat : Nat) : Int) - 128 = c := by omega
  simp only [e] at h
  rw [h]
  omega
theorem rl_sg {f q n s : Nat} {B : Nat → Int} {G : xG_} {L : Nat → Int} (h : rTx G q B n) (hs : s < n) (h4 : L 4 = (q : Int) + s) (hu : B s ≠ 95) :
    g219 f (B s) (xlx G L) = some (xlx G (xu (xu (xu L 2 (if tsgn (B s) (B (s + 1)) = 5 then 1 else 6)) 5 ((q : Int) + (if 256 ≤ tsgn (B s) (B (s + 1)) then s + 2 else s + 1 : Nat))) 3 (if 256 ≤ tsgn (B s) (B (s + 1)) then tsgn (B s) (B (s + 1)) + 44 else B s))) := by
  have hl := h.len
  have hB := (h.2.1 s).1 hs
  have hx := xidx_g hB.1 hB.2
  have e1 : xwr ((q : Int) + s + 1) = (q : Int) + (s + 1 : Nat) := by rw [xwr_g _ (by omega) (by omega)]; omega
  have e2 : xwr ((q : Int) + s + 2) = (q : Int) + (s + 2 : Nat) := by rw [xwr_g _ (by omega) (by omega)]; omega
  unfold g219 g219_49 g219_71 g219_93 g219_115 g219_145
  simp only [xlx_2, xlx_3, xlx_4, xlx_5, xlx_6, xlx_7, xlx_8, xlx_9, xlx_10, xlx_u2, xlx_u3, xlx_u4, xlx_u5, xlx_u6, xlx_u7, xlx_u8, xlx_u9, xlx_u10, xu_e, eq_self, reduceIte, Nat.reduceEqDiff, if_true, if_false, not_true_eq_false, not_false_eq_true, Option.bind_some, h4, e1, e2, h.see (p := s + 1) rfl, hx]
  generalize B s = c at *
  generalize B (s + 1) = d at *
  unfold tsgn
  by_cases c1 : c = 58
  · by_cases d1 : d = 45
    · simp [c1, d1]
      try exact xlx_ext (fun j => by unfold xu; grind)
    · simp [c1, d1]
      try exact xlx_ext (fun j => by unfold xu; grind)
  by_cases c2 : c = 33
  · by_cases d1 : d = 61
    · simp [c2, d1]
      try exact xlx_ext (fun j => by unfold xu; grind)
    · simp [c2, d1]
      try exact xlx_ext (fun j => by unfold xu; grind)
  by_cases c3 : c = 60
  · by_cases d1 : d = 61
    · simp [c3, d1]
      try exact xlx_ext (fun j => by unfold xu; grind)
    · simp [c3, d1]
      try exact xlx_ext (fun j => by unfold xu; grind)
  by_cases c4 : c = 62
  · by_cases d1 : d = 61
    · simp [c4, d1]
      try exact xlx_ext (fun j => by unfold xu; grind)
    · simp [c4, d1]
      try exact xlx_ext (fun j => by unfold xu; grind)
  simp only [c1, c2, c3, c4, hu, not_false_eq_true, if_true, false_and, if_false, or_false, or_false, false_or]
  by_cases c5 : c = 40 ∨ c = 41 ∨ c = 44 ∨ c = 46 ∨ c = 47 ∨ c = 43 ∨ c = 45 ∨ c = 42 ∨ c = 37 ∨ c = 61
  · rw [if_pos c5, if_pos c5, if_neg (by omega), if_neg (by omega), if_neg (by omega)]
    exact congrArg some (xlx_ext (fun j => by unfold xu; grind))
  · rw [if_neg c5, if_neg c5, if_pos rfl, if_neg (by omega), if_neg (by omega)]
    exact congrArg some (xlx_ext (fun j => by unfold xu; grind))
/-- a remark's end -/
theorem rl_rm {f q n : Nat} {B : Nat → Int} {G : xG_} {L : Nat → Int} {r : Int → Int → xG_ → Option xG_} (h : rTx G q B n) : ∀ (k p fu : Nat), n - p = k → k < fu → p ≤ n →
    ∃ e, p ≤ e ∧ e ≤ n ∧ g214_47 r f fu ((q : Int) + p) (xlx G L) = r ((q : Int) + e) (B e) (xlx G L) ∧ tsk B n true p = tsk B n false e ∧ (e < n → B e = 10) := by
  have hl := h.len
  have h1 := h.2.2.1
  have hT := h.1.1
  have hT2 := h.1.2.2
  intro k
  induction k with
  | zero =>
    intro p fu hk hfu hp
    obtain ⟨fu, rfl⟩ : ∃ t, fu = t + 1 := ⟨fu - 1, by omega⟩
    refine ⟨p, Nat.le_refl _, hp, ?_, ?_, fun c => by omega⟩
    · show g214_47b r (g214_47 r f fu) f _ _ = _
      unfold g214_47b g214_75
      rw [if_pos (show xlx G L 0 1 ≤ _ by show G 0 1 ≤ _; omega), h.see rfl]
      rfl
    · have hb := h.2.1.neg (p := p)
      rw [tsk_eq h.2.1 _ hp, tsk_eq h.2.1 _ hp, if_pos (hb.mpr (by omega)), if_pos (hb.mpr (by omega))]
  | succ k ih =>
    intro p fu hk hfu hp
    obtain ⟨fu, rfl⟩ : ∃ t, fu = t + 1 := ⟨fu - 1, by omega⟩
    have hb := (h.2.1 p).1 (by omega)
    have hy := h.2.2.2.2 p (by omega)
    have hg : B p = xand (G (G 0 0).toNat (q + p)) 255 := by
      rw [← h.2.2.2.1 p]
      unfold gB
      rw [if_neg (by omega), show ((q : Int) + p).toNat = q + p by omega]
    have h10 := xand_10g hy.1 hy.2
    rw [← hg] at h10
    have ebuf : xlx G L (G 0 0).toNat ((q : Int) + p).toNat = G (G 0 0).toNat (q + p) := by
      rw [show ((q : Int) + p).toNat = q + p by omega]
      exact if_neg (by omega)
    have e0 : xlx G L 0 0 = G 0 0 := rfl
    have e1 : xlx G L 0 1 = G 0 1 := rfl
    have es : g214_47 r f (fu + 1) ((q : Int) + p) (xlx G L) = if B p = 10 then r ((q : Int) + p) (B p) (xlx G L) else g214_47 r f fu ((q : Int) + (p + 1 : Nat)) (xlx G L) := by
      show g214_47b r (g214_47 r f fu) f _ _ = _
      unfold g214_47b g214_75
      rw [e0, e1, if_neg (show ¬ G 0 1 ≤ (q : Int) + p by omega), if_neg (show ¬ G 0 0 < 0 by omega), if_pos (show 0 ≤ (q : Int) + p ∧ _ by omega), ebuf, h.see rfl, xwr_g _ (by omega) (by omega), show (q : Int) + p + 1 = (q : Int) + (p + 1 : Nat) by omega]
      simp only [Option.bind_some, h10]
    rw [es, tsk_eq h.2.1 _ hp, if_neg (show ¬ B p < 0 by omega)]
    by_cases c : B p = 10
    · rw [if_pos c, if_neg (fun q => q.1 c)]
      exact ⟨p, Nat.le_refl _, hp, rfl, by rw [tsk_eq h.2.1 false hp]; simp [c], fun _ => c⟩
    · rw [if_neg c, if_pos ⟨c, .inl rfl⟩]
      obtain ⟨e, a1, a2, a3⟩ := ih (p + 1) fu (by omega) (by omega) (by omega)
      exact ⟨e, by omega, a2, a3⟩
theorem rl_sk {f q n : Nat} {B : Nat → Int} {G : xG_} {L : Nat → Int} (h : rTx G q B n) (hf : n < f) : ∀ (k p fu : Nat), n - p ≤ k → k < fu → p ≤ n →
    ∃ fu', g214_11 f fu ((q : Int) + p) (B p) (xlx G L) = g214_11 f (fu' + 1) ((q : Int) + (tsk B n false p : Nat)) (B (tsk B n false p)) (xlx G L) := by
  have hl := h.len
  intro k
  induction k with
  | zero =>
    intro p fu hk hfu hp
    obtain ⟨fu, rfl⟩ : ∃ t, fu = t + 1 := ⟨fu - 1, by omega⟩
    rw [tsk_eq h.2.1 _ hp, if_pos (h.2.1.neg.mpr (by omega))]
    exact ⟨fu, rfl⟩
  | succ k ih =>
    intro p fu hk hfu hp
    obtain ⟨fu, rfl⟩ : ∃ t, fu = t + 1 := ⟨fu - 1, by omega⟩
    by_cases cn : n ≤ p
    · rw [tsk_eq h.2.1 _ hp, if_pos (h.2.1.neg.mpr (by omega))]
      exact ⟨fu, rfl⟩
    replace cn : p < n := by omega
    have hb := (h.2.1 p).1 cn
    by_cases c35 : B p = 35
    · obtain ⟨e, a1, a2, a3, a4, a5⟩ := rl_rm (f := f) (L := L) (r := g214_11 f fu) h (n - p) p f rfl (by omega) hp
      have es : g214_11 f (fu + 1) ((q : Int) + p) (B p) (xlx G L) = g214_47 (g214_11 f fu) f f ((q : Int) + p) (xlx G L) := by
        show g214_11b (g214_11 f fu) f _ _ _ = _
        unfold g214_11b g214_41
        rw [c35]
        rfl
      have ep : p < e := by
        apply Nat.lt_of_le_of_ne a1
        intro he
        have := a5 (by omega)
        rw [← he, c35] at this
        exact absurd this (by decide)
      have et : tsk B n false p = tsk B n false e := by
        rw [← a4, tsk_eq h.2.1 false hp, tsk_eq h.2.1 true hp, if_neg (show ¬ B p < 0 by omega), if_neg (show ¬ B p < 0 by omega), if_pos ⟨by omega, .inr c35⟩, if_pos ⟨by omega, .inl rfl⟩]
      rw [es, a3, et]
      exact ih e fu (by omega) (by omega) a2
    · by_cases cb : tBl (B p)
      · have es : g214_11 f (fu + 1) ((q : Int) + p) (B p) (xlx G L) = g214_11 f fu ((q : Int) + (p + 1 : Nat)) (B (p + 1)) (xlx G L) := by
          show g214_11b (g214_11 f fu) f _ _ _ = _
          have eq : g214_11b (g214_11 f fu) f ((q : Int) + p) (B p) (xlx G L) = g214_41 (g214_11 f fu) f ((q : Int) + p) (B p) (xlx G L) := by
            unfold g214_11b
            unfold tBl at cb
            grind
          rw [eq]
          unfold g214_41 g214_75
          rw [if_pos c35, xwr_g _ (by omega) (by omega), show (q : Int) + p + 1 = (q : Int) + (p + 1 : Nat) by omega, h.see rfl]
          rfl
        have et : tsk B n false p = tsk B n false (p + 1) := by
          rw [tsk_eq h.2.1 false hp, if_neg (show ¬ B p < 0 by omega), if_neg (by rintro ⟨_, q | q⟩; exact absurd q (by decide); exact c35 q), if_pos cb]
        rw [es, et]
        exact ih (p + 1) fu (by omega) (by omega) (by omega)
      · rw [tsk_eq h.2.1 _ hp, if_neg (show ¬ B p < 0 by omega), if_neg (by rintro ⟨_, q | q⟩; exact absurd q (by decide); exact c35 q), if_neg cb]
        exact ⟨fu, rfl⟩
end
section
/-! The reference lexes: a TOKEN as its fields tell it -/
def rkd (B : Nat → Int) (n s : Nat) : Int := if B s < 0 then 0 else if tSm (B s) then 2 else if tGr (B s) then 3 else if tDi (B s) then (if tco B n s ≤ 1000000000000 then 5 else 1) else if B s = 95 then 4 else if tsgn (B s) (B (s + 1)) = 5 then 1 else 6
def rwr (q : Nat) (B : Nat → Int) (n s : Nat) : Int := if tSm (B s) ∧ 12 < ten B n s - s then (q : Int) + s + 12 else if tGr (B s) ∧ 8 < ten B n s - s then (q : Int) + s + 8 else -1
/-- L tells the TOKEN at s (b: it is one too many) -/
def rTk (q : Nat) (B : Nat → Int) (n s : Nat) (b : Prop) [Decidable b] (L : Nat → Int) : Prop :=
  L 4 = (q : Int) + s ∧ L 2 = (if b then 1 else rkd B n s) ∧ L 5 = (q : Int) + (if b then s else ten B n s : Nat) ∧ L 6 = (if b then -1 else rwr q B n s) ∧
  (¬ b → rkd B n s = 6 → L 3 = if 256 ≤ tkd B n s then tkd B n s + 44 else tkd B n s) ∧ (¬ b → rkd B n s = 2 ∨ rkd B n s = 3 ∨ rkd B n s = 5 → L 9 = tco B n s) ∧ (¬ b → rkd B n s = 2 → L 10 = tse B n s)
theorem rl_lex {f q n p : Nat} {B : Nat → Int} {G : xG_} {L : Nat → Int} (h : rTx G q B n) (hf : n + 20 < f) (hp : p ≤ n) (h5 : L 5 = (q : Int) + p) (h8 : 0 ≤ L 8 ∧ L 8 < 2000000000) :
    ∃ L', g214 f (xlx G L) = some (xlx G L') ∧ rTk q B n (tsk B n false p) (0 ≤ B (tsk B n false p) ∧ G 0 11 ≠ 0 ∧ 60 < L' 8) L' ∧ L' 7 = L 7 ∧ L' 8 = L 8 + 1 := by
  have hl := h.len
  obtain ⟨fu, hfu⟩ := rl_sk (f := f) (L := L) h (by omega) n p f (by omega) (by omega) hp
  have hsk := tsk_le h.2.1 (n - p) p false rfl hp
  generalize tsk B n false p = s at *
  have e0 : g214 f (xlx G L) = g214_11 f f ((q : Int) + p) (B p) (xlx G L) := by
    unfold g214
    simp only [xlx_2, xlx_3, xlx_4, xlx_5, xlx_6, xlx_7, xlx_8, xlx_9, xlx_10, xlx_u2, xlx_u3, xlx_u4, xlx_u5, xlx_u6, xlx_u7, xlx_u8, xlx_u9, xlx_u10, xu_e, eq_self, reduceIte, Nat.reduceEqDiff, if_true, if_false, not_true_eq_false, not_false_eq_true, Option.bind_some, h5, h.see (p := p) rfl]
  rw [e0, hfu]
  have hb := h.2.1.le s
  have hneg := h.2.1.neg (p := s)
  have hen := ten_le h.2.1 hsk.2.1
  show ∃ L', g214_11b (g214_11 f fu) f _ _ _ = _ ∧ _
  have hbl : ¬ B s = 9 ∧ ¬ B s = 10 ∧ ¬ B s = 13 ∧ ¬ B s = 32 := by have := hsk.2.2.1; unfold tBl at this; omega
  let L1 := xu (xu (xu (xu L 4 ((q : Int) + s)) 5 ((q : Int) + s)) 6 (-1)) 8 (L 8 + 1)
  have e1 : g214_11b (g214_11 f fu) f ((q : Int) + s) (B s) (xlx G L) = (if B s = -1 then g214_138 f (B s) (xlx G L1) else if G 0 11 = 0 then g214_138 f (B s) (xlx G L1) else if L 8 + 1 ≤ 60 then g214_138 f (B s) (xlx G L1) else some (xlx G (xu L1 2 1))) := by
    unfold g214_11b g214_222
    rw [if_neg hbl.1, if_neg hbl.2.1, if_neg hbl.2.2.1, if_neg hbl.2.2.2, if_pos hsk.2.2.2]
    simp only [xlx_2, xlx_3, xlx_4, xlx_5, xlx_6, xlx_7, xlx_8, xlx_9, xlx_10, xlx_u2, xlx_u3, xlx_u4, xlx_u5, xlx_u6, xlx_u7, xlx_u8, xlx_u9, xlx_u10, xu_e, eq_self, reduceIte, Nat.reduceEqDiff, if_true, if_false, not_true_eq_false, not_false_eq_true, Option.bind_some]
    rw [xwr_g _ (by omega) (by omega)]
    rfl
  have f4 : L1 4 = (q : Int) + s := rfl
  have f5 : L1 5 = (q : Int) + s := rfl
  have f6 : L1 6 = -1 := rfl
  have f7 : L1 7 = L 7 := rfl
  have f8 : L1 8 = L 8 + 1 := rfl
  rw [e1]
  clear e1
  generalize L1 = L1 at *
  have main : ∃ L', g214_138 f (B s) (xlx G L1) = some (xlx G L') ∧ rTk q B n s False L' ∧ L' 7 = L 7 ∧ L' 8 = L 8 + 1 := by
    unfold g214_138 g214_222 rTk
    by_cases c1 : B s < 0
    · rw [if_neg (by omega)]
      simp only [xlx_2, xlx_3, xlx_4, xlx_5, xlx_6, xlx_7, xlx_8, xlx_9, xlx_10, xlx_u2, xlx_u3, xlx_u4, xlx_u5, xlx_u6, xlx_u7, xlx_u8, xlx_u9, xlx_u10, xu_e, eq_self, reduceIte, Nat.reduceEqDiff, if_true, if_false, not_true_eq_false, not_false_eq_true, Option.bind_some]
      refine ⟨_, rfl, ?_⟩
      have k1 : rkd B n s = 0 := if_pos c1
      have k2 : ten B n s = s := if_pos c1
      have k3 : rwr q B n s = -1 := by unfold rwr tSm tGr; grind
      unfold xu
      grind
    · rw [if_pos (by omega)]
      simp only [xlx_2, xlx_3, xlx_4, xlx_5, xlx_6, xlx_7, xlx_8, xlx_9, xlx_10, xlx_u2, xlx_u3, xlx_u4, xlx_u5, xlx_u6, xlx_u7, xlx_u8, xlx_u9, xlx_u10, xu_e, eq_self, reduceIte, Nat.reduceEqDiff, if_true, if_false, not_true_eq_false, not_false_eq_true, Option.bind_some, gsmall, ggreat, gdigit]
      by_cases c2 : tSm (B s)
      · rw [if_pos c2, if_neg (by decide)]
        have hr := trun_is (P := tNm) h.2.1 (by decide) (n - s) s (Nat.le_refl _) hsk.2.1
        have e2 : g216 f (xlx G L1) = g216_17 f f 1 ((q : Int) + (s + 0 : Nat)) (xlx G (xu (xu L1 2 2) 9 0)) := by
          unfold g216
          simp only [xlx_2, xlx_3, xlx_4, xlx_5, xlx_6, xlx_7, xlx_8, xlx_9, xlx_10, xlx_u2, xlx_u3, xlx_u4, xlx_u5, xlx_u6, xlx_u7, xlx_u8, xlx_u9, xlx_u10, xu_e, eq_self, reduceIte, Nat.reduceEqDiff, if_true, if_false, not_true_eq_false, not_false_eq_true, Option.bind_some, f4]
          rfl
        rw [e2, rl_nm (e := tnend B n s) (by omega) h hr.2.2.1 hr.2.2.2 hr.1 hr.2.1 (tnend B n s - s) 0 f 1 _ (by have : s ≤ tnend B n s := hr.1; omega) (by have : tnend B n s ≤ n := hr.2.1; omega) (by simp only [xlx_2, xlx_3, xlx_4, xlx_5, xlx_6, xlx_7, xlx_8, xlx_9, xlx_10, xlx_u2, xlx_u3, xlx_u4, xlx_u5, xlx_u6, xlx_u7, xlx_u8, xlx_u9, xlx_u10, xu_e, eq_self, reduceIte, Nat.reduceEqDiff, if_true, if_false, not_true_eq_false, not_false_eq_true, Option.bind_some, f4]) (by simp only [xlx_2, xlx_3, xlx_4, xlx_5, xlx_6, xlx_7, xlx_8, xlx_9, xlx_10, xlx_u2, xlx_u3, xlx_u4, xlx_u5, xlx_u6, xlx_u7, xlx_u8, xlx_u9, xlx_u10, xu_e, eq_self, reduceIte, Nat.reduceEqDiff, if_true, if_false, not_true_eq_false, not_false_eq_true, Option.bind_some, f6]; rfl) (by simp only [xlx_2, xlx_3, xlx_4, xlx_5, xlx_6, xlx_7, xlx_8, xlx_9, xlx_10, xlx_u2, xlx_u3, xlx_u4, xlx_u5, xlx_u6, xlx_u7, xlx_u8, xlx_u9, xlx_u10, xu_e, eq_self, reduceIte, Nat.reduceEqDiff, if_true, if_false, not_true_eq_false, not_false_eq_true, Option.bind_some]; rfl) (by rw [if_pos (fun j hj => absurd hj (by omega))])]
        refine ⟨_, rfl, ?_⟩
        have k1 : rkd B n s = 2 := by unfold rkd; rw [if_neg c1, if_pos c2]
        have k2 : ten B n s = tnend B n s := by unfold ten; rw [if_neg c1, if_pos c2]
        have k3 : tco B n s = tncode B s (tnend B n s) := if_pos c2
        have k4 : tse B n s = tsens B s (tnend B n s) := if_pos c2
        have k5 : ¬ tGr (B s) := by unfold tGr tSm at *; omega
        unfold rwr
        rw [k1, k2, k3, k4]
        unfold xu
        grind
      · rw [if_neg c2, if_pos rfl]
        by_cases c3 : tGr (B s)
        · rw [if_pos c3, if_neg (by decide)]
          have hr := trun_is (P := tVr) h.2.1 (by decide) (n - s) s (Nat.le_refl _) hsk.2.1
          have e2 : g217 f (xlx G L1) = g217_15 f f ((q : Int) + (s + 0 : Nat)) (xlx G (xu (xu L1 2 3) 9 0)) := by
            unfold g217
            simp only [xlx_2, xlx_3, xlx_4, xlx_5, xlx_6, xlx_7, xlx_8, xlx_9, xlx_10, xlx_u2, xlx_u3, xlx_u4, xlx_u5, xlx_u6, xlx_u7, xlx_u8, xlx_u9, xlx_u10, xu_e, eq_self, reduceIte, Nat.reduceEqDiff, if_true, if_false, not_true_eq_false, not_false_eq_true, Option.bind_some, f4]
            rfl
          rw [e2, rl_vr (e := tvend B n s) h hr.2.2.1 hr.2.2.2 hr.1 hr.2.1 (tvend B n s - s) 0 f _ (by have : s ≤ tvend B n s := hr.1; omega) (by have : tvend B n s ≤ n := hr.2.1; omega) (by simp only [xlx_2, xlx_3, xlx_4, xlx_5, xlx_6, xlx_7, xlx_8, xlx_9, xlx_10, xlx_u2, xlx_u3, xlx_u4, xlx_u5, xlx_u6, xlx_u7, xlx_u8, xlx_u9, xlx_u10, xu_e, eq_self, reduceIte, Nat.reduceEqDiff, if_true, if_false, not_true_eq_false, not_false_eq_true, Option.bind_some, f4]) (by simp only [xlx_2, xlx_3, xlx_4, xlx_5, xlx_6, xlx_7, xlx_8, xlx_9, xlx_10, xlx_u2, xlx_u3, xlx_u4, xlx_u5, xlx_u6, xlx_u7, xlx_u8, xlx_u9, xlx_u10, xu_e, eq_self, reduceIte, Nat.reduceEqDiff, if_true, if_false, not_true_eq_false, not_false_eq_true, Option.bind_some, f6]; rfl) (by simp only [xlx_2, xlx_3, xlx_4, xlx_5, xlx_6, xlx_7, xlx_8, xlx_9, xlx_10, xlx_u2, xlx_u3, xlx_u4, xlx_u5, xlx_u6, xlx_u7, xlx_u8, xlx_u9, xlx_u10, xu_e, eq_self, reduceIte, Nat.reduceEqDiff, if_true, if_false, not_true_eq_false, not_false_eq_true, Option.bind_some]; rfl)]
          refine ⟨_, rfl, ?_⟩
          have k1 : rkd B n s = 3 := by unfold rkd; rw [if_neg c1, if_neg c2, if_pos c3]
          have k2 : ten B n s = tvend B n s := by unfold ten; rw [if_neg c1, if_neg c2, if_pos c3]
          have k3 : tco B n s = tvcode B s (tvend B n s) := by unfold tco; rw [if_neg c2, if_pos c3]
          unfold rwr
          rw [k1, k2, k3]
          unfold xu
          grind
        · rw [if_neg c3, if_pos rfl]
          by_cases c4 : tDi (B s)
          · rw [if_pos c4, if_neg (by decide)]
            have hr := trun_is (P := tDi) h.2.1 (by decide) (n - s) s (Nat.le_refl _) hsk.2.1
            have e2 : g218 f (xlx G L1) = g218_31 f f ((q : Int) + (s + 0 : Nat)) (if B s = 48 then 1 else 0) (xlx G (xu (xu L1 2 5) 9 0)) := by
              unfold g218 g218_30
              simp only [xlx_2, xlx_3, xlx_4, xlx_5, xlx_6, xlx_7, xlx_8, xlx_9, xlx_10, xlx_u2, xlx_u3, xlx_u4, xlx_u5, xlx_u6, xlx_u7, xlx_u8, xlx_u9, xlx_u10, xu_e, eq_self, reduceIte, Nat.reduceEqDiff, if_true, if_false, not_true_eq_false, not_false_eq_true, Option.bind_some, f4, h.see (p := s) rfl]
              by_cases c6 : B s = 48
              · rw [if_neg (by omega), if_pos c6]
                rfl
              · rw [if_pos c6, if_neg c6]
                rfl
            have k1 : ten B n s = tdend B n s := by unfold ten; rw [if_neg c1, if_neg c2, if_neg c3, if_pos c4]
            rw [k1] at hen
            have hrun : ∀ j, s ≤ j → j < tdend B n s → tDi (B j) := by
              unfold tdend
              intro j j1 j2
              split at j2
              · obtain rfl : j = s := by omega
                exact c4
              · exact hr.2.2.1 j j1 j2
            rw [e2, rl_nu (e := tdend B n s) h (by intro z; unfold tdend; rw [if_pos (by grind)]) hrun (by intro z; unfold tdend; rw [if_neg (by grind)]; exact hr.2.2.2) (by omega) hen.2.1 (tdend B n s - s) 0 f _ (by omega) (by omega) (by simp only [xlx_2, xlx_3, xlx_4, xlx_5, xlx_6, xlx_7, xlx_8, xlx_9, xlx_10, xlx_u2, xlx_u3, xlx_u4, xlx_u5, xlx_u6, xlx_u7, xlx_u8, xlx_u9, xlx_u10, xu_e, eq_self, reduceIte, Nat.reduceEqDiff, if_true, if_false, not_true_eq_false, not_false_eq_true, Option.bind_some, f4]) (by simp only [xlx_2, xlx_3, xlx_4, xlx_5, xlx_6, xlx_7, xlx_8, xlx_9, xlx_10, xlx_u2, xlx_u3, xlx_u4, xlx_u5, xlx_u6, xlx_u7, xlx_u8, xlx_u9, xlx_u10, xu_e, eq_self, reduceIte, Nat.reduceEqDiff, if_true, if_false, not_true_eq_false, not_false_eq_true, Option.bind_some]; rfl)]
            refine ⟨_, rfl, ?_⟩
            have k3 : tco B n s = tnum 1000000000001 B s (tdend B n s - s) := by unfold tco; rw [if_neg c2, if_neg c3, if_pos c4]
            have k4 := tnum_two (B := B) (s := s) (tdend B n s - s) (fun j hj => hrun (s + j) (by omega) (by omega))
            rw [← k3] at k4
            have k5 : rkd B n s = if tnum 4000000000000 B s (tdend B n s - s) ≤ 1000000000000 then 5 else 1 := by
              unfold rkd
              rw [if_neg c1, if_neg c2, if_neg c3, if_pos c4, ← k4]
              split <;> split <;> omega
            unfold rwr
            rw [k1, k5]
            unfold xu
            grind
          · rw [if_neg c4, if_pos rfl]
            by_cases c5 : B s = 95
            · rw [if_neg (by omega), f5, xwr_g _ (by omega) (by omega)]
              refine ⟨_, rfl, ?_⟩
              have k0 : tkd B n s = 3 := by unfold tkd tsgn; rw [if_neg c1, if_neg c2, if_neg c3, if_neg c4, c5]; rfl
              have k1 : rkd B n s = 4 := by unfold rkd; rw [if_neg c1, if_neg c2, if_neg c3, if_neg c4, if_pos c5]
              have k2 : ten B n s = s + 1 := by
                unfold ten tsgn
                rw [if_neg c1, if_neg c2, if_neg c3, if_neg c4, c5]
                rfl
              unfold rwr
              rw [k1, k2]
              unfold xu
              grind
            · rw [if_pos c5, rl_sg h (by omega) f4 c5]
              refine ⟨_, rfl, ?_⟩
              have k0 : tkd B n s = tsgn (B s) (B (s + 1)) := by unfold tkd; rw [if_neg c1, if_neg c2, if_neg c3, if_neg c4]
              have k1 : rkd B n s = if tsgn (B s) (B (s + 1)) = 5 then 1 else 6 := by unfold rkd; rw [if_neg c1, if_neg c2, if_neg c3, if_neg c4, if_neg c5]
              have k2 : ten B n s = if 256 ≤ tsgn (B s) (B (s + 1)) then s + 2 else s + 1 := by unfold ten; rw [if_neg c1, if_neg c2, if_neg c3, if_neg c4]
              have k3 : tsgn (B s) (B (s + 1)) < 256 → tsgn (B s) (B (s + 1)) ≠ 5 → tsgn (B s) (B (s + 1)) = B s := by
                unfold tsgn
                intro a1 a2
                repeat' split at a1
                all_goals grind
              unfold rwr
              rw [k0, k1, k2]
              unfold xu
              grind
  obtain ⟨L', m1, m2, m3, m4⟩ := main
  by_cases cb : 0 ≤ B s ∧ G 0 11 ≠ 0 ∧ 60 < L 8 + 1
  · rw [if_neg (by omega), if_neg cb.2.1, if_neg (by omega)]
    refine ⟨_, rfl, ?_, f7, f8⟩
    have e8 : xu L1 2 1 8 = L 8 + 1 := f8
    unfold rTk
    simp only [e8]
    simp only [if_pos cb]
    exact ⟨f4, rfl, f5, f6, fun q => absurd cb q, fun q => absurd cb q, fun q => absurd cb q⟩
  · have e : (if B s = -1 then g214_138 f (B s) (xlx G L1) else if G 0 11 = 0 then g214_138 f (B s) (xlx G L1) else if L 8 + 1 ≤ 60 then g214_138 f (B s) (xlx G L1) else some (xlx G (xu L1 2 1))) = g214_138 f (B s) (xlx G L1) := by grind
    rw [e, m1]
    refine ⟨L', rfl, ?_, m3, m4⟩
    unfold rTk at *
    simp only [m4]
    simp only [if_neg cb]
    simp only [if_neg (show ¬ False from id)] at m2
    exact ⟨m2.1, m2.2.1, m2.2.2.1, m2.2.2.2.1, fun _ => m2.2.2.2.2.1 id, fun _ => m2.2.2.2.2.2.1 id, fun _ => m2.2.2.2.2.2.2 id⟩
end
section
/-! What a text says, over its TOKENS: kinds, begins, ends, numbers, meanings, whether a digit is right behind -/
abbrev tStr : Type := (Nat → Int) × (Nat → Nat) × (Nat → Nat) × (Nat → Int) × (Nat → Int) × (Nat → Bool)
def kK (t : tStr) (i : Nat) : Int := t.1 i
def kS (t : tStr) (i : Nat) : Nat := t.2.1 i
def kE (t : tStr) (i : Nat) : Nat := t.2.2.1 i
def kC (t : tStr) (i : Nat) : Int := t.2.2.2.1 i
def kW (t : tStr) (i : Nat) : Int := t.2.2.2.2.1 i
def kD (t : tStr) (i : Nat) : Bool := t.2.2.2.2.2 i
/-- the TOKENS of a text; with lm the 61st behind the first two can't stand -/
def tstr (B : Nat → Int) (n : Nat) (lm : Bool) : tStr := (fun i => if 0 ≤ B (tS B n i) ∧ lm = true ∧ 62 ≤ i then 5 else tkd B n (tS B n i), tS B n, fun i => ten B n (tS B n i), fun i => tco B n (tS B n i), fun i => tse B n (tS B n i), fun i => decide (tDi (B (ten B n (tS B n i)))))
/-- WRONG at a place, or what was read -/
def pbind {α β : Type} (x : Nat ⊕ α) (k : α → Nat ⊕ β) : Nat ⊕ β := match x with
  | .inl w => .inl w
  | .inr a => k a
def pNeed (t : tStr) (c : Int) (i : Nat) : Nat ⊕ Nat := if kK t i = c then .inr (i + 1) else .inl (kS t i)
def pVal (t : tStr) (i : Nat) : Nat ⊕ (Int × Nat) :=
  if kK t i = 4 ∧ kC t i ≤ 1000000000000 then .inr (kC t i, i + 1)
  else if kK t i = 45 ∧ kD t i = true then (if kK t (i + 1) = 4 ∧ kC t (i + 1) ≤ 1000000000000 then .inr (-(kC t (i + 1)), i + 2) else .inl (kS t (i + 1)))
  else if kK t i = 1 ∧ kW t i ≠ -1 then .inr (kW t i, i + 1)
  else .inl (kS t i)
def pName (t : tStr) (i : Nat) : Nat ⊕ (Int × Nat) :=
  if kK t i ≠ 1 then .inl (kS t i) else if 12 < kE t i - kS t i then .inl (kS t i + 12) else .inr (kC t i, i + 1)
def pIdx (N : List Int) (x : Int) : Int := match N.findIdx? (fun y => decide (y = x)) with
  | some p => (p : Int)
  | none => -1
/-- a predicate's number; a new NAME comes to N -/
def pPred (t : tStr) (N : List Int) (i : Nat) : Nat ⊕ (Int × List Int × Nat) := pbind (pName t i) fun r =>
  if pIdx N r.1 = -1 then (if N.length = 16 then .inl (kS t i) else .inr ((N.length : Int), N ++ [r.1], r.2)) else .inr (pIdx N r.1, N, r.2)
def pVix (V : List (Int × Nat)) (x : Int) : Int := match V.findIdx? (fun y => decide (y.1 = x)) with
  | some p => (p : Int)
  | none => -1
def pVar (t : tStr) (V : List (Int × Nat)) (i : Nat) : Nat ⊕ (Int × List (Int × Nat) × Nat) :=
  if kK t i ≠ 2 then .inl (kS t i) else if 8 < kE t i - kS t i then .inl (kS t i + 8)
  else if pVix V (kC t i) = -1 then (if V.length = 8 then .inl (kS t i) else .inr ((V.length : Int), V ++ [(kC t i, kS t i)], i + 1))
  else .inr (pVix V (kC t i), V, i + 1)
def pNum (t : tStr) (hi : Int) (i : Nat) : Nat ⊕ (Int × Nat) := if kK t i = 4 ∧ 1 ≤ kC t i ∧ kC t i ≤ hi then .inr (kC t i, i + 1) else .inl (kS t i)
abbrev pCd : Type := List (Int × Int)
abbrev pEx : Type := List (Int × Nat) × pCd × Nat
/-- EXPRESSIONS: 0 what stands between signs, 1 all, 2 what is behind the first operand, 3 signs of more strength, 4 of less; b brackets are open -/
def pX (t : tStr) : Nat → Nat → Nat → pEx → Nat ⊕ pEx
  | 0, _, _, _ => .inl 0
  | F + 1, 0, b, e =>
    if kK t e.2.2 = 2 then pbind (pVar t e.1 e.2.2) fun r => .inr (r.2.1, e.2.1 ++ [(2, r.1)], r.2.2)
    else if kK t e.2.2 = 40 then (if b = 4 then .inl (kS t e.2.2) else pbind (pX t F 1 (b + 1) (e.1, e.2.1, e.2.2 + 1)) fun e' => pbind (pNeed t 41 e'.2.2) fun i => .inr (e'.1, e'.2.1, i))
    else pbind (pVal t e.2.2) fun r => .inr (e.1, e.2.1 ++ [(1, r.1)], r.2)
  | F + 1, 1, b, e => pbind (pX t F 0 b e) fun e' => pX t F 2 b e'
  | F + 1, 2, b, e => pbind (pX t F 3 b e) fun e' => pX t F 4 b e'
  | F + 1, 3, b, e =>
    if kK t e.2.2 = 42 ∨ kK t e.2.2 = 47 ∨ kK t e.2.2 = 37 then pbind (pX t F 0 b (e.1, e.2.1, e.2.2 + 1)) fun e' => pX t F 3 b (e'.1, e'.2.1 ++ [(3, kK t e.2.2)], e'.2.2)
    else .inr e
  | F + 1, _, b, e =>
    if kK t e.2.2 = 43 ∨ kK t e.2.2 = 45 then pbind (pX t F 0 b (e.1, e.2.1, e.2.2 + 1)) fun e1 => pbind (pX t F 3 b e1) fun e' => pX t F 4 b (e'.1, e'.2.1 ++ [(3, kK t e.2.2)], e'.2.2)
    else .inr e
/-- a TERM: 1 a VARIABLE, 2 _, 3 a value -/
def pTerm (t : tStr) (V : List (Int × Nat)) (i : Nat) : Nat ⊕ ((Int × Int) × List (Int × Nat) × Nat) :=
  if kK t i = 2 then pbind (pVar t V i) fun r => .inr ((1, r.1), r.2.1, r.2.2)
  else if kK t i = 3 then .inr ((2, 0), V, i + 1)
  else pbind (pVal t i) fun r => .inr ((3, r.1), V, r.2)
/-- further TERMS -/
def pTerms (t : tStr) : Nat → pCd → List (Int × Nat) → Nat → Nat ⊕ (pCd × List (Int × Nat) × Nat)
  | 0, ts, V, i => .inr (ts, V, i)
  | k + 1, ts, V, i => if kK t i = 44 then pbind (pTerm t V (i + 1)) fun r => pTerms t k (ts ++ [r.1]) r.2.1 r.2.2 else .inr (ts, V, i)
/-- a LITERAL: 1 ATOM, 2 not, 3 compare; its predicate or sign; its place; TERMS; both sides -/
abbrev pLt : Type := Int × Int × Nat × pCd × pCd × pCd
/-- NAMES, VARIABLES, LITERALS, mentions (predicate, place, parts, what: 1 input, 2 output, 3 HEAD, 4 ATOM), TOKEN -/
abbrev pMn : Type := Int × Nat × Int × Int
abbrev pRs : Type := List Int × List (Int × Nat) × List pLt × List pMn × Nat
def pAtom (t : tStr) (tell : Bool) (k : Int) (s : pRs) : Nat ⊕ pRs :=
  pbind (if tell = true then pPred t s.1 s.2.2.2.2 else pbind (pName t s.2.2.2.2) fun r => .inr (pIdx s.1 r.1, s.1, r.2)) fun p =>
  pbind (pNeed t 40 p.2.2) fun i => pbind (pTerm t s.2.1 i) fun r => pbind (pTerms t 3 [r.1] r.2.1 r.2.2) fun q =>
  pbind (pNeed t 41 q.2.2) fun i => .inr (p.2.1, q.2.1, s.2.2.1 ++ [(k, p.1, kS t s.2.2.2.2, q.1, [], [])], s.2.2.2.1 ++ [(p.1, kS t s.2.2.2.2, (q.1.length : Int), 4)], i)
def pCmp (t : tStr) (F : Nat) (s : pRs) : Nat ⊕ pRs :=
  pbind (pX t F 1 0 (s.2.1, [], s.2.2.2.2)) fun a =>
  if kK t a.2.2 = 61 ∨ kK t a.2.2 = 257 ∨ kK t a.2.2 = 60 ∨ kK t a.2.2 = 258 ∨ kK t a.2.2 = 62 ∨ kK t a.2.2 = 259 then
    pbind (pX t F 1 0 (a.1, [], a.2.2 + 1)) fun b => .inr (s.1, b.1, s.2.2.1 ++ [(3, kK t a.2.2, kS t s.2.2.2.2, [], a.2.1, b.2.1)], s.2.2.2.1, b.2.2)
  else .inl (kS t a.2.2)
def pAtoms (l : List pLt) : Nat := (l.filter (fun x => decide (x.1 = 1))).length
def pLit (t : tStr) (tell : Bool) (F : Nat) (s : pRs) : Nat ⊕ pRs :=
  if s.2.2.1.length = 8 then .inl (kS t s.2.2.2.2)
  else if kK t s.2.2.2.2 = 9 then pAtom t tell 2 (s.1, s.2.1, s.2.2.1, s.2.2.2.1, s.2.2.2.2 + 1)
  else if kK t s.2.2.2.2 = 1 then
    (if 12 < kE t s.2.2.2.2 - kS t s.2.2.2.2 then .inl (kS t s.2.2.2.2 + 12)
     else if kK t (s.2.2.2.2 + 1) = 40 then (if pAtoms s.2.2.1 = 3 then .inl (kS t s.2.2.2.2) else pAtom t tell 1 s)
     else if kW t s.2.2.2.2 = -1 then .inl (kS t (s.2.2.2.2 + 1)) else pCmp t F s)
  else pCmp t F s
def pLits (t : tStr) (tell : Bool) (F : Nat) : Nat → pRs → Nat ⊕ pRs
  | 0, s => .inr s
  | k + 1, s => if kK t s.2.2.2.2 = 44 then pbind (pLit t tell F (s.1, s.2.1, s.2.2.1, s.2.2.2.1, s.2.2.2.2 + 1)) fun s' => pLits t tell F k s' else .inr s
/-- ITEMS: VARIABLES, gathering (kind 0 or 10 to 13, which ITEM, VARIABLE), codes, TOKEN -/
abbrev pIt : Type := List (Int × Nat) × (Int × Int × Int) × List pCd × Nat
def pItem (t : tStr) (F : Nat) (s : pIt) : Nat ⊕ pIt :=
  if 10 ≤ kK t s.2.2.2 ∧ kK t s.2.2.2 ≤ 13 then
    (if s.2.1.1 ≠ 0 then .inl (kS t s.2.2.2)
     else pbind (pNeed t 40 (s.2.2.2 + 1)) fun i =>
       if kK t s.2.2.2 = 10 then pbind (pNeed t 41 i) fun i => .inr (s.1, (10, (s.2.2.1.length : Int), -1), s.2.2.1 ++ [[]], i)
       else pbind (pVar t s.1 i) fun r => pbind (pNeed t 41 r.2.2) fun i => .inr (r.2.1, (kK t s.2.2.2, (s.2.2.1.length : Int), r.1), s.2.2.1 ++ [[]], i))
  else pbind (pX t F 1 0 (s.1, [], s.2.2.2)) fun e => .inr (e.1, s.2.1, s.2.2.1 ++ [e.2.1], e.2.2)
def pItems (t : tStr) (F : Nat) : Nat → pIt → Nat ⊕ pIt
  | 0, s => .inr s
  | k + 1, s => if kK t s.2.2.2 = 44 then pbind (pItem t F (s.1, s.2.1, s.2.2.1, s.2.2.2 + 1)) fun s' => pItems t F k s' else .inr s
/-- a rule: HEAD, its place, gathering, ITEMS, VARIABLES, LITERALS -/
abbrev pRu : Type := Int × Nat × (Int × Int × Int) × List pCd × List (Int × Nat) × List pLt
/-- a program: NAMES, inputs (predicate, n, k), outputs, mentions, rules, TOKEN -/
abbrev pPg : Type := List Int × List (Int × Int × Int) × List Int × List pMn × List pRu × Nat
def pInput (t : tStr) (s : pPg) : Nat ⊕ pPg :=
  pbind (pPred t s.1 (s.2.2.2.2.2 + 1)) fun p => pbind (pNeed t 47 p.2.2) fun i => pbind (pNum t 4 i) fun n =>
  pbind (if kK t n.2 = 8 then pNum t (n.1 - 1) (n.2 + 1) else .inr (0, n.2)) fun k => pbind (pNeed t 46 k.2) fun i =>
  .inr (p.2.1, s.2.1 ++ [(p.1, n.1, k.1)], s.2.2.1, s.2.2.2.1 ++ [(p.1, kS t (s.2.2.2.2.2 + 1), n.1, 1)], s.2.2.2.2.1, i)
def pOutput (t : tStr) (s : pPg) : Nat ⊕ pPg :=
  pbind (pPred t s.1 (s.2.2.2.2.2 + 1)) fun p => pbind (pNeed t 46 p.2.2) fun i =>
  .inr (p.2.1, s.2.1, s.2.2.1 ++ [p.1], s.2.2.2.1 ++ [(p.1, kS t (s.2.2.2.2.2 + 1), -1, 2)], s.2.2.2.2.1, i)
def pRule (t : tStr) (F : Nat) (s : pPg) : Nat ⊕ pPg :=
  if s.2.2.2.2.1.length = 24 then .inl (kS t s.2.2.2.2.2) else
  pbind (pPred t s.1 s.2.2.2.2.2) fun p => pbind (pNeed t 40 p.2.2) fun i => pbind (pItem t F ([], (0, -1, -1), [], i)) fun a => pbind (pItems t F 3 a) fun a =>
  pbind (pNeed t 41 a.2.2.2) fun i =>
  pbind (if kK t i = 256 then pbind (pLit t true F (p.2.1, a.1, [], s.2.2.2.1 ++ [(p.1, kS t s.2.2.2.2.2, (a.2.2.1.length : Int), 3)], i + 1)) (pLits t true F 9) else .inr (p.2.1, a.1, [], s.2.2.2.1 ++ [(p.1, kS t s.2.2.2.2.2, (a.2.2.1.length : Int), 3)], i)) fun l =>
  pbind (pNeed t 46 l.2.2.2.2) fun i =>
  .inr (l.1, s.2.1, s.2.2.1, l.2.2.2.1, s.2.2.2.2.1 ++ [(p.1, kS t s.2.2.2.2.2, a.2.1, a.2.2.1, l.2.1, l.2.2.1)], i)
def pProg (t : tStr) (F : Nat) : Nat → pPg → Nat ⊕ pPg
  | 0, _ => .inl 0
  | k + 1, s => if kK t s.2.2.2.2.2 = 0 then .inr s
    else pbind (if kK t s.2.2.2.2.2 = 6 then pInput t s else if kK t s.2.2.2.2.2 = 7 then pOutput t s else pRule t F s) fun s' => pProg t F k s'
/-- a QUERY over NAMES N -/
def pQuery (t : tStr) (F : Nat) (N : List Int) : Nat ⊕ pRs := pbind (pLit t false F (N, [], [], [], 0)) fun s => pbind (pLits t false F 9 s) fun s => pbind (pNeed t 46 s.2.2.2.2) fun i => if kK t i = 0 then .inr (s.1, s.2.1, s.2.2.1, s.2.2.2.1, i) else .inl (kS t i)
/-- CHANGES: + or -, NAME, place, values -/
abbrev pCh : Type := Int × Int × Nat × List Int
def pVals (t : tStr) : Nat → List Int → Nat → Nat ⊕ (List Int × Nat)
  | 0, vs, i => .inr (vs, i)
  | k + 1, vs, i => if kK t i = 44 then pbind (pVal t (i + 1)) fun r => pVals t k (vs ++ [r.1]) r.2 else .inr (vs, i)
def pChange (t : tStr) (i : Nat) : Nat ⊕ (pCh × Nat) :=
  if kK t i ≠ 43 ∧ kK t i ≠ 45 then .inl (kS t i) else
  pbind (pName t (i + 1)) fun x => pbind (pNeed t 40 x.2) fun j => pbind (pVal t j) fun v => pbind (pVals t 3 [v.1] v.2) fun r => pbind (pNeed t 41 r.2) fun j => pbind (pNeed t 46 j) fun j =>
  .inr ((kK t i, x.1, kS t (i + 1), r.1), j)
def pChanges (t : tStr) : Nat → List pCh → Nat → Nat ⊕ (List pCh × Nat)
  | 0, _, _ => .inl 0
  | k + 1, cs, i => if kK t i = 0 then .inr (cs, i) else pbind (pChange t i) fun r => pChanges t k (cs ++ [r.1]) r.2
end
section
/-! The reference's words on the TOKEN at which it is -/
section
variable {f : Nat} {G : xG_} {L : Nat → Int}
theorem l_bad : g211 f (xlx G L) = some (if L 7 = -1 then 0 else 1, xlx G L) := by
  unfold g211 g211_13
  simp only [xlx_2, xlx_3, xlx_4, xlx_5, xlx_6, xlx_7, xlx_8, xlx_9, xlx_10, xlx_u2, xlx_u3, xlx_u4, xlx_u5, xlx_u6, xlx_u7, xlx_u8, xlx_u9, xlx_u10, xu_e, eq_self, reduceIte, Nat.reduceEqDiff, if_true, if_false, not_true_eq_false, not_false_eq_true, Option.bind_some]
  grind
theorem l_fail (a : Int) : g210 f a (xlx G L) = some (xlx G (if L 7 = -1 then xu L 7 a else L)) := by
  unfold g210 g210_13
  simp only [xlx_2, xlx_3, xlx_4, xlx_5, xlx_6, xlx_7, xlx_8, xlx_9, xlx_10, xlx_u2, xlx_u3, xlx_u4, xlx_u5, xlx_u6, xlx_u7, xlx_u8, xlx_u9, xlx_u10, xu_e, eq_self, reduceIte, Nat.reduceEqDiff, if_true, if_false, not_true_eq_false, not_false_eq_true, Option.bind_some]
  grind
theorem l_sign (c : Int) : g220 f c (xlx G L) = some (if L 7 = -1 ∧ L 2 = 6 ∧ L 3 = c then 1 else 0, xlx G L) := by
  unfold g220 g220_28 g220_29
  simp only [xlx_2, xlx_3, xlx_4, xlx_5, xlx_6, xlx_7, xlx_8, xlx_9, xlx_10, xlx_u2, xlx_u3, xlx_u4, xlx_u5, xlx_u6, xlx_u7, xlx_u8, xlx_u9, xlx_u10, xu_e, eq_self, reduceIte, Nat.reduceEqDiff, if_true, if_false, not_true_eq_false, not_false_eq_true, Option.bind_some, l_bad]
  grind
theorem l_kind (k : Int) : g221 f k (xlx G L) = some (if L 7 = -1 ∧ L 2 = k then 1 else 0, xlx G L) := by
  unfold g221 g221_19 g221_20
  simp only [xlx_2, xlx_3, xlx_4, xlx_5, xlx_6, xlx_7, xlx_8, xlx_9, xlx_10, xlx_u2, xlx_u3, xlx_u4, xlx_u5, xlx_u6, xlx_u7, xlx_u8, xlx_u9, xlx_u10, xu_e, eq_self, reduceIte, Nat.reduceEqDiff, if_true, if_false, not_true_eq_false, not_false_eq_true, Option.bind_some, l_bad]
  grind
theorem l_word (x : Int) : g225 f x (xlx G L) = some (if L 7 = -1 ∧ L 2 = 2 ∧ L 9 = x then 1 else 0, xlx G L) := by
  unfold g225 g225_21 g225_22
  simp only [xlx_2, xlx_3, xlx_4, xlx_5, xlx_6, xlx_7, xlx_8, xlx_9, xlx_10, xlx_u2, xlx_u3, xlx_u4, xlx_u5, xlx_u6, xlx_u7, xlx_u8, xlx_u9, xlx_u10, xu_e, eq_self, reduceIte, Nat.reduceEqDiff, if_true, if_false, not_true_eq_false, not_false_eq_true, Option.bind_some, l_kind]
  grind
/-- the numbers of the words with a meaning -/
def rC (G : xG_) : Prop := G 0 12 = 19558354 ∧ G 0 13 = 1233436738 ∧ G 0 14 = 16099 ∧ G 0 15 = 20806 ∧ G 0 16 = 7109364 ∧ G 0 17 = 28247 ∧ G 0 18 = 25298178 ∧ G 0 19 = 735738 ∧ G 0 20 = 348
theorem xlx_o (G : xG_) (L : Nat → Int) {o i : Nat} (h : ¬ (o = 0 ∧ 2 ≤ i ∧ i ≤ 10)) : xlx G L o i = G o i := if_neg h
theorem l_name (hC : rC G) : g226 f (xlx G L) = some (if L 7 = -1 ∧ L 2 = 2 ∧ tres (L 9) = 1 then 1 else 0, xlx G L) := by
  obtain ⟨h12, h13, h14, h15, h16, h17, h18, h19, _⟩ := hC
  unfold g226 g226_23 g226_24
  simp only [xlx_2, xlx_3, xlx_4, xlx_5, xlx_6, xlx_7, xlx_8, xlx_9, xlx_10, xlx_u2, xlx_u3, xlx_u4, xlx_u5, xlx_u6, xlx_u7, xlx_u8, xlx_u9, xlx_u10, xu_e, eq_self, reduceIte, Nat.reduceEqDiff, if_true, if_false, not_true_eq_false, not_false_eq_true, Option.bind_some, l_kind]
  unfold g224 g224_72 g224_77
  rw [xlx_o G L (i := 12) (by decide), xlx_o G L (i := 13) (by decide), xlx_o G L (i := 14) (by decide), xlx_o G L (i := 15) (by decide), xlx_o G L (i := 16) (by decide), xlx_o G L (i := 17) (by decide), xlx_o G L (i := 18) (by decide), xlx_o G L (i := 19) (by decide), h12, h13, h14, h15, h16, h17, h18, h19]
  by_cases c1 : L 7 = -1
  · by_cases c2 : L 2 = 2
    · simp only [c1, c2, true_and, and_self, if_true]
      unfold tres
      by_cases a1 : L 9 = 19558354
      · simp [a1]
      by_cases a2 : L 9 = 1233436738
      · simp [a2]
      by_cases a3 : L 9 = 16099
      · simp [a3]
      by_cases a4 : L 9 = 20806
      · simp [a4]
      by_cases a5 : L 9 = 7109364
      · simp [a5]
      by_cases a6 : L 9 = 28247
      · simp [a6]
      by_cases a7 : L 9 = 25298178
      · simp [a7]
      by_cases a8 : L 9 = 735738
      · simp [a8]
      simp [a1, a2, a3, a4, a5, a6, a7, a8]
    · simp [c2]
  · simp [c1]
end
/-- signs as the reference has them -/
def rsc (c : Int) : Int := if 256 ≤ c then c + 44 else c
def isSg (c : Int) : Prop := c = 40 ∨ c = 41 ∨ c = 44 ∨ c = 46 ∨ c = 47 ∨ c = 58 ∨ c = 43 ∨ c = 45 ∨ c = 42 ∨ c = 37 ∨ c = 61 ∨ c = 60 ∨ c = 62 ∨ c = 256 ∨ c = 257 ∨ c = 258 ∨ c = 259
/-- at the i-th TOKEN of the text -/
def rAt (q : Nat) (B : Nat → Int) (n : Nat) (lm : Bool) (i : Nat) (L : Nat → Int) : Prop := L 7 = -1 ∧ rTk q B n (tS B n i) (0 ≤ B (tS B n i) ∧ lm = true ∧ 62 ≤ i) L ∧ i ≤ tS B n i ∧ 0 ≤ L 8 ∧ L 8 ≤ (i : Int) + 1 ∧ (lm = true → L 8 = (i : Int) - 1)
theorem tres_in (c : Int) : tres c = 1 ∨ (6 ≤ tres c ∧ tres c ≤ 13) := by
  unfold tres
  repeat' split
  all_goals omega
theorem tsgn_in (c d : Int) : tsgn c d = 3 ∧ c = 95 ∨ tsgn c d = 5 ∨ isSg (tsgn c d) := by
  unfold tsgn isSg
  repeat' split
  all_goals omega
/-- what a TOKEN's fields tell, in the words of the TOKENS -/
def rTK (q : Nat) (t : tStr) (i : Nat) (L : Nat → Int) : Prop :=
  L 4 = (q : Int) + kS t i ∧ (∀ c, isSg c → (L 2 = 6 ∧ L 3 = rsc c ↔ kK t i = c)) ∧ (L 2 = 2 ↔ kK t i = 1 ∨ 6 ≤ kK t i ∧ kK t i ≤ 13) ∧ (L 2 = 3 ↔ kK t i = 2) ∧ (L 2 = 4 ↔ kK t i = 3) ∧ (L 2 = 5 ↔ kK t i = 4 ∧ kC t i ≤ 1000000000000) ∧ (L 2 = 0 ↔ kK t i = 0) ∧
  (L 2 = 2 → L 9 = kC t i ∧ L 10 = kW t i ∧ tres (kC t i) = kK t i) ∧ (L 2 = 3 → L 9 = kC t i) ∧ (L 2 = 5 → L 9 = kC t i) ∧
  L 6 = (if L 2 = 2 ∧ 12 < kE t i - kS t i then (q : Int) + kS t i + 12 else if L 2 = 3 ∧ 8 < kE t i - kS t i then (q : Int) + kS t i + 8 else -1) ∧ (kK t i ≠ 5 → L 5 = (q : Int) + kE t i) ∧ (kK t i ≠ 0 → kS t i < kE t i) ∧ (L 2 = 6 → isSg (kK t i) ∧ L 3 = rsc (kK t i))
theorem rAt.tk {q n i : Nat} {B : Nat → Int} {lm : Bool} {L : Nat → Int} (hB : tTx B n) (h : rAt q B n lm i L) : rTK q (tstr B n lm) i L := by
  obtain ⟨_, ⟨h4, h2, h5, h6, h3, h9, h10⟩, _⟩ := h
  have hS := tS_le hB i
  have hen := ten_le hB hS.1
  have eS : kS (tstr B n lm) i = tS B n i := rfl
  have eE : kE (tstr B n lm) i = ten B n (tS B n i) := rfl
  have eC : kC (tstr B n lm) i = tco B n (tS B n i) := rfl
  have eW : kW (tstr B n lm) i = tse B n (tS B n i) := rfl
  have eK : kK (tstr B n lm) i = if 0 ≤ B (tS B n i) ∧ lm = true ∧ 62 ≤ i then 5 else tkd B n (tS B n i) := rfl
  unfold rTK
  rw [eS, eE, eC, eW, eK]
  by_cases cb : 0 ≤ B (tS B n i) ∧ lm = true ∧ 62 ≤ i
  · simp only [if_pos cb] at h2 h5 h6 ⊢
    rw [h2, h5, h6]
    refine ⟨h4, ?_, by omega, by omega, by omega, by omega, by omega, by omega, by omega, by omega, ?_, by omega, fun _ => hen.2.2 cb.1, by omega⟩
    · intro c hc
      unfold isSg at hc
      omega
    · simp
  · simp only [if_neg cb] at h2 h5 h6 ⊢
    replace h3 := h3 cb
    replace h9 := h9 cb
    replace h10 := h10 cb
    clear cb eK eS eE eC eW hB
    generalize tS B n i = s at *
    have h6' := h6
    unfold rwr at h6
    by_cases c1 : B s < 0
    · have k1 : rkd B n s = 0 := if_pos c1
      have k2 : tkd B n s = 0 := if_pos c1
      have k3 : ¬ tSm (B s) := by unfold tSm; omega
      have k4 : ¬ tGr (B s) := by unfold tGr; omega
      rw [k1] at h2
      rw [if_neg (fun q => k3 q.1), if_neg (fun q => k4 q.1)] at h6
      rw [k2, h2, h6]
      refine ⟨h4, ?_, by omega, by omega, by omega, by omega, by omega, by omega, by omega, by omega, ?_, fun _ => h5, by omega, by omega⟩
      · intro c hc
        unfold isSg at hc
        omega
      · simp
    · have hlt := hen.2.2 (by omega)
      by_cases c2 : tSm (B s)
      · have k1 : rkd B n s = 2 := by unfold rkd; rw [if_neg c1, if_pos c2]
        have k2 : tkd B n s = tres (tco B n s) := by unfold tkd tco; rw [if_neg c1, if_pos c2, if_pos c2]
        have k3 := tres_in (tco B n s)
        have k4 : ¬ tGr (B s) := by unfold tGr; unfold tSm at c2; omega
        rw [k1] at h2
        rw [← k2] at k3
        refine ⟨h4, ?_, by omega, by omega, by omega, by omega, by omega, fun _ => ⟨h9 (by omega), h10 k1, k2.symm⟩, by omega, by omega, ?_, fun _ => h5, fun _ => hlt, by omega⟩
        · intro c hc
          unfold isSg at hc
          omega
        · rw [h6, h2]
          grind
      · by_cases c3 : tGr (B s)
        · have k1 : rkd B n s = 3 := by unfold rkd; rw [if_neg c1, if_neg c2, if_pos c3]
          have k2 : tkd B n s = 2 := by unfold tkd; rw [if_neg c1, if_neg c2, if_pos c3]
          rw [k1] at h2
          rw [k2]
          refine ⟨h4, ?_, by omega, by omega, by omega, by omega, by omega, by omega, fun _ => h9 (by omega), by omega, ?_, fun _ => h5, fun _ => hlt, by omega⟩
          · intro c hc
            unfold isSg at hc
            omega
          · rw [h6, h2]
            grind
        · rw [if_neg (fun q => c2 q.1), if_neg (fun q => c3 q.1)] at h6
          by_cases c4 : tDi (B s)
          · have k1 : rkd B n s = if tco B n s ≤ 1000000000000 then 5 else 1 := by unfold rkd; rw [if_neg c1, if_neg c2, if_neg c3, if_pos c4]
            have k2 : tkd B n s = 4 := by unfold tkd; rw [if_neg c1, if_neg c2, if_neg c3, if_pos c4]
            rw [k2]
            by_cases c5 : tco B n s ≤ 1000000000000
            · rw [if_pos c5] at k1
              rw [k1] at h2
              refine ⟨h4, ?_, by omega, by omega, by omega, by omega, by omega, by omega, by omega, fun _ => h9 (by omega), ?_, fun _ => h5, fun _ => hlt, by omega⟩
              · intro c hc
                unfold isSg at hc
                omega
              · rw [h6, h2]
                simp
            · rw [if_neg c5] at k1
              rw [k1] at h2
              refine ⟨h4, ?_, by omega, by omega, by omega, by omega, by omega, by omega, by omega, by omega, ?_, fun _ => h5, fun _ => hlt, by omega⟩
              · intro c hc
                unfold isSg at hc
                omega
              · rw [h6, h2]
                simp
          · have k2 : tkd B n s = tsgn (B s) (B (s + 1)) := by unfold tkd; rw [if_neg c1, if_neg c2, if_neg c3, if_neg c4]
            have k3 := tsgn_in (B s) (B (s + 1))
            have k1 : rkd B n s = if B s = 95 then 4 else if tsgn (B s) (B (s + 1)) = 5 then 1 else 6 := by unfold rkd; rw [if_neg c1, if_neg c2, if_neg c3, if_neg c4]
            have k4 : B s = 95 → tsgn (B s) (B (s + 1)) = 3 := by intro e; unfold tsgn; rw [e]; rfl
            rw [← k2] at k3 k1 k4
            have e3 : (if 256 ≤ tkd B n s then tkd B n s + 44 else tkd B n s) = rsc (tkd B n s) := rfl
            rw [e3] at h3
            generalize tkd B n s = k at *
            by_cases c5 : B s = 95
            · rw [if_pos c5] at k1
              rw [k1] at h2
              replace k4 := k4 c5
              refine ⟨h4, ?_, by omega, by omega, by omega, by omega, by omega, by omega, by omega, by omega, ?_, fun _ => h5, fun _ => hlt, by omega⟩
              · intro c hc
                unfold isSg at hc
                omega
              · rw [h6, h2]
                simp
            · rw [if_neg c5] at k1
              by_cases c6 : k = 5
              · rw [if_pos c6] at k1
                rw [k1] at h2
                refine ⟨h4, ?_, by omega, by omega, by omega, by omega, by omega, by omega, by omega, by omega, ?_, fun _ => h5, fun _ => hlt, by omega⟩
                · intro c hc
                  unfold isSg at hc
                  omega
                · rw [h6, h2]
                  simp
              · rw [if_neg c6] at k1
                have hg : isSg k := by
                  rcases k3 with q | q | q
                  · exact absurd q.2 c5
                  · exact absurd q c6
                  · exact q
                replace h3 := h3 k1
                rw [k1] at h2
                have hg2 := hg
                unfold isSg at hg2
                refine ⟨h4, ?_, by omega, by omega, by omega, by omega, by omega, by omega, by omega, by omega, ?_, fun _ => h5, fun _ => hlt, fun _ => ⟨hg, h3⟩⟩
                · intro c hc
                  rw [h2, h3]
                  unfold isSg at hc
                  unfold rsc
                  constructor
                  · intro e
                    have e2 := e.2
                    split at e2 <;> split at e2 <;> omega
                  · intro e
                    rw [e]
                    exact ⟨rfl, rfl⟩
                · rw [h6, h2]
                  simp
end
section
/-! The reference goes on to the next TOKEN; needs a sign; a value -/
def pok {α : Type} (x : Nat ⊕ α) (P : Nat → Prop) (Q : α → Prop) : Prop := match x with
  | .inl w => P w
  | .inr a => Q a
/-- the text that is read, the limit of TOKENS, the words with a meaning, the program that is read into -/
def rEv (G : xG_) (q : Nat) (B : Nat → Int) (n : Nat) (lm : Bool) (o : Nat) : Prop := rTx G q B n ∧ G 0 11 = (if lm = true then 1 else 0) ∧ rC G ∧ G 0 22 = (o : Int) ∧ (o = 2 ∨ o = 37 ∨ o = 72)
theorem xneg8_g (a : Int) (h1 : -9223372036854775808 < a) (h2 : a < 9223372036854775808) : xneg8 a = -a := by
  unfold xneg8
  rw [Int64.toInt_neg, Int64.toInt_ofInt_of_le (by omega) h2]
  exact Int.bmod_eq_of_le (by omega) (by omega)
theorem tkd_inv {B : Nat → Int} {n s : Nat} : (tkd B n s = 4 → ¬ B s < 0 ∧ ¬ tSm (B s) ∧ ¬ tGr (B s) ∧ tDi (B s)) ∧ (tkd B n s = 1 → ¬ B s < 0 ∧ tSm (B s)) := by
  have k3 := tsgn_in (B s) (B (s + 1))
  unfold isSg at k3
  have k4 := tres_in (tncode B s (tnend B n s))
  unfold tkd
  constructor
  · intro h
    by_cases c1 : B s < 0
    · rw [if_pos c1] at h; omega
    rw [if_neg c1] at h
    by_cases c2 : tSm (B s)
    · rw [if_pos c2] at h; omega
    rw [if_neg c2] at h
    by_cases c3 : tGr (B s)
    · rw [if_pos c3] at h; omega
    rw [if_neg c3] at h
    by_cases c4 : tDi (B s)
    · exact ⟨c1, c2, c3, c4⟩
    rw [if_neg c4] at h; omega
  · intro h
    by_cases c1 : B s < 0
    · rw [if_pos c1] at h; omega
    rw [if_neg c1] at h
    by_cases c2 : tSm (B s)
    · exact ⟨c1, c2⟩
    rw [if_neg c2] at h
    by_cases c3 : tGr (B s)
    · rw [if_pos c3] at h; omega
    rw [if_neg c3] at h
    by_cases c4 : tDi (B s)
    · rw [if_pos c4] at h; omega
    rw [if_neg c4] at h; omega
theorem kK_inv {B : Nat → Int} {n i : Nat} {lm : Bool} {k : Int} (h : kK (tstr B n lm) i = k) (hk : k ≠ 5) : tkd B n (tS B n i) = k := by
  have e : kK (tstr B n lm) i = if 0 ≤ B (tS B n i) ∧ lm = true ∧ 62 ≤ i then 5 else tkd B n (tS B n i) := rfl
  rw [e] at h
  split at h
  · exact absurd h.symm hk
  · exact h
theorem tok_num {B : Nat → Int} {n i : Nat} {lm : Bool} (hB : tTx B n) (h : kK (tstr B n lm) i = 4) : 0 ≤ kC (tstr B n lm) i := by
  have hS := tS_le hB i
  obtain ⟨c1, c2, c3, c4⟩ := tkd_inv.1 (kK_inv h (by decide))
  show 0 ≤ tco B n (tS B n i)
  have hen := ten_le hB hS.1
  have hr := trun_is (P := tDi) hB (by decide) (n - tS B n i) (tS B n i) (Nat.le_refl _) hS.1
  unfold tco
  rw [if_neg c2, if_neg c3, if_pos c4]
  refine (tnum_in (by decide) _ (fun j hj => ?_)).1
  unfold tdend at hj
  split at hj
  · obtain rfl : j = 0 := by omega
    exact c4
  · exact hr.2.2.1 _ (by omega) (by omega)
theorem tword_in {B : Nat → Int} {s e : Nat} (h : ∀ j, s ≤ j → j < e → tSm (B j)) : ∀ k, 0 ≤ tword B s e k ∧ tword B s e k < 27 ^ k := by
  intro k
  induction k with
  | zero => exact ⟨Int.le_refl _, (by decide : (0 : Int) < 27 ^ 0)⟩
  | succ k ih =>
    have h1 : tword B s e (k + 1) = tword B s e k * 27 + (if s + k < e then B (s + k) - 96 else 0) := rfl
    have h2 : 0 ≤ (if s + k < e then B (s + k) - 96 else 0) ∧ (if s + k < e then B (s + k) - 96 else 0) ≤ 26 := by
      split
      · have := h (s + k) (by omega) (by omega)
        omega
      · omega
    rw [h1, Int.pow_succ]
    omega
theorem tok_word {B : Nat → Int} {n i : Nat} {lm : Bool} (hB : tTx B n) (h : kK (tstr B n lm) i = 1) (hw : ¬ kW (tstr B n lm) i = -1) : kE (tstr B n lm) i - kS (tstr B n lm) i ≤ 8 ∧ 2000000000000 ≤ kW (tstr B n lm) i ∧ kW (tstr B n lm) i ≤ 9000000000000000 := by
  obtain ⟨c1, c2⟩ := tkd_inv.2 (kK_inv h (by decide))
  have eW : kW (tstr B n lm) i = tse B n (tS B n i) := rfl
  have eE : kE (tstr B n lm) i = ten B n (tS B n i) := rfl
  have eS : kS (tstr B n lm) i = tS B n i := rfl
  rw [eW] at hw ⊢
  rw [eE, eS]
  have k2 : ten B n (tS B n i) = tnend B n (tS B n i) := by unfold ten; rw [if_neg c1, if_pos c2]
  have k4 : tse B n (tS B n i) = tsens B (tS B n i) (tnend B n (tS B n i)) := if_pos c2
  rw [k4] at hw ⊢
  rw [k2]
  unfold tsens at hw ⊢
  split at hw
  · rename_i c
    rw [if_pos c]
    have := tword_in (B := B) (s := tS B n i) (e := tnend B n (tS B n i)) (fun j j1 j2 => by have := c.1 (j - tS B n i) (by omega); rw [show tS B n i + (j - tS B n i) = j by omega] at this; exact this) 8
    have e8 : (27 : Int) ^ 8 = 282429536481 := by decide
    omega
  · exact absurd rfl hw
section
variable {f q n o i : Nat} {B : Nat → Int} {lm : Bool} {G : xG_} {L : Nat → Int}
theorem l_pass_bad (h : L 7 ≠ -1) : g213 f (xlx G L) = some (xlx G L) := by
  unfold g213
  simp only [xlx_2, xlx_3, xlx_4, xlx_5, xlx_6, xlx_7, xlx_8, xlx_9, xlx_10, xlx_u2, xlx_u3, xlx_u4, xlx_u5, xlx_u6, xlx_u7, xlx_u8, xlx_u9, xlx_u10, xu_e, eq_self, reduceIte, Nat.reduceEqDiff, if_true, if_false, not_true_eq_false, not_false_eq_true, Option.bind_some, i10, i01, true_and, false_and, and_false, ne_eq, Int.reduceEq, Int.reduceNeg, l_bad, h]
theorem l_pass_wr (h : L 7 = -1) (h6 : L 6 ≠ -1) : g213 f (xlx G L) = some (xlx G (xu L 7 (L 6))) := by
  unfold g213 g213_31
  simp only [xlx_2, xlx_3, xlx_4, xlx_5, xlx_6, xlx_7, xlx_8, xlx_9, xlx_10, xlx_u2, xlx_u3, xlx_u4, xlx_u5, xlx_u6, xlx_u7, xlx_u8, xlx_u9, xlx_u10, xu_e, eq_self, reduceIte, Nat.reduceEqDiff, if_true, if_false, not_true_eq_false, not_false_eq_true, Option.bind_some, i10, i01, true_and, false_and, and_false, ne_eq, Int.reduceEq, Int.reduceNeg, l_bad, h, h6, l_fail]
theorem l_pass (hf : n + 20 < f) (hE : rEv G q B n lm o) (hA : rAt q B n lm i L) (h6 : L 6 = -1) (hK : kK (tstr B n lm) i ≠ 0) (hK5 : kK (tstr B n lm) i ≠ 5) : ∃ L', g213 f (xlx G L) = some (xlx G L') ∧ rAt q B n lm (i + 1) L' := by
  have htk := hA.tk hE.1.2.1
  have hS := tS_le hE.1.2.1 i
  have hen := ten_le hE.1.2.1 hS.1
  obtain ⟨h7, hT, hi, h8, h8', h8l⟩ := hA
  have h5 : L 5 = (q : Int) + ten B n (tS B n i) := htk.2.2.2.2.2.2.2.2.2.2.2.1 hK5
  have hlt : tS B n i < ten B n (tS B n i) := htk.2.2.2.2.2.2.2.2.2.2.2.2.1 hK
  have hlen := hE.1.len
  obtain ⟨L', e, r1, r2, r3⟩ := rl_lex (f := f) (L := L) hE.1 hf hen.2.1 h5 (by omega)
  have hsk := tsk_le hE.1.2.1 _ (ten B n (tS B n i)) false rfl hen.2.1
  refine ⟨L', ?_, by rw [r2]; exact h7, ?_, ?_, by omega, by omega, ?_⟩
  · unfold g213 g213_31
    simp only [xlx_2, xlx_3, xlx_4, xlx_5, xlx_6, xlx_7, xlx_8, xlx_9, xlx_10, xlx_u2, xlx_u3, xlx_u4, xlx_u5, xlx_u6, xlx_u7, xlx_u8, xlx_u9, xlx_u10, xu_e, eq_self, reduceIte, Nat.reduceEqDiff, if_true, if_false, not_true_eq_false, not_false_eq_true, Option.bind_some, i10, i01, true_and, false_and, and_false, ne_eq, Int.reduceEq, Int.reduceNeg, l_bad, h7, h6, e]
  · have hc : (0 ≤ B (tS B n (i + 1)) ∧ G 0 11 ≠ 0 ∧ 60 < L' 8) ↔ (0 ≤ B (tS B n (i + 1)) ∧ lm = true ∧ 62 ≤ i + 1) := by
      rw [hE.2.1, r3]
      by_cases c : lm = true
      · have := h8l c
        rw [if_pos c]
        constructor
        · rintro ⟨a, b, d⟩; exact ⟨a, c, by omega⟩
        · rintro ⟨a, b, d⟩; exact ⟨a, by decide, by omega⟩
      · rw [if_neg c]
        simp [c]
    have r1' : rTk q B n (tS B n (i + 1)) (0 ≤ B (tS B n (i + 1)) ∧ G 0 11 ≠ 0 ∧ 60 < L' 8) L' := r1
    unfold rTk at r1' ⊢
    simp only [hc] at r1'
    exact r1'
  · show i + 1 ≤ tsk B n false (ten B n (tS B n i))
    omega
  · intro c
    have := h8l c
    omega
theorem l_need_bad (h : L 7 ≠ -1) (c : Int) : g222 f c (xlx G L) = some (xlx G L) := by
  unfold g222 g222_23
  simp only [xlx_2, xlx_3, xlx_4, xlx_5, xlx_6, xlx_7, xlx_8, xlx_9, xlx_10, xlx_u2, xlx_u3, xlx_u4, xlx_u5, xlx_u6, xlx_u7, xlx_u8, xlx_u9, xlx_u10, xu_e, eq_self, reduceIte, Nat.reduceEqDiff, if_true, if_false, not_true_eq_false, not_false_eq_true, Option.bind_some, i10, i01, true_and, false_and, and_false, ne_eq, Int.reduceEq, Int.reduceNeg, l_sign, h, l_fail, false_and]
theorem l_need_no {c : Int} (hE : rEv G q B n lm o) (hA : rAt q B n lm i L) (hc : isSg c) (hK : kK (tstr B n lm) i ≠ c) : g222 f (rsc c) (xlx G L) = some (xlx G (xu L 7 ((q : Int) + kS (tstr B n lm) i))) := by
  have htk := hA.tk hE.1.2.1
  have h1 := htk.2.1 c hc
  unfold g222 g222_23
  simp only [xlx_2, xlx_3, xlx_4, xlx_5, xlx_6, xlx_7, xlx_8, xlx_9, xlx_10, xlx_u2, xlx_u3, xlx_u4, xlx_u5, xlx_u6, xlx_u7, xlx_u8, xlx_u9, xlx_u10, xu_e, eq_self, reduceIte, Nat.reduceEqDiff, if_true, if_false, not_true_eq_false, not_false_eq_true, Option.bind_some, i10, i01, true_and, false_and, and_false, ne_eq, Int.reduceEq, Int.reduceNeg, l_sign, l_fail, hA.1, htk.1]
  rw [if_pos (fun q => hK (h1.mp q))]
theorem l_need (hf : n + 20 < f) {c : Int} (hE : rEv G q B n lm o) (hA : rAt q B n lm i L) (hc : isSg c) (hK : kK (tstr B n lm) i = c) : ∃ L', g222 f (rsc c) (xlx G L) = some (xlx G L') ∧ rAt q B n lm (i + 1) L' := by
  have htk := hA.tk hE.1.2.1
  have h1 := (htk.2.1 c hc).mpr hK
  have h6 : L 6 = -1 := by rw [htk.2.2.2.2.2.2.2.2.2.2.1, h1.1]; rfl
  have hc2 := hc
  unfold isSg at hc2
  obtain ⟨L', e, a⟩ := l_pass hf hE hA h6 (by omega) (by omega)
  refine ⟨L', ?_, a⟩
  unfold g222 g222_23
  simp only [xlx_2, xlx_3, xlx_4, xlx_5, xlx_6, xlx_7, xlx_8, xlx_9, xlx_10, xlx_u2, xlx_u3, xlx_u4, xlx_u5, xlx_u6, xlx_u7, xlx_u8, xlx_u9, xlx_u10, xu_e, eq_self, reduceIte, Nat.reduceEqDiff, if_true, if_false, not_true_eq_false, not_false_eq_true, Option.bind_some, i10, i01, true_and, false_and, and_false, ne_eq, Int.reduceEq, Int.reduceNeg, l_sign, hA.1, h1.1, h1.2, and_self, e]
/-- a field that the lexer hasn't -/
theorem xlx_upo (G : xG_) (L : Nat → Int) {p k : Nat} (v : Int) (h : ¬ (p = 0 ∧ 2 ≤ k ∧ k ≤ 10)) : xup2 (xlx G L) p k v = xlx (xup2 G p k v) L := by
  funext a j
  unfold xup2 xlx
  grind
theorem rEv.u {k : Nat} {v : Int} (h : rEv G q B n lm o) (hk : 21 = k ∨ 23 = k ∨ 24 = k ∨ 25 = k) : rEv (xup2 G 0 k v) q B n lm o := by
  obtain ⟨⟨a1, a2, a3, a4, a5⟩, b, c, d, e⟩ := h
  have g0 : ∀ j, j ≤ 20 ∨ j = 22 → xup2 G 0 k v 0 j = G 0 j := fun j hj => xup2_n (by omega)
  have gb : ∀ j, xup2 G 0 k v (G 0 0).toNat j = G (G 0 0).toNat j := fun j => xup2_n (by have := a1.1; omega)
  refine ⟨⟨?_, a2, ?_, ?_, ?_⟩, ?_, ?_, ?_, e⟩
  · unfold gT
    rw [g0 0 (by omega), g0 1 (by omega)]
    exact a1
  · rw [g0 1 (by omega)]; exact a3
  · intro p
    rw [← a4 p]
    unfold gB
    rw [g0 0 (by omega), g0 1 (by omega), gb]
  · intro p hp
    rw [g0 0 (by omega), gb]
    exact a5 p hp
  · rw [g0 11 (by omega)]; exact b
  · unfold rC
    rw [g0 12 (by omega), g0 13 (by omega), g0 14 (by omega), g0 15 (by omega), g0 16 (by omega), g0 17 (by omega), g0 18 (by omega), g0 19 (by omega), g0 20 (by omega)]
    exact c
  · rw [g0 22 (by omega)]; exact d
/-- a value: what was passed stands in field 21 -/
theorem l_value_bad (hC : rC G) (h : L 7 ≠ -1) : g227 f (xlx G L) = some (0, xlx G L) := by
  unfold g227 g227_132
  simp only [xlx_2, xlx_3, xlx_4, xlx_5, xlx_6, xlx_7, xlx_8, xlx_9, xlx_10, xlx_u2, xlx_u3, xlx_u4, xlx_u5, xlx_u6, xlx_u7, xlx_u8, xlx_u9, xlx_u10, xu_e, eq_self, reduceIte, Nat.reduceEqDiff, if_true, if_false, not_true_eq_false, not_false_eq_true, Option.bind_some, i10, i01, true_and, false_and, and_false, ne_eq, Int.reduceEq, Int.reduceNeg, l_kind, l_sign, l_name hC, l_fail, h, false_and]
theorem l_value (hf : n + 20 < f) (hE : rEv G q B n lm o) (hA : rAt q B n lm i L) :
    pok (pVal (tstr B n lm) i) (fun w => ∃ L', g227 f (xlx G L) = some (0, xlx G L') ∧ L' 7 = (q : Int) + w)
      (fun r => ∃ L', g227 f (xlx G L) = some (1, xlx (xup2 G 0 21 r.1) L') ∧ rAt q B n lm r.2 L' ∧ -1000000000000 ≤ r.1 ∧ r.1 ≤ 9000000000000000) := by
  have htk := hA.tk hE.1.2.1
  obtain ⟨t4, tsg, tn, tv, tu, tnum, tend, tn9, tv9, tnum9, t6, t5, tlt, t3⟩ := htk
  have h7 := hA.1
  unfold pVal
  by_cases c1 : kK (tstr B n lm) i = 4 ∧ kC (tstr B n lm) i ≤ 1000000000000
  · rw [if_pos c1]
    have k2 := tnum.mpr c1
    have k9 := tnum9 k2
    have h6 : L 6 = -1 := by rw [t6, k2]; rfl
    obtain ⟨L', e, a⟩ := l_pass (G := xup2 G 0 21 (kC (tstr B n lm) i)) hf (hE.u (by omega)) hA h6 (by omega) (by omega)
    refine ⟨L', ?_, a, ?_, by omega⟩
    · unfold g227 g227_32
      simp only [xlx_2, xlx_3, xlx_4, xlx_5, xlx_6, xlx_7, xlx_8, xlx_9, xlx_10, xlx_u2, xlx_u3, xlx_u4, xlx_u5, xlx_u6, xlx_u7, xlx_u8, xlx_u9, xlx_u10, xu_e, eq_self, reduceIte, Nat.reduceEqDiff, if_true, if_false, not_true_eq_false, not_false_eq_true, Option.bind_some, i10, i01, true_and, false_and, and_false, ne_eq, Int.reduceEq, Int.reduceNeg, l_kind, h7, k2, and_self, k9]
      rw [xlx_upo G L _ (by decide), e]
      simp only [xlx_2, xlx_3, xlx_4, xlx_5, xlx_6, xlx_7, xlx_8, xlx_9, xlx_10, xlx_u2, xlx_u3, xlx_u4, xlx_u5, xlx_u6, xlx_u7, xlx_u8, xlx_u9, xlx_u10, xu_e, eq_self, reduceIte, Nat.reduceEqDiff, if_true, if_false, not_true_eq_false, not_false_eq_true, Option.bind_some, i10, i01, true_and, false_and, and_false, ne_eq, Int.reduceEq, Int.reduceNeg, l_bad, a.1]
      simp
    · have := tok_num hE.1.2.1 (i := i) (lm := lm) c1.1; omega
  · rw [if_neg c1]
    have k5 : ¬ L 2 = 5 := fun q => c1 (tnum.mp q)
    have e0 : g227 f (xlx G L) = if kK (tstr B n lm) i = 45 then ((g209 f (L 5) (xlx G L)).bind fun R143 => ((g208 f (R143.1) R143.2).bind fun R148 => (if ¬ (R148.1) = 0 then ((g213 f R148.2).bind fun R154 => ((g221 f (5) R154).bind fun R159 => (if ¬ (R159.1) = 0 then ((some (xup2 R159.2 (0) 21 (xneg8 (R159.2 (0) 9)))).bind fun G168 => ((g213 f G168).bind fun R169 => ((g211 f R169).bind fun R174 => (if ¬ (R174.1) = 0 then g227_113 f (0) R174.2 else g227_113 f (1) R174.2)))) else ((g210 f (R159.2 (0) 4) R159.2).bind fun R180 => (some (0, R180)))))) else ((g210 f (R148.2 (0) 4) R148.2).bind fun R185 => (some (0, R185))))))
        else (if kK (tstr B n lm) i = 1 then (if ¬ L 10 = (-1) then ((some (xup2 (xlx G L) (0) 21 (L 10))).bind fun G131 => ((g213 f G131).bind fun R132 => ((g211 f R132).bind fun R137 => (if ¬ (R137.1) = 0 then g227_166 f (0) R137.2 else g227_166 f (1) R137.2)))) else g227_132 f (xlx G L)) else g227_132 f (xlx G L)) := by
      unfold g227
      have s45 := tsg 45 (by unfold isSg; omega)
      have hr45 : rsc 45 = 45 := rfl
      rw [hr45] at s45
      have k1 : (L 2 = 2 ∧ tres (L 9) = 1) ↔ kK (tstr B n lm) i = 1 := by
        constructor
        · rintro ⟨a, b⟩
          have := tn9 a
          rw [← this.2.2, ← this.1]; exact b
        · intro c3
          have k2 := tn.mpr (.inl c3)
          have k9 := tn9 k2
          exact ⟨k2, by rw [k9.1, k9.2.2]; exact c3⟩
      simp only [xlx_2, xlx_3, xlx_4, xlx_5, xlx_6, xlx_7, xlx_8, xlx_9, xlx_10, xlx_u2, xlx_u3, xlx_u4, xlx_u5, xlx_u6, xlx_u7, xlx_u8, xlx_u9, xlx_u10, xu_e, eq_self, reduceIte, Nat.reduceEqDiff, if_true, if_false, not_true_eq_false, not_false_eq_true, Option.bind_some, i10, i01, true_and, false_and, and_false, ne_eq, Int.reduceEq, Int.reduceNeg, l_kind, l_sign, l_name hE.2.2.1, h7, k5, s45, k1]
      by_cases c2 : kK (tstr B n lm) i = 45
      · rw [if_neg (by simp [c2]), if_pos c2]
      · rw [if_pos c2, if_neg c2]
        by_cases c3 : kK (tstr B n lm) i = 1
        · simp [c3]
        · simp [c3]
    by_cases c2 : kK (tstr B n lm) i = 45
    · have k2 := (tsg 45 (by unfold isSg; omega)).mpr c2
      have h6 : L 6 = -1 := by rw [t6, k2.1]; rfl
      have h5 := t5 (by omega)
      have ed : kE (tstr B n lm) i = ten B n (tS B n i) := rfl
      have hb := hE.1.2.1.le (ten B n (tS B n i))
      rw [if_pos c2, h5, ed, hE.1.see rfl] at e0
      simp only [Option.bind_some, gdigit] at e0
      have kd : kD (tstr B n lm) i = decide (tDi (B (ten B n (tS B n i)))) := rfl
      by_cases c3 : tDi (B (ten B n (tS B n i)))
      · rw [if_pos ⟨c2, by rw [kd]; exact decide_eq_true c3⟩]
        obtain ⟨L1, e1, a1⟩ := l_pass hf hE hA h6 (by omega) (by omega)
        have htk1 := a1.tk hE.1.2.1
        rw [if_pos c3, if_pos (by decide), e1] at e0
        simp only [Option.bind_some, l_kind, a1.1, true_and] at e0
        by_cases c4 : kK (tstr B n lm) (i + 1) = 4 ∧ kC (tstr B n lm) (i + 1) ≤ 1000000000000
        · rw [if_pos c4]
          have k3 := htk1.2.2.2.2.2.1.mpr c4
          have k9 := htk1.2.2.2.2.2.2.2.2.2.1 k3
          have h61 : L1 6 = -1 := by rw [htk1.2.2.2.2.2.2.2.2.2.2.1, k3]; rfl
          have hc0 : 0 ≤ kC (tstr B n lm) (i + 1) := (tok_num hE.1.2.1 c4.1)
          have en : xneg8 (L1 9) = -(kC (tstr B n lm) (i + 1)) := by rw [k9, xneg8_g _ (by omega) (by omega)]
          obtain ⟨L', e, a⟩ := l_pass (G := xup2 G 0 21 (-(kC (tstr B n lm) (i + 1)))) hf (hE.u (by omega)) a1 h61 (by omega) (by omega)
          refine ⟨L', ?_, a, by omega, by omega⟩
          rw [e0, if_pos k3, if_pos (by decide), xlx_9, en, xlx_upo G L1 _ (by decide), e]
          simp only [Option.bind_some, l_bad, a.1]
          unfold g227_113
          simp
        · rw [if_neg c4]
          refine ⟨xu L1 7 ((q : Int) + kS (tstr B n lm) (i + 1)), ?_, rfl⟩
          rw [e0, if_neg (fun q => c4 (htk1.2.2.2.2.2.1.mp q)), if_neg (by decide), xlx_4, htk1.1, l_fail]
          simp only [Option.bind_some, a1.1, if_true]
      · rw [if_neg (fun q => c3 (by have := q.2; rw [kd] at this; exact of_decide_eq_true this)), if_neg (by omega)]
        refine ⟨xu L 7 ((q : Int) + kS (tstr B n lm) i), ?_, rfl⟩
        rw [e0, if_neg c3, if_neg (by decide), xlx_4, t4, l_fail]
        simp only [Option.bind_some, h7, if_true]
    · rw [if_neg (fun q => c2 q.1)]
      rw [if_neg c2] at e0
      by_cases c3 : kK (tstr B n lm) i = 1
      · rw [if_pos c3] at e0
        have k2 := tn.mpr (.inl c3)
        have k9 := tn9 k2
        by_cases c4 : kW (tstr B n lm) i = -1
        · rw [if_neg (fun q => q.2 c4)]
          refine ⟨xu L 7 ((q : Int) + kS (tstr B n lm) i), ?_, rfl⟩
          rw [e0, if_neg (by rw [k9.2.1]; omega)]
          unfold g227_132
          rw [xlx_4, t4, l_fail]
          simp only [Option.bind_some, h7, if_true]
        · rw [if_pos ⟨c3, c4⟩]
          have hw : kE (tstr B n lm) i - kS (tstr B n lm) i ≤ 8 ∧ 2000000000000 ≤ kW (tstr B n lm) i ∧ kW (tstr B n lm) i ≤ 9000000000000000 := tok_word hE.1.2.1 c3 c4
          have h6 : L 6 = -1 := by rw [t6, k2, if_neg (by omega), if_neg (by omega)]
          obtain ⟨L', e, a⟩ := l_pass (G := xup2 G 0 21 (kW (tstr B n lm) i)) hf (hE.u (by omega)) hA h6 (by omega) (by omega)
          refine ⟨L', ?_, a, by omega, by omega⟩
          rw [e0, if_pos (by rw [k9.2.1]; exact c4), k9.2.1, xlx_upo G L _ (by decide)]
          simp only [Option.bind_some, e, l_bad, a.1]
          unfold g227_166
          simp
      · rw [if_neg (fun q => c3 q.1)]
        rw [if_neg c3] at e0
        refine ⟨xu L 7 ((q : Int) + kS (tstr B n lm) i), ?_, rfl⟩
        rw [e0]
        unfold g227_132
        rw [xlx_4, t4, l_fail]
        simp only [Option.bind_some, h7, if_true]
end
end
section
/-! EXPRESSIONS of themselves: what they read and make is bounded -/
theorem pok_i {α : Type} {x : Nat ⊕ α} {P : Nat → Prop} {Q : α → Prop} (h1 : ∀ w, x = .inl w → P w) (h2 : ∀ a, x = .inr a → Q a) : pok x P Q := by
  cases x with
  | inl w => exact h1 w rfl
  | inr a => exact h2 a rfl
theorem pbind_inr {α β : Type} {x : Nat ⊕ α} {k : α → Nat ⊕ β} {b : β} (h : pbind x k = .inr b) : ∃ a, x = .inr a ∧ k a = .inr b := by
  cases x with
  | inl w => cases h
  | inr a => exact ⟨a, rfl, h⟩
theorem pVal_le {t : tStr} {i : Nat} {r : Int × Nat} (h : pVal t i = .inr r) : i < r.2 ∧ r.2 ≤ i + 2 := by
  unfold pVal at h
  repeat' split at h
  all_goals first
    | (cases h; done)
    | (cases h; simp only; omega)
theorem pVar_le {t : tStr} {V : List (Int × Nat)} {i : Nat} {r : Int × List (Int × Nat) × Nat} (h : pVar t V i = .inr r) : r.2.2 = i + 1 ∧ V.length ≤ r.2.1.length ∧ (V.length ≤ 8 → r.2.1.length ≤ 8) := by
  unfold pVar at h
  split at h
  · cases h
  split at h
  · cases h
  split at h
  · split at h
    · cases h
    · cases h
      refine ⟨rfl, ?_, fun q => ?_⟩
      · show _ ≤ (V ++ [_]).length
        rw [List.length_append]; omega
      · show (V ++ [_]).length ≤ 8
        rw [List.length_append]
        show V.length + 1 ≤ 8
        omega
  · cases h
    exact ⟨rfl, Nat.le_refl _, id⟩
theorem pNeed_le {t : tStr} {c : Int} {i j : Nat} (h : pNeed t c i = .inr j) : j = i + 1 ∧ kK t i = c := by
  unfold pNeed at h
  split at h
  · cases h; exact ⟨rfl, by assumption⟩
  · cases h
section
variable (t : tStr) (F b : Nat) (e : pEx)
theorem pX_0 : pX t (F + 1) 0 b e = if kK t e.2.2 = 2 then pbind (pVar t e.1 e.2.2) fun r => .inr (r.2.1, e.2.1 ++ [(2, r.1)], r.2.2)
    else if kK t e.2.2 = 40 then (if b = 4 then .inl (kS t e.2.2) else pbind (pX t F 1 (b + 1) (e.1, e.2.1, e.2.2 + 1)) fun e' => pbind (pNeed t 41 e'.2.2) fun i => .inr (e'.1, e'.2.1, i))
    else pbind (pVal t e.2.2) fun r => .inr (e.1, e.2.1 ++ [(1, r.1)], r.2) := rfl
theorem pX_1 : pX t (F + 1) 1 b e = pbind (pX t F 0 b e) fun e' => pX t F 2 b e' := rfl
theorem pX_2 : pX t (F + 1) 2 b e = pbind (pX t F 3 b e) fun e' => pX t F 4 b e' := rfl
theorem pX_3 : pX t (F + 1) 3 b e = if kK t e.2.2 = 42 ∨ kK t e.2.2 = 47 ∨ kK t e.2.2 = 37 then pbind (pX t F 0 b (e.1, e.2.1, e.2.2 + 1)) fun e' => pX t F 3 b (e'.1, e'.2.1 ++ [(3, kK t e.2.2)], e'.2.2)
    else .inr e := rfl
theorem pX_4 : pX t (F + 1) 4 b e = if kK t e.2.2 = 43 ∨ kK t e.2.2 = 45 then pbind (pX t F 0 b (e.1, e.2.1, e.2.2 + 1)) fun e1 => pbind (pX t F 3 b e1) fun e' => pX t F 4 b (e'.1, e'.2.1 ++ [(3, kK t e.2.2)], e'.2.2)
    else .inr e := rfl
end
theorem len1 {α : Type} (l : List α) (a : α) : (l ++ [a]).length = l.length + 1 := by rw [List.length_append]; rfl
theorem pX_le {t : tStr} : ∀ (F m b : Nat) (e x : pEx), m ≤ 4 → pX t F m b e = .inr x → e.2.2 ≤ x.2.2 ∧ (m ≤ 1 → e.2.2 < x.2.2) ∧ e.2.1.length ≤ x.2.1.length ∧ x.2.1.length + e.2.2 ≤ e.2.1.length + x.2.2 ∧ e.1.length ≤ x.1.length ∧ (e.1.length ≤ 8 → x.1.length ≤ 8) := by
  intro F
  induction F with
  | zero => intro m b e x _ h; cases h
  | succ F ih =>
    intro m b e x hm h
    match m, hm, h with
    | 0, _, h =>
      rw [pX_0] at h
      split at h
      · obtain ⟨r, h1, h2⟩ := pbind_inr h
        have := pVar_le h1
        cases h2
        simp only [len1]
        omega
      · split at h
        · split at h
          · cases h
          · obtain ⟨r, h1, h2⟩ := pbind_inr h
            obtain ⟨j, h3, h4⟩ := pbind_inr h2
            have h5 := ih _ _ _ _ (by omega) h1
            have h6 := pNeed_le h3
            cases h4
            simp only at h5 ⊢
            omega
        · obtain ⟨r, h1, h2⟩ := pbind_inr h
          have := pVal_le h1
          cases h2
          simp only [len1]
          omega
    | 1, _, h =>
      rw [pX_1] at h
      obtain ⟨r, h1, h2⟩ := pbind_inr h
      have h3 := ih _ _ _ _ (by omega) h1
      have h4 := ih _ _ _ _ (by omega) h2
      omega
    | 2, _, h =>
      rw [pX_2] at h
      obtain ⟨r, h1, h2⟩ := pbind_inr h
      have h3 := ih _ _ _ _ (by omega) h1
      have h4 := ih _ _ _ _ (by omega) h2
      omega
    | 3, _, h =>
      rw [pX_3] at h
      split at h
      · obtain ⟨r, h1, h2⟩ := pbind_inr h
        have h3 := ih _ _ _ _ (by omega) h1
        have h4 := ih _ _ _ _ (by omega) h2
        simp only [len1] at h3 h4
        omega
      · cases h; omega
    | 4, _, h =>
      rw [pX_4] at h
      split at h
      · obtain ⟨r, h1, h2⟩ := pbind_inr h
        obtain ⟨s, h5, h6⟩ := pbind_inr h2
        have h3 := ih _ _ _ _ (by omega) h1
        have h4 := ih _ _ _ _ (by omega) h5
        have h7 := ih _ _ _ _ (by omega) h6
        simp only [len1] at h3 h4 h7
        omega
      · cases h; omega
end
