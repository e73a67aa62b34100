/-! Small rules for what follows -/
theorem xup2_e (G : xG_) (o i : Nat) (v : Int) (p j : Nat) : xup2 G o i v p j = if p = o ∧ j = i then v else G p j := rfl
theorem xwr_g (a : Int) (h1 : -2147483648 ≤ a) (h2 : a < 2147483648) : xwr a = a := by
  unfold xwr
  exact Int32.toInt_ofInt_of_le h1 h2
theorem xwl_g (a : Int) (h1 : -9223372036854775808 ≤ a) (h2 : a < 9223372036854775808) : xwl a = a := by
  unfold xwl
  exact Int64.toInt_ofInt_of_le h1 h2
theorem xup2_s (G : xG_) (o i : Nat) (v : Int) : xup2 G o i v o i = v := by unfold xup2; rw [if_pos ⟨rfl, rfl⟩]
theorem xup2_n {G : xG_} {o i p j : Nat} {v : Int} (h : ¬ (p = o ∧ j = i)) : xup2 G o i v p j = G p j := by unfold xup2; rw [if_neg h]
theorem xup2_w (G : xG_) (o i : Nat) (a b : Int) : xup2 (xup2 G o i a) o i b = xup2 G o i b := by
  funext p j
  unfold xup2
  by_cases h : p = o ∧ j = i
  · rw [if_pos h, if_pos h]
  · rw [if_neg h, if_neg h, if_neg h]
theorem xup2_c {G : xG_} {o i p j : Nat} {a b : Int} (h : ¬ (p = o ∧ j = i)) : xup2 (xup2 G o i a) p j b = xup2 (xup2 G p j b) o i a := by
  funext q k
  unfold xup2
  by_cases h1 : q = p ∧ k = j
  · rw [if_pos h1]
    by_cases h2 : q = o ∧ k = i
    · exact absurd ⟨h1.1 ▸ h2.1, h1.2 ▸ h2.2⟩ h
    · rw [if_neg h2, if_pos h1]
  · rw [if_neg h1]
    by_cases h2 : q = o ∧ k = i
    · rw [if_pos h2, if_pos h2]
    · rw [if_neg h2, if_neg h2, if_neg h1]
theorem xup2_id {G : xG_} {o i : Nat} {v : Int} (h : G o i = v) : xup2 G o i v = G := by
  funext p j
  unfold xup2
  by_cases e : p = o ∧ j = i
  · rw [if_pos e, e.1, e.2, h]
  · rw [if_neg e]
/-- only fields of the reference itself have changed -/
def xfr (S : List Nat) (G G' : xG_) : Prop := ∀ o i, ¬ (o = 0 ∧ i ∈ S) → G' o i = G o i
theorem xfr_refl (S : List Nat) (G : xG_) : xfr S G G := fun _ _ _ => rfl
theorem xfr_trans {S : List Nat} {G G1 G2 : xG_} (h : xfr S G G1) (h1 : xfr S G1 G2) : xfr S G G2 := fun o i q => (h1 o i q).trans (h o i q)
theorem xfr_up {S : List Nat} {G : xG_} {k : Nat} {v : Int} (h : k ∈ S) : xfr S G (xup2 G 0 k v) := fun o i q => xup2_n (fun e => q ⟨e.1, e.2 ▸ h⟩)
theorem xfr_mono {S S' : List Nat} {G G' : xG_} (h : xfr S G G') (hs : ∀ x, x ∈ S → x ∈ S') : xfr S' G G' := fun o i q => h o i (fun e => q ⟨e.1, hs _ e.2⟩)
/-- the byte at a place of the text; -1 at its end -/
def gB (G : xG_) (p : Int) : Int := if G 0 1 ≤ p then -1 else xand (G (G 0 0).toNat p.toNat) 255
def gT (G : xG_) : Prop := (G 0 0 = 239 ∨ G 0 0 = 240) ∧ 0 ≤ G 0 1 ∧ G 0 1 ≤ ((xl_t (G 0 0).toNat).2.2 : Int)
theorem gT_len {G : xG_} (h : gT G) : G 0 1 ≤ 90000 := by
  have h1 := h.2.2
  rcases h.1 with e | e
  · rw [e] at h1; exact h1
  · rw [e] at h1
    have h2 : ((xl_t (240 : Int).toNat).2.2 : Int) = 3000 := by decide +kernel
    omega
theorem gsee {G : xG_} {f : Nat} {p : Int} (h : gT G) (hp : 0 ≤ p) : g209 f p G = some (gB G p, G) := by
  unfold g209 g209_22 gB
  by_cases c : G 0 1 ≤ p
  · rw [if_pos c, if_pos c]
  · rw [if_neg c, if_neg c, if_neg (by have := h.1; omega), if_pos ⟨hp, by have := h.2.2; omega⟩]
theorem gB_up {G : xG_} {k : Nat} {v p : Int} (h : gT G) (h0 : k ≠ 0) (h1 : k ≠ 1) : gB (xup2 G 0 k v) p = gB G p := by
  unfold gB
  have e0 : xup2 G 0 k v 0 0 = G 0 0 := xup2_n (by omega)
  have e1 : xup2 G 0 k v 0 1 = G 0 1 := xup2_n (by omega)
  rw [e0, e1, xup2_n (by have := h.1; omega)]
theorem gT_up {G : xG_} {k : Nat} {v : Int} (h : gT G) (h0 : k ≠ 0) (h1 : k ≠ 1) : gT (xup2 G 0 k v) := by
  unfold gT
  rw [xup2_n (by omega), xup2_n (by omega)]
  exact h
theorem gB_fr {S : List Nat} {G G' : xG_} {p : Int} (h : gT G) (hf : xfr S G G') (h0 : 0 ∉ S) (h1 : 1 ∉ S) : gB G' p = gB G p := by
  unfold gB
  rw [hf 0 0 (fun e => h0 e.2), hf 0 1 (fun e => h1 e.2), hf _ _ (fun e => by have := h.1; omega)]
theorem gT_fr {S : List Nat} {G G' : xG_} (h : gT G) (hf : xfr S G G') (h0 : 0 ∉ S) (h1 : 1 ∉ S) : gT G' := by
  unfold gT
  rw [hf 0 0 (fun e => h0 e.2), hf 0 1 (fun e => h1 e.2)]
  exact h
theorem xand_255 (x : Int) : 0 ≤ xand x 255 ∧ xand x 255 ≤ 255 := by
  unfold xand
  have h : (Int32.ofInt x &&& Int32.ofInt 255).toInt = ((Int32.ofInt x).toBitVec &&& 255#32).toInt := rfl
  rw [h]
  have h1 : ((Int32.ofInt x).toBitVec &&& 255#32).toNat ≤ 255 := by
    rw [BitVec.toNat_and]
    exact Nat.and_le_right
  have h2 : ((Int32.ofInt x).toBitVec &&& 255#32).toInt = (((Int32.ofInt x).toBitVec &&& 255#32).toNat : Int) := by
    rw [BitVec.toInt_eq_toNat_of_lt (by omega)]
  rw [h2]
  omega
theorem gB_in (G : xG_) (p : Int) : -1 ≤ gB G p ∧ gB G p ≤ 255 := by
  unfold gB
  split
  · omega
  · have := xand_255 (G (G 0 0).toNat p.toNat); omega
theorem gB_end {G : xG_} {p : Int} : gB G p = -1 ↔ G 0 1 ≤ p := by
  unfold gB
  have := xand_255 (G (G 0 0).toNat p.toNat)
  grind
theorem gsmall {f : Nat} {c : Int} {G : xG_} : g206 f c G = some (if 97 ≤ c ∧ c ≤ 122 then 1 else 0, G) := by
  unfold g206 g206_16 g206_17
  grind
theorem ggreat {f : Nat} {c : Int} {G : xG_} : g207 f c G = some (if 65 ≤ c ∧ c ≤ 90 then 1 else 0, G) := by
  unfold g207 g207_16 g207_17
  grind
theorem gdigit {f : Nat} {c : Int} {G : xG_} : g208 f c G = some (if 48 ≤ c ∧ c ≤ 57 then 1 else 0, G) := by
  unfold g208 g208_16 g208_17
  grind
/-- a sign's digit -/
def xdig (c : Int) : Int := if 97 ≤ c ∧ c ≤ 122 then c - 96 else if 48 ≤ c ∧ c ≤ 57 then c - 21 else if c = 95 then 37 else c - 27
theorem gdig {f : Nat} {c : Int} {G : xG_} (hc : -1 ≤ c ∧ c ≤ 255) : g215 f c G = some (xdig c, G) := by
  unfold g215 g215_51 xdig
  rw [gsmall]
  simp only [Option.bind_some]
  rw [gdigit]
  simp only [Option.bind_some]
  rw [xwr_g (38 + c) (by omega) (by omega), xwr_g (27 + c) (by omega) (by omega), xwr_g (1 + c) (by omega) (by omega), xwr_g (38 + c - 65) (by omega) (by omega), xwr_g (27 + c - 48) (by omega) (by omega), xwr_g (1 + c - 97) (by omega) (by omega)]
  grind
/-! A function that answers, and of what -/
def xok {α : Type} (o : Option α) (P : α → Prop) : Prop := ∃ r, o = some r ∧ P r
theorem xok_bind {α β : Type} {o : Option α} {k : α → Option β} {P : β → Prop} : xok (o.bind k) P ↔ xok o (fun v => xok (k v) P) := by
  constructor
  · rintro ⟨r, h, hp⟩
    cases o with
    | none => cases h
    | some v => exact ⟨v, rfl, r, h, hp⟩
  · rintro ⟨v, h1, r, h2, hp⟩
    refine ⟨r, ?_, hp⟩
    rw [h1]
    exact h2
theorem xok_some {α : Type} {r : α} {P : α → Prop} : xok (some r) P ↔ P r := by
  constructor
  · rintro ⟨s, h, hp⟩
    cases h
    exact hp
  · intro h
    exact ⟨r, rfl, h⟩
theorem xok_eq {α : Type} {o : Option α} {r : α} {P : α → Prop} (h : o = some r) (hp : P r) : xok o P := ⟨r, h, hp⟩
theorem xok_eqb {α β : Type} {o : Option α} {r : α} {k : α → Option β} {P : β → Prop} (h : o = some r) (hp : xok (k r) P) : xok (o.bind k) P := by
  rw [h]
  exact hp
theorem xok_ite {α : Type} {c : Prop} [Decidable c] {a b : Option α} {P : α → Prop} (h1 : c → xok a P) (h2 : ¬ c → xok b P) : xok (if c then a else b) P := by
  by_cases h : c
  · rw [if_pos h]; exact h1 h
  · rw [if_neg h]; exact h2 h
theorem xok_it {α : Type} {c : Prop} [Decidable c] {a b : Option α} {P : α → Prop} (h : c) (h1 : xok a P) : xok (if c then a else b) P := by rw [if_pos h]; exact h1
theorem xok_if {α : Type} {c : Prop} [Decidable c] {a b : Option α} {P : α → Prop} (h : ¬ c) (h1 : xok b P) : xok (if c then a else b) P := by rw [if_neg h]; exact h1
theorem xok_mono {α : Type} {o : Option α} {P Q : α → Prop} (h : xok o P) (hq : ∀ r, P r → Q r) : xok o Q := by
  obtain ⟨r, h1, h2⟩ := h
  exact ⟨r, h1, hq r h2⟩
theorem xok_call {α β : Type} {o : Option α} {k : α → Option β} {P : α → Prop} {Q : β → Prop} (h : xok o P) (hk : ∀ r, P r → xok (k r) Q) : xok (o.bind k) Q := by
  obtain ⟨r, h1, h2⟩ := h
  rw [h1]
  exact hk r h2
theorem i10 (c : Prop) [Decidable c] : ((if c then (1 : Int) else 0) = 0) = ¬ c := by
  by_cases h : c
  · rw [if_pos h]; simp [h]
  · rw [if_neg h]; simp [h]
theorem i01 (c : Prop) [Decidable c] : ((if c then (0 : Int) else 1) = 0) = c := by
  by_cases h : c
  · rw [if_pos h]; simp [h]
  · rw [if_neg h]; simp [h]
theorem xok_sb {α β : Type} {a : α} {k : α → Option β} {P : β → Prop} (h : xok (k a) P) : xok ((some a).bind k) P := h
theorem xok_is {α : Type} {o : Option α} {a : α} (h : xok o (fun Z => Z = a)) : o = some a := by
  obtain ⟨r, h1, h2⟩ := h
  rw [h1, h2]
