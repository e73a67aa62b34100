/-! AN ABSTRACT MACHINE: values are intervals, memory a sparse tree; what it computes holds of every run of the interpreter that it stands for -/
/-- a value: kind (0 int, 1 long, 2 reference, 3 null), the least, the most (ints and longs are counted from the least one) -/
abbrev xa : Type := Nat × Nat × Nat
def xa_e (x : Int32) : Nat := (x.toInt + 2147483648).toNat
def xa_E (x : Int64) : Nat := (x.toInt + 9223372036854775808).toNat
def xa_d (n : Nat) : Int32 := Int32.ofInt ((n : Int) - 2147483648)
def xa_D (n : Nat) : Int64 := Int64.ofInt ((n : Int) - 9223372036854775808)
def xv (a : xa) (v : Value) : Prop := match v with
  | .int x => a.1 = 0 ∧ a.2.1 ≤ xa_e x ∧ xa_e x ≤ a.2.2
  | .long x => a.1 = 1 ∧ a.2.1 ≤ xa_E x ∧ xa_E x ≤ a.2.2
  | .ref r => a.1 = 2 ∧ a.2.1 = r
  | .null => a.1 = 3
  | _ => False
def xvs : List xa → List Value → Prop
  | [], [] => True
  | a :: as, v :: vs => xv a v ∧ xvs as vs
  | [], _ :: _ => False
  | _ :: _, [] => False
theorem xa_lt (x : Int32) : xa_e x < 4294967296 := by
  have h1 := x.toInt_lt; have h2 := x.le_toInt; unfold xa_e; omega
theorem xa_Lt (x : Int64) : xa_E x < 18446744073709551616 := by
  have h1 := x.toInt_lt; have h2 := x.le_toInt; unfold xa_E; omega
theorem xa_e_int (x : Int32) : (xa_e x : Int) = x.toInt + 2147483648 := by
  have h2 := x.le_toInt; unfold xa_e; omega
theorem xa_E_int (x : Int64) : (xa_E x : Int) = x.toInt + 9223372036854775808 := by
  have h2 := x.le_toInt; unfold xa_E; omega
theorem xa_d_e (x : Int32) : xa_d (xa_e x) = x := by
  unfold xa_d; rw [xa_e_int]; simp
theorem xa_D_E (x : Int64) : xa_D (xa_E x) = x := by
  unfold xa_D; rw [xa_E_int]; simp
theorem xa_eq {x : Int32} {n : Nat} (h1 : n ≤ xa_e x) (h2 : xa_e x ≤ n) : x = xa_d n := by
  rw [← Nat.le_antisymm h2 h1, xa_d_e]
theorem xa_EQ {x : Int64} {n : Nat} (h1 : n ≤ xa_E x) (h2 : xa_E x ≤ n) : x = xa_D n := by
  rw [← Nat.le_antisymm h2 h1, xa_D_E]
theorem xv_i {a : xa} {v : Value} (h : xv a v) (h0 : a.1 = 0) : ∃ x : Int32, v = .int x ∧ a.2.1 ≤ xa_e x ∧ xa_e x ≤ a.2.2 := by
  unfold xv at h; split at h
  · rename_i x; exact ⟨x, rfl, h.2.1, h.2.2⟩
  · rw [h0] at h; exact absurd h.1 (by decide)
  · rw [h0] at h; exact absurd h.1 (by decide)
  · rw [h0] at h; exact absurd h (by decide)
  · exact h.elim
theorem xv_l {a : xa} {v : Value} (h : xv a v) (h0 : a.1 = 1) : ∃ x : Int64, v = .long x ∧ a.2.1 ≤ xa_E x ∧ xa_E x ≤ a.2.2 := by
  unfold xv at h; split at h
  · rw [h0] at h; exact absurd h.1 (by decide)
  · rename_i x; exact ⟨x, rfl, h.2.1, h.2.2⟩
  · rw [h0] at h; exact absurd h.1 (by decide)
  · rw [h0] at h; exact absurd h (by decide)
  · exact h.elim
theorem xv_r {a : xa} {v : Value} (h : xv a v) (h0 : a.1 = 2) : v = .ref a.2.1 := by
  unfold xv at h; split at h
  · rw [h0] at h; exact absurd h.1 (by decide)
  · rw [h0] at h; exact absurd h.1 (by decide)
  · rw [h.2]
  · rw [h0] at h; exact absurd h (by decide)
  · exact h.elim
theorem xv_n {a : xa} {v : Value} (h : xv a v) (h0 : a.1 = 3) : v = .null := by
  unfold xv at h; split at h
  · rw [h0] at h; exact absurd h.1 (by decide)
  · rw [h0] at h; exact absurd h.1 (by decide)
  · rw [h0] at h; exact absurd h.1 (by decide)
  · rfl
  · exact h.elim
theorem xvs_c {a : xa} {as : List xa} {st : List Value} (h : xvs (a :: as) st) : ∃ v vs, st = v :: vs ∧ xv a v ∧ xvs as vs := by
  cases st with
  | nil => exact h.elim
  | cons v vs => exact ⟨v, vs, rfl, h.1, h.2⟩
theorem xvs_n {st : List Value} (h : xvs [] st) : st = [] := by
  cases st with
  | nil => rfl
  | cons v vs => exact h.elim
/-- numbers and values are worked out before they are handed on -/
def xg {α : Type} (n : Nat) (k : Nat → α) : α := Nat.casesOn n (k 0) (fun m => k (Nat.succ m))
theorem xg_eq {α : Type} (n : Nat) (k : Nat → α) : xg n k = k n := by cases n <;> rfl
def xw {α : Type} (v : xa) (k : xa → α) : α := Prod.casesOn v (fun t p => Prod.casesOn p (fun l h => xg t (fun t => xg l (fun l => xg h (fun h => k (t, l, h))))))
theorem xw_eq {α : Type} (v : xa) (k : xa → α) : xw v k = k v := by
  obtain ⟨t, l, h⟩ := v
  simp only [xw, xg_eq]
/-- sparse trees: 2^n places -/
def xs (α : Type) (n : Nat) : Type := Nat.rec (Option α) (fun _ T => Option (T × T)) n
noncomputable def xs_no (α : Type) (n : Nat) : xs α n := Nat.rec (motive := fun n => xs α n) (none : Option α) (fun n _ => (none : Option (xs α n × xs α n))) n
noncomputable def xs_get {α : Type} (n : Nat) : xs α n → Nat → Option α := Nat.rec (motive := fun n => xs α n → Nat → Option α) (fun (t : Option α) _ => t)
  (fun n ih (t : Option (xs α n × xs α n)) i => Option.casesOn t none (fun p => Bool.casesOn (Nat.beq (Nat.mod i 2) 0) (ih p.2 (Nat.div i 2)) (ih p.1 (Nat.div i 2)))) n
noncomputable def xs_set {α : Type} (n : Nat) : xs α n → Nat → α → xs α n := Nat.rec (motive := fun n => xs α n → Nat → α → xs α n) (fun (_ : Option α) _ v => (some v : Option α))
  (fun n ih (t : Option (xs α n × xs α n)) i v => Option.casesOn (motive := fun _ => Option (xs α n × xs α n)) t
    (Bool.casesOn (motive := fun _ => Option (xs α n × xs α n)) (Nat.beq (Nat.mod i 2) 0) (some (xs_no α n, ih (xs_no α n) (Nat.div i 2) v)) (some (ih (xs_no α n) (Nat.div i 2) v, xs_no α n)))
    (fun p => Bool.casesOn (motive := fun _ => Option (xs α n × xs α n)) (Nat.beq (Nat.mod i 2) 0) (some (p.1, ih p.2 (Nat.div i 2) v)) (some (ih p.1 (Nat.div i 2) v, p.2)))) n
theorem xs_get_s {α : Type} (n : Nat) (t : Option (xs α n × xs α n)) (i : Nat) : xs_get (n + 1) t i = match t with | none => none | some p => if i % 2 = 0 then xs_get n p.1 (i / 2) else xs_get n p.2 (i / 2) := by
  cases t with
  | none => rfl
  | some p =>
    show Bool.casesOn (motive := fun _ => Option α) (Nat.beq (Nat.mod i 2) 0) (xs_get n p.2 (Nat.div i 2)) (xs_get n p.1 (Nat.div i 2)) = _
    by_cases h : i % 2 = 0
    · have : Nat.beq (Nat.mod i 2) 0 = true := by show Nat.beq (i % 2) 0 = true; rw [h]; rfl
      simp only [this, h, if_true]; rfl
    · have : Nat.beq (Nat.mod i 2) 0 = false := by
        cases q : Nat.beq (Nat.mod i 2) 0 with
        | false => rfl
        | true => exact absurd (Nat.eq_of_beq_eq_true q) h
      simp only [this, h, if_false]; rfl
theorem xs_no_get {α : Type} (n i : Nat) : xs_get n (xs_no α n) i = none := by
  cases n with
  | zero => rfl
  | succ n => rfl
theorem xs_set_s {α : Type} (n : Nat) (t : Option (xs α n × xs α n)) (i : Nat) (v : α) : ∃ p : xs α n × xs α n, xs_set (n + 1) t i v = (some p : Option (xs α n × xs α n)) ∧ (∃ q : xs α n × xs α n, (∀ j, xs_get (n + 1) t j = if j % 2 = 0 then xs_get n q.1 (j / 2) else xs_get n q.2 (j / 2)) ∧ p = if i % 2 = 0 then (xs_set n q.1 (i / 2) v, q.2) else (q.1, xs_set n q.2 (i / 2) v)) := by
  have hb : (Nat.beq (Nat.mod i 2) 0 = true ∧ i % 2 = 0) ∨ (Nat.beq (Nat.mod i 2) 0 = false ∧ ¬ i % 2 = 0) := by
    cases q : Nat.beq (Nat.mod i 2) 0 with
    | true => exact Or.inl ⟨rfl, Nat.eq_of_beq_eq_true q⟩
    | false => exact Or.inr ⟨rfl, fun e => absurd e (Nat.ne_of_beq_eq_false q)⟩
  cases t with
  | none =>
    refine ⟨_, ?_, (xs_no α n, xs_no α n), fun j => ?_, rfl⟩
    · show Bool.casesOn (motive := fun _ => Option (xs α n × xs α n)) (Nat.beq (Nat.mod i 2) 0) (some (xs_no α n, xs_set n (xs_no α n) (Nat.div i 2) v)) (some (xs_set n (xs_no α n) (Nat.div i 2) v, xs_no α n)) = _
      rcases hb with ⟨h1, h2⟩ | ⟨h1, h2⟩
      · simp only [h1, h2, if_true]; rfl
      · simp only [h1, h2, if_false]; rfl
    · show none = _
      simp only [xs_no_get]
      split <;> rfl
  | some p =>
    refine ⟨_, ?_, p, fun j => by rw [xs_get_s], rfl⟩
    show Bool.casesOn (motive := fun _ => Option (xs α n × xs α n)) (Nat.beq (Nat.mod i 2) 0) (some (p.1, xs_set n p.2 (Nat.div i 2) v)) (some (xs_set n p.1 (Nat.div i 2) v, p.2)) = _
    rcases hb with ⟨h1, h2⟩ | ⟨h1, h2⟩
    · simp only [h1, h2, if_true]; rfl
    · simp only [h1, h2, if_false]; rfl
theorem xs_get_set {α : Type} (n : Nat) : ∀ (t : xs α n) (i j : Nat) (v : α), i < 2 ^ n → j < 2 ^ n → xs_get n (xs_set n t i v) j = if j = i then some v else xs_get n t j := by
  induction n with
  | zero =>
    intro t i j v hi hj
    have : j = i := by simp at hi hj; omega
    rw [if_pos this]; rfl
  | succ n ih =>
    intro t i j v hi hj
    obtain ⟨p, hp, q, hq, hpq⟩ := xs_set_s n t i v
    have e2 : (2 : Nat) ^ (n + 1) = 2 * 2 ^ n := by rw [Nat.pow_succ]; omega
    have hi2 : i / 2 < 2 ^ n := by omega
    have hj2 : j / 2 < 2 ^ n := by omega
    rw [hp, xs_get_s, hq j]
    simp only
    by_cases h1 : i % 2 = 0
    · rw [if_pos h1] at hpq
      subst hpq
      by_cases h2 : j % 2 = 0
      · simp only [h2, if_true]
        rw [ih _ _ _ _ hi2 hj2]
        by_cases h3 : j = i
        · subst h3; simp
        · rw [if_neg h3, if_neg (by omega)]
      · simp only [h2, if_false]
        rw [if_neg (by intro e; subst e; exact h2 h1)]
    · rw [if_neg h1] at hpq
      subst hpq
      by_cases h2 : j % 2 = 0
      · simp only [h2, if_true]
        rw [if_neg (by intro e; subst e; exact h1 h2)]
      · simp only [h2, if_false]
        rw [ih _ _ _ _ hi2 hj2]
        by_cases h3 : j = i
        · subst h3; simp
        · rw [if_neg h3, if_neg (by omega)]
