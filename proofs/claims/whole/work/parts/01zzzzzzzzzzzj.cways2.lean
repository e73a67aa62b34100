/-! THE CLASS: WAYS: which there are, and what their search costs -/
theorem inc_len {n : Nat} : ∀ (l : List Nat) (c : Nat), l.Pairwise (· < ·) → (∀ x ∈ l, c ≤ x ∧ x < n) → c ≤ n → l.length + c ≤ n
  | [], c, _, _, h => by simpa using h
  | x :: l, c, hp, hx, hc => by
    obtain ⟨p1, p2⟩ := List.pairwise_cons.mp hp
    have h0 := hx x List.mem_cons_self
    have := inc_len l (x + 1) p2 (fun y hy => ⟨p1 y hy, (hx y (List.mem_cons_of_mem _ hy)).2⟩) (by omega)
    rw [List.length_cons]
    omega
section
variable {T : pCd} {lo hi : Int} {Rp : List pRw} {b : Nat} {vl : Nat → Int} {br : Int}
/-- the rows from c on that are taken, and the values that they give -/
def chD (T : pCd) (lo hi : Int) (Rp : List pRw) (b : Nat) (vl : Nat → Int) (br : Int) (c : Nat) (D : List (Nat × (Nat → Int))) : Prop := D.Pairwise (fun x y => x.1 < y.1) ∧ ∀ z, z ∈ D ↔ c ≤ z.1 ∧ z.1 < Rp.length ∧ accR T lo hi Rp b vl br z.1 ∧ ∃ b', fitR T lo hi b vl (Rp.getD z.1 dRw) = some (b', z.2)
theorem chD.ex : ∀ (d c : Nat), c + d = Rp.length → ∃ D, chD T lo hi Rp b vl br c D
  | 0, c, h => ⟨[], List.Pairwise.nil, fun z => ⟨(fun q => nomatch q), fun ⟨q1, q2, _⟩ => by omega⟩⟩
  | d + 1, c, h => by
    obtain ⟨D, h1, h2⟩ := chD.ex d (c + 1) (by omega)
    by_cases ha : accR T lo hi Rp b vl br c
    · obtain ⟨b', v', e1, e2⟩ := id ha
      refine ⟨(c, v') :: D, List.pairwise_cons.mpr ⟨fun z hz => ?_, h1⟩, fun z => ?_⟩
      · have := ((h2 z).mp hz).1
        show c < z.1
        omega
      · rw [List.mem_cons, h2 z]
        constructor
        · rintro (rfl | ⟨q1, q2⟩)
          · exact ⟨Nat.le_refl _, by show c < _; omega, ha, b', e1⟩
          · exact ⟨by omega, q2⟩
        · rintro ⟨q1, q2, q3, b2, q4⟩
          by_cases cz : z.1 = c
          · refine .inl (Prod.ext cz ?_)
            rw [cz, e1] at q4
            injection q4 with q4
            injection q4 with _ q4
            exact q4.symm
          · exact .inr ⟨by omega, q2, q3, b2, q4⟩
    · refine ⟨D, h1, fun z => ?_⟩
      rw [h2 z]
      constructor
      · exact fun ⟨q1, q2⟩ => ⟨by omega, q2⟩
      · rintro ⟨q1, q2, q3, q4⟩
        refine ⟨?_, q2, q3, q4⟩
        by_cases cz : z.1 = c
        · rw [cz] at q3; exact absurd q3 ha
        · omega
theorem chD.len {c : Nat} {D : List (Nat × (Nat → Int))} (h : chD T lo hi Rp b vl br c D) : D.length ≤ Rp.length := by
  have hn : (D.map (·.1)).Pairwise (· < ·) := List.pairwise_map.mpr h.1
  have hs : ∀ x ∈ D.map (·.1), x < Rp.length := fun x hx => by
    obtain ⟨z, z1, rfl⟩ := List.mem_map.mp hx
    exact ((h.2 z).mp z1).2.1
  have := inc_len _ 0 hn (fun x hx => ⟨Nat.zero_le _, hs x hx⟩) (Nat.zero_le _)
  rw [List.length_map] at this
  exact this
/-- the first of them -/
theorem chD.head {c i b' : Nat} {v' : Nat → Int} {D : List (Nat × (Nat → Int))} (h : chD T lo hi Rp b vl br c D) (h1 : c ≤ i) (h2 : i < Rp.length) (h3 : fitR T lo hi b vl (Rp.getD i dRw) = some (b', v')) (h4 : accR T lo hi Rp b vl br i) (h5 : ∀ j, c ≤ j → j < i → ¬ accR T lo hi Rp b vl br j) : ∃ D', D = (i, v') :: D' ∧ chD T lo hi Rp b vl br (i + 1) D' := by
  have hm : (i, v') ∈ D := (h.2 _).mpr ⟨h1, h2, h4, b', h3⟩
  match D, h, hm with
  | z :: D', h, hm =>
    have hz := (h.2 z).mp List.mem_cons_self
    obtain ⟨p1, p2⟩ := List.pairwise_cons.mp h.1
    have ez : z = (i, v') := by
      rcases List.mem_cons.mp hm with q | q
      · exact q.symm
      · have := p1 _ q
        exact absurd hz.2.2.1 (h5 z.1 hz.1 this)
    subst ez
    refine ⟨D', rfl, p2, fun w => ⟨fun hw => ?_, fun ⟨q1, q2⟩ => ?_⟩⟩
    · have q := (h.2 w).mp (List.mem_cons_of_mem _ hw)
      have := p1 _ hw
      exact ⟨this, q.2⟩
    · have q := (h.2 w).mpr ⟨by omega, q2⟩
      rcases List.mem_cons.mp q with e | e
      · rw [e] at q1
        have : i + 1 ≤ i := q1
        omega
      · exact e
theorem chD.none {c : Nat} {D : List (Nat × (Nat → Int))} (h : chD T lo hi Rp b vl br c D) (h5 : ∀ j, c ≤ j → j < Rp.length → ¬ accR T lo hi Rp b vl br j) : D = [] := by
  match D, h with
  | [], _ => rfl
  | z :: D', h =>
    have hz := (h.2 z).mp List.mem_cons_self
    exact absurd hz.2.2.1 (h5 z.1 hz.1 hz.2.1)
theorem chD.det {c : Nat} {D D' : List (Nat × (Nat → Int))} (h : chD T lo hi Rp b vl br c D) (h' : chD T lo hi Rp b vl br c D') : D = D' := srt_ext (lt := fun x y => x.1 < y.1) (fun a => Nat.lt_irrefl _) (fun a b c => Nat.lt_trans) D D' h.1 h'.1 (fun y => (h.2 y).trans (h'.2 y).symm)
end
/-- whether another row can make another WAY -/
def mre (Ls : List pLt) (a : Nat) (br : Int) (y : pLt) (pr : List Nat) (b : Nat) : Prop := ∃ j, (b ||| qLv y).testBit j = true ∧ b.testBit j = false ∧ (br ≠ 0 → (plA Ls a pr).testBit j = true)
section
variable {Ls : List pLt} {a : Nat} {br : Int} {R : Nat → List pRw} {lo hi : Nat → Int}
/-- the choices at a LITERAL p, with pr behind it -/
def chs (Ls : List pLt) (a : Nat) (br : Int) (R : Nat → List pRw) (lo hi : Nat → Int) (p : Nat) (pr : List Nat) (b : Nat) (vl : Nat → Int) (D : List (Nat → Int)) : Prop :=
  ((Ls.getD p dLt).1 = 1 ∧ ∃ D0, chD (Ls.getD p dLt).2.2.2.1 (lo p) (hi p) (R (Ls.getD p dLt).2.1.toNat) b vl br 0 D0 ∧ (mre Ls a br (Ls.getD p dLt) pr b → D = D0.map (·.2)) ∧ (¬ mre Ls a br (Ls.getD p dLt) pr b → D = (D0.take 1).map (·.2))) ∨
  ((Ls.getD p dLt).1 = 2 ∧ ((∀ j, j < (R (Ls.getD p dLt).2.1.toNat).length → fitR (Ls.getD p dLt).2.2.2.1 (lo p) (hi p) b vl ((R (Ls.getD p dLt).2.1.toNat).getD j dRw) = none) → D = [vl]) ∧ (¬ (∀ j, j < (R (Ls.getD p dLt).2.1.toNat).length → fitR (Ls.getD p dLt).2.2.2.1 (lo p) (hi p) b vl ((R (Ls.getD p dLt).2.1.toNat).getD j dRw) = none) → D = [])) ∨
  ((Ls.getD p dLt).1 = 3 ∧ (∀ b' v', cmpV (Ls.getD p dLt) b vl = some (b', v') → D = [v']) ∧ (cmpV (Ls.getD p dLt) b vl = none → D = []))
/-- lists of WAYS, one behind another, with what they cost -/
def wyS (P : (Nat → Int) → List (Nat → Int) → Nat → Prop) : List (Nat → Int) → List (Nat → Int) → Nat → Prop
  | [], V, k => V = [] ∧ k = 0
  | v :: D, V, k => ∃ V1 k1 V2 k2, P v V1 k1 ∧ wyS P D V2 k2 ∧ V = V1 ++ V2 ∧ k = k1 + 1 + k2
/-- the WAYS behind b, vl -/
def wyE (Ls : List pLt) (a : Nat) (br : Int) (R : Nat → List pRw) (lo hi : Nat → Int) : List Nat → Nat → (Nat → Int) → List (Nat → Int) → Nat → Prop
  | [], _, vl, V, k => V = [vl] ∧ k = 1
  | p :: pr, b, vl, V, k => ∃ D k', chs Ls a br R lo hi p pr b vl D ∧ wyS (fun v => wyE Ls a br R lo hi pr (b ||| qLv (Ls.getD p dLt)) v) D V k' ∧ k = 1 + k'
theorem chs.ex {p : Nat} {pr : List Nat} {b : Nat} {vl : Nat → Int} (h : (Ls.getD p dLt).1 = 1 ∨ (Ls.getD p dLt).1 = 2 ∨ (Ls.getD p dLt).1 = 3) (hR : (R (Ls.getD p dLt).2.1.toNat).length ≤ 100 ∨ (Ls.getD p dLt).1 = 3) : ∃ D, chs Ls a br R lo hi p pr b vl D ∧ D.length ≤ (if (Ls.getD p dLt).1 = 1 then 100 else 1) := by
  rcases h with h | h | h
  · obtain ⟨D0, h0⟩ := chD.ex (T := (Ls.getD p dLt).2.2.2.1) (lo := lo p) (hi := hi p) (Rp := R (Ls.getD p dLt).2.1.toNat) (b := b) (vl := vl) (br := br) _ 0 (Nat.zero_add _)
    have hl := h0.len
    have hR' : (R (Ls.getD p dLt).2.1.toNat).length ≤ 100 := hR.elim id (fun q => by omega)
    rw [if_pos h]
    by_cases cm : mre Ls a br (Ls.getD p dLt) pr b
    · exact ⟨D0.map (·.2), .inl ⟨h, D0, h0, fun _ => rfl, fun q => absurd cm q⟩, by rw [List.length_map]; omega⟩
    · exact ⟨(D0.take 1).map (·.2), .inl ⟨h, D0, h0, fun q => absurd q cm, fun _ => rfl⟩, by rw [List.length_map, List.length_take]; omega⟩
  · rw [if_neg (by omega)]
    by_cases cn : ∀ j, j < (R (Ls.getD p dLt).2.1.toNat).length → fitR (Ls.getD p dLt).2.2.2.1 (lo p) (hi p) b vl ((R (Ls.getD p dLt).2.1.toNat).getD j dRw) = none
    · exact ⟨[vl], .inr (.inl ⟨h, fun _ => rfl, fun q => absurd cn q⟩), Nat.le_refl _⟩
    · exact ⟨[], .inr (.inl ⟨h, fun q => absurd q cn, fun _ => rfl⟩), Nat.zero_le _⟩
  · rw [if_neg (by omega)]
    cases hc : cmpV (Ls.getD p dLt) b vl with
    | none => exact ⟨[], .inr (.inr ⟨h, (fun b' v' q => by rw [hc] at q; cases q), fun _ => rfl⟩), Nat.zero_le _⟩
    | some z =>
      refine ⟨[z.2], .inr (.inr ⟨h, fun b' v' q => ?_, (fun q => by rw [hc] at q; cases q)⟩), Nat.le_refl _⟩
      rw [hc] at q
      injection q with q
      rw [q]
theorem wyS_ex {P : (Nat → Int) → List (Nat → Int) → Nat → Prop} {B : Nat} (h : ∀ v, ∃ V k, P v V k ∧ k ≤ B) : ∀ (D : List (Nat → Int)), ∃ V k, wyS P D V k ∧ k ≤ D.length * (B + 1)
  | [] => ⟨[], 0, ⟨rfl, rfl⟩, Nat.zero_le _⟩
  | v :: D => by
    obtain ⟨V1, k1, a1, a2⟩ := h v
    obtain ⟨V2, k2, b1, b2⟩ := wyS_ex h D
    refine ⟨V1 ++ V2, k1 + 1 + k2, ⟨V1, k1, V2, k2, a1, b1, rfl, rfl⟩, ?_⟩
    rw [List.length_cons, Nat.succ_mul]
    omega
/-- how much a search may cost -/
def wyB (Ls : List pLt) : List Nat → Nat
  | [] => 1
  | p :: pr => 1 + (if (Ls.getD p dLt).1 = 1 then 100 else 1) * (wyB Ls pr + 1)
theorem wyE_ex (hk : ∀ p, p < Ls.length → ((Ls.getD p dLt).1 = 1 ∨ (Ls.getD p dLt).1 = 2 ∨ (Ls.getD p dLt).1 = 3) ∧ ((R (Ls.getD p dLt).2.1.toNat).length ≤ 100 ∨ (Ls.getD p dLt).1 = 3)) : ∀ (pr : List Nat), (∀ p ∈ pr, p < Ls.length) → ∀ (b : Nat) (vl : Nat → Int), ∃ V k, wyE Ls a br R lo hi pr b vl V k ∧ k ≤ wyB Ls pr
  | [], _, b, vl => ⟨[vl], 1, ⟨rfl, rfl⟩, Nat.le_refl _⟩
  | p :: pr, hp, b, vl => by
    obtain ⟨k1, k2⟩ := hk p (hp p List.mem_cons_self)
    obtain ⟨D, d1, d2⟩ := chs.ex (a := a) (br := br) (lo := lo) (hi := hi) (pr := pr) (b := b) (vl := vl) k1 k2
    obtain ⟨V, k, e1, e2⟩ := wyS_ex (fun v => wyE_ex hk pr (fun q hq => hp q (List.mem_cons_of_mem _ hq)) (b ||| qLv (Ls.getD p dLt)) v) D
    refine ⟨V, 1 + k, ⟨D, k, d1, e1, rfl⟩, ?_⟩
    show 1 + k ≤ 1 + _ * _
    have := Nat.mul_le_mul_right (wyB Ls pr + 1) d2
    omega
end
