section
/-! THE CLASS: WAYS: which there are, and what their search costs -/
theorem inc_len {n : Nat} : ∀ (l : List Nat) (c : Nat), l.Pairwise (· < ·) → (∀ x ∈ l, c ≤ x ∧ x < n) → c ≤ n → l.length + c ≤ n
  | [], c, _, _, h => by simpa using h
  | x :: l, c, hp, hx, hc => by
    obtain ⟨p1, p2⟩ := List.pairwise_cons.mp hp
    have h0 := hx x List.mem_cons_self
    have := inc_len l (x + 1) p2 (fun y hy => ⟨p1 y hy, (hx y (List.mem_cons_of_mem _ hy)).2⟩) (by omega)
    rw [List.length_cons]
    omega
section
variable {T : pCd} {lo hi : Int} {Rp : List pRw} {b : Nat} {vl : Nat → Int} {br : Int}
/-- the rows from c on that are taken, and the values that they give -/
def chD (T : pCd) (lo hi : Int) (Rp : List pRw) (b : Nat) (vl : Nat → Int) (br : Int) (c : Nat) (D : List (Nat × (Nat → Int))) : Prop := D.Pairwise (fun x y => x.1 < y.1) ∧ ∀ z, z ∈ D ↔ c ≤ z.1 ∧ z.1 < Rp.length ∧ accR T lo hi Rp b vl br z.1 ∧ ∃ b', fitR T lo hi b vl (Rp.getD z.1 dRw) = some (b', z.2)
theorem chD.ex : ∀ (d c : Nat), c + d = Rp.length → ∃ D, chD T lo hi Rp b vl br c D
  | 0, c, h => ⟨[], List.Pairwise.nil, fun z => ⟨(fun q => nomatch q), fun ⟨q1, q2, _⟩ => by omega⟩⟩
  | d + 1, c, h => by
    obtain ⟨D, h1, h2⟩ := chD.ex d (c + 1) (by omega)
    by_cases ha : accR T lo hi Rp b vl br c
    · obtain ⟨b', v', e1, e2⟩ := id ha
      refine ⟨(c, v') :: D, List.pairwise_cons.mpr ⟨fun z hz => ?_, h1⟩, fun z => ?_⟩
      · have := ((h2 z).mp hz).1
        show c < z.1
        omega
      · rw [List.mem_cons, h2 z]
        constructor
        · rintro (rfl | ⟨q1, q2⟩)
          · exact ⟨Nat.le_refl _, by show c < _; omega, ha, b', e1⟩
          · exact ⟨by omega, q2⟩
        · rintro ⟨q1, q2, q3, b2, q4⟩
          by_cases cz : z.1 = c
          · refine .inl (Prod.ext cz ?_)
            rw [cz, e1] at q4
            injection q4 with q4
            injection q4 with _ q4
            exact q4.symm
          · exact .inr ⟨by omega, q2, q3, b2, q4⟩
    · refine ⟨D, h1, fun z => ?_⟩
      rw [h2 z]
      constructor
      · exact fun ⟨q1, q2⟩ => ⟨by omega, q2⟩
      · rintro ⟨q1, q2, q3, q4⟩
        refine ⟨?_, q2, q3, q4⟩
        by_cases cz : z.1 = c
        · rw [cz] at q3; exact absurd q3 ha
        · omega
theorem chD.len {c : Nat} {D : List (Nat × (Nat → Int))} (h : chD T lo hi Rp b vl br c D) : D.length ≤ Rp.length := by
  have hn : (D.map (·.1)).Pairwise (· < ·) := List.pairwise_map.mpr h.1
  have hs : ∀ x ∈ D.map (·.1), x < Rp.length := fun x hx => by
    obtain ⟨z, z1, rfl⟩ := List.mem_map.mp hx
    exact ((h.2 z).mp z1).2.1
  have := inc_len _ 0 hn (fun x hx => ⟨Nat.zero_le _, hs x hx⟩) (Nat.zero_le _)
  rw [List.length_map] at this
  exact this
/-- the first of them -/
theorem chD.head {c i b' : Nat} {v' : Nat → Int} {D : List (Nat × (Nat → Int))} (h : chD T lo hi Rp b vl br c D) (h1 : c ≤ i) (h2 : i < Rp.length) (h3 : fitR T lo hi b vl (Rp.getD i dRw) = some (b', v')) (h4 : accR T lo hi Rp b vl br i) (h5 : ∀ j, c ≤ j → j < i → ¬ accR T lo hi Rp b vl br j) : ∃ D', D = (i, v') :: D' ∧ chD T lo hi Rp b vl br (i + 1) D' := by
  have hm : (i, v') ∈ D := (h.2 _).mpr ⟨h1, h2, h4, b', h3⟩
  match D, h, hm with
  | z :: D', h, hm =>
    have hz := (h.2 z).mp List.mem_cons_self
    obtain ⟨p1, p2⟩ := List.pairwise_cons.mp h.1
    have ez : z = (i, v') := by
      rcases List.mem_cons.mp hm with q | q
      · exact q.symm
      · have := p1 _ q
        exact absurd hz.2.2.1 (h5 z.1 hz.1 this)
    subst ez
    refine ⟨D', rfl, p2, fun w => ⟨fun hw => ?_, fun ⟨q1, q2⟩ => ?_⟩⟩
    · have q := (h.2 w).mp (List.mem_cons_of_mem _ hw)
      have := p1 _ hw
      exact ⟨this, q.2⟩
    · have q := (h.2 w).mpr ⟨by omega, q2⟩
      rcases List.mem_cons.mp q with e | e
      · rw [e] at q1
        have : i + 1 ≤ i := q1
        omega
      · exact e
theorem chD.none {c : Nat} {D : List (Nat × (Nat → Int))} (h : chD T lo hi Rp b vl br c D) (h5 : ∀ j, c ≤ j → j < Rp.length → ¬ accR T lo hi Rp b vl br j) : D = [] := by
  match D, h with
  | [], _ => rfl
  | z :: D', h =>
    have hz := (h.2 z).mp List.mem_cons_self
    exact absurd hz.2.2.1 (h5 z.1 hz.1 hz.2.1)
theorem chD.det {c : Nat} {D D' : List (Nat × (Nat → Int))} (h : chD T lo hi Rp b vl br c D) (h' : chD T lo hi Rp b vl br c D') : D = D' := srt_ext (lt := fun x y => x.1 < y.1) (fun a => Nat.lt_irrefl _) (fun a b c => Nat.lt_trans) D D' h.1 h'.1 (fun y => (h.2 y).trans (h'.2 y).symm)
end
/-- whether another row can make another WAY -/
def mre (Ls : List pLt) (a : Nat) (br : Int) (y : pLt) (pr : List Nat) (b : Nat) : Prop := ∃ j, (b ||| qLv y).testBit j = true ∧ b.testBit j = false ∧ (br ≠ 0 → (plA Ls a pr).testBit j = true)
section
variable {Ls : List pLt} {a : Nat} {br : Int} {R : Nat → List pRw} {lo hi : Nat → Int}
/-- the choices at a LITERAL p, with pr behind it -/
def chs (Ls : List pLt) (a : Nat) (br : Int) (R : Nat → List pRw) (lo hi : Nat → Int) (p : Nat) (pr : List Nat) (b : Nat) (vl : Nat → Int) (D : List (Nat → Int)) : Prop :=
  ((Ls.getD p dLt).1 = 1 ∧ ∃ D0, chD (Ls.getD p dLt).2.2.2.1 (lo p) (hi p) (R (Ls.getD p dLt).2.1.toNat) b vl br 0 D0 ∧ (mre Ls a br (Ls.getD p dLt) pr b → D = D0.map (·.2)) ∧ (¬ mre Ls a br (Ls.getD p dLt) pr b → D = (D0.take 1).map (·.2))) ∨
  ((Ls.getD p dLt).1 = 2 ∧ ((∀ j, j < (R (Ls.getD p dLt).2.1.toNat).length → fitR (Ls.getD p dLt).2.2.2.1 (lo p) (hi p) b vl ((R (Ls.getD p dLt).2.1.toNat).getD j dRw) = none) → D = [vl]) ∧ (¬ (∀ j, j < (R (Ls.getD p dLt).2.1.toNat).length → fitR (Ls.getD p dLt).2.2.2.1 (lo p) (hi p) b vl ((R (Ls.getD p dLt).2.1.toNat).getD j dRw) = none) → D = [])) ∨
  ((Ls.getD p dLt).1 = 3 ∧ (∀ b' v', cmpV (Ls.getD p dLt) b vl = some (b', v') → D = [v']) ∧ (cmpV (Ls.getD p dLt) b vl = none → D = []))
/-- lists of WAYS, one behind another, with what they cost -/
def wyS (P : (Nat → Int) → List (Nat → Int) → Nat → Prop) : List (Nat → Int) → List (Nat → Int) → Nat → Prop
  | [], V, k => V = [] ∧ k = 0
  | v :: D, V, k => ∃ V1 k1 V2 k2, P v V1 k1 ∧ wyS P D V2 k2 ∧ V = V1 ++ V2 ∧ k = k1 + 1 + k2
/-- the WAYS behind b, vl -/
def wyE (Ls : List pLt) (a : Nat) (br : Int) (R : Nat → List pRw) (lo hi : Nat → Int) : List Nat → Nat → (Nat → Int) → List (Nat → Int) → Nat → Prop
  | [], _, vl, V, k => V = [vl] ∧ k = 1
  | p :: pr, b, vl, V, k => ∃ D k', chs Ls a br R lo hi p pr b vl D ∧ wyS (fun v => wyE Ls a br R lo hi pr (b ||| qLv (Ls.getD p dLt)) v) D V k' ∧ k = 1 + k'
theorem chs.ex {p : Nat} {pr : List Nat} {b : Nat} {vl : Nat → Int} (h : (Ls.getD p dLt).1 = 1 ∨ (Ls.getD p dLt).1 = 2 ∨ (Ls.getD p dLt).1 = 3) (hR : (R (Ls.getD p dLt).2.1.toNat).length ≤ 100 ∨ (Ls.getD p dLt).1 = 3) : ∃ D, chs Ls a br R lo hi p pr b vl D ∧ D.length ≤ (if (Ls.getD p dLt).1 = 1 then 100 else 1) := by
  rcases h with h | h | h
  · obtain ⟨D0, h0⟩ := chD.ex (T := (Ls.getD p dLt).2.2.2.1) (lo := lo p) (hi := hi p) (Rp := R (Ls.getD p dLt).2.1.toNat) (b := b) (vl := vl) (br := br) _ 0 (Nat.zero_add _)
    have hl := h0.len
    have hR' : (R (Ls.getD p dLt).2.1.toNat).length ≤ 100 := hR.elim id (fun q => by omega)
    rw [if_pos h]
    by_cases cm : mre Ls a br (Ls.getD p dLt) pr b
    · exact ⟨D0.map (·.2), .inl ⟨h, D0, h0, fun _ => rfl, fun q => absurd cm q⟩, by rw [List.length_map]; omega⟩
    · exact ⟨(D0.take 1).map (·.2), .inl ⟨h, D0, h0, fun q => absurd q cm, fun _ => rfl⟩, by rw [List.length_map, List.length_take]; omega⟩
  · rw [if_neg (by omega)]
    by_cases cn : ∀ j, j < (R (Ls.getD p dLt).2.1.toNat).length → fitR (Ls.getD p dLt).2.2.2.1 (lo p) (hi p) b vl ((R (Ls.getD p dLt).2.1.toNat).getD j dRw) = none
    · exact ⟨[vl], .inr (.inl ⟨h, fun _ => rfl, fun q => absurd cn q⟩), Nat.le_refl _⟩
    · exact ⟨[], .inr (.inl ⟨h, fun q => absurd q cn, fun _ => rfl⟩), Nat.zero_le _⟩
  · rw [if_neg (by omega)]
    cases hc : cmpV (Ls.getD p dLt) b vl with
    | none => exact ⟨[], .inr (.inr ⟨h, (fun b' v' q => by rw [hc] at q; cases q), fun _ => rfl⟩), Nat.zero_le _⟩
    | some z =>
      refine ⟨[z.2], .inr (.inr ⟨h, fun b' v' q => ?_, (fun q => by rw [hc] at q; cases q)⟩), Nat.le_refl _⟩
      rw [hc] at q
      injection q with q
      rw [q]
theorem wyS_ex {P : (Nat → Int) → List (Nat → Int) → Nat → Prop} {B : Nat} (h : ∀ v, ∃ V k, P v V k ∧ k ≤ B) : ∀ (D : List (Nat → Int)), ∃ V k, wyS P D V k ∧ k ≤ D.length * (B + 1)
  | [] => ⟨[], 0, ⟨rfl, rfl⟩, Nat.zero_le _⟩
  | v :: D => by
    obtain ⟨V1, k1, a1, a2⟩ := h v
    obtain ⟨V2, k2, b1, b2⟩ := wyS_ex h D
    refine ⟨V1 ++ V2, k1 + 1 + k2, ⟨V1, k1, V2, k2, a1, b1, rfl, rfl⟩, ?_⟩
    rw [List.length_cons, Nat.succ_mul]
    omega
/-- how much a search may cost -/
def wyB (Ls : List pLt) : List Nat → Nat
  | [] => 1
  | p :: pr => 1 + (if (Ls.getD p dLt).1 = 1 then 100 else 1) * (wyB Ls pr + 1)
theorem wyE_ex (hk : ∀ p, p < Ls.length → ((Ls.getD p dLt).1 = 1 ∨ (Ls.getD p dLt).1 = 2 ∨ (Ls.getD p dLt).1 = 3) ∧ ((R (Ls.getD p dLt).2.1.toNat).length ≤ 100 ∨ (Ls.getD p dLt).1 = 3)) : ∀ (pr : List Nat), (∀ p ∈ pr, p < Ls.length) → ∀ (b : Nat) (vl : Nat → Int), ∃ V k, wyE Ls a br R lo hi pr b vl V k ∧ k ≤ wyB Ls pr
  | [], _, b, vl => ⟨[vl], 1, ⟨rfl, rfl⟩, Nat.le_refl _⟩
  | p :: pr, hp, b, vl => by
    obtain ⟨k1, k2⟩ := hk p (hp p List.mem_cons_self)
    obtain ⟨D, d1, d2⟩ := chs.ex (a := a) (br := br) (lo := lo) (hi := hi) (pr := pr) (b := b) (vl := vl) k1 k2
    obtain ⟨V, k, e1, e2⟩ := wyS_ex (fun v => wyE_ex hk pr (fun q hq => hp q (List.mem_cons_of_mem _ hq)) (b ||| qLv (Ls.getD p dLt)) v) D
    refine ⟨V, 1 + k, ⟨D, k, d1, e1, rfl⟩, ?_⟩
    show 1 + k ≤ 1 + _ * _
    have := Nat.mul_le_mul_right (wyB Ls pr + 1) d2
    omega
end
end
section
/-! THE CLASS: next(), steps -/
section
variable {f u l st b nl : Nat} {S : Nat → Nat × Nat × Nat} {G G1 G2 : xG_} {m : Nat × Nat} {v w x kd : Int} {r2 : Nat → Int → xT_ → Option (Int × xT_)}
theorem sw_132e (hs : cSs S) (hx : x < 1000000000) (h6 : G 83 6 = -1) : c132_2b r2 f 83 x (S, G, m) = some (0, (S, G, m)) := by
  have e : cq_gi 9 6 14 83 (S, G, m) = some (-1) := by
    unfold cq_gi
    rw [if_pos (s83 hs)]
    exact congrArg some h6
  unfold c132_2b c132_215
  rw [if_neg (by omega), e, Option.bind_some, if_pos (by decide)]
theorem sw_132l (hs : cSs S) (hx : x < 1000000000) (h3 : G 83 3 = (u : Int)) (hu : 278 < u) (us : S u = (1, 6, 20)) (h8 : G u 8 = (nl : Int)) (h6 : G 83 6 = (nl : Int)) (en : xwr ((nl : Int) - 1) = (nl : Int) - 1) : c132_2b r2 f 83 x (S, G, m) = some (1, (S, xup2 (xup2 G 83 6 ((nl : Int) - 1)) 83 7 0, m)) := by
  unfold c132_2b
  simp (disch := omega) only [cq_gi, cq_gr, cq_a, cq_s, cq_p, cq_pr, cq_is, cq_ar, cq_ab, cq_ln, xq_nz, Option.bind_some, xup2_n, xup2_s, Int.toNat_natCast, Int.reduceToNat, if_pos, if_neg, true_and, and_true, and_self, eq_self, if_true, reduceIte, not_true_eq_false, not_false_eq_true, or_true, true_or, s83 hs, h3, us, h8, h6, en, cq_pb]
theorem st_205 (hs : cSs S) (h6 : G 83 6 = (st : Int)) (hw : w = 0 ∨ w = 1) (ep : xwr ((st : Int) + 1) = (st : Int) + 1) (em : xwr ((st : Int) + (-1)) = (st : Int) - 1) (ex : xwr (x + 1) = x + 1) : c132_113 r2 f 83 x w 83 (S, G, m) = r2 83 (x + 1) (S, xup2 (xup2 G 83 7 w) 83 6 (if w = 0 then (st : Int) - 1 else (st : Int) + 1), m) := by
  rcases hw with rfl | rfl
  · rw [if_pos rfl]
    unfold c132_113 c132_188 c132_205
    simp (disch := omega) only [cq_gi, cq_gr, cq_a, cq_s, cq_p, cq_pr, cq_is, cq_ar, cq_ab, cq_ln, xq_nz, Option.bind_some, xup2_n, xup2_s, Int.toNat_natCast, Int.reduceToNat, if_pos, if_neg, true_and, and_true, and_self, eq_self, if_true, reduceIte, not_true_eq_false, not_false_eq_true, or_true, true_or, s83 hs, h6, em, ex, cq_pb]
  · rw [if_neg (by decide)]
    unfold c132_113 c132_188 c132_205
    simp (disch := omega) only [cq_gi, cq_gr, cq_a, cq_s, cq_p, cq_pr, cq_is, cq_ar, cq_ab, cq_ln, xq_nz, Option.bind_some, xup2_n, xup2_s, Int.toNat_natCast, Int.reduceToNat, if_pos, if_neg, true_and, and_true, and_self, eq_self, if_true, reduceIte, not_true_eq_false, not_false_eq_true, or_true, true_or, s83 hs, h6, ep, ex, cq_pb, Int.reduceEq]
theorem st_185 (hs : cSs S) (h6 : G 83 6 = (st : Int)) (hw : w = 0 ∨ w = 1) (ep : xwr ((st : Int) + 1) = (st : Int) + 1) (em : xwr ((st : Int) + (-1)) = (st : Int) - 1) (ex : xwr (x + 1) = x + 1) : c132_185 r2 f 83 x w 83 (S, G, m) = r2 83 (x + 1) (S, xup2 (xup2 G 83 7 w) 83 6 (if w = 0 then (st : Int) - 1 else (st : Int) + 1), m) := by
  rcases hw with rfl | rfl
  · rw [if_pos rfl]
    unfold c132_185 c132_188 c132_205
    simp (disch := omega) only [cq_gi, cq_gr, cq_a, cq_s, cq_p, cq_pr, cq_is, cq_ar, cq_ab, cq_ln, xq_nz, Option.bind_some, xup2_n, xup2_s, Int.toNat_natCast, Int.reduceToNat, if_pos, if_neg, true_and, and_true, and_self, eq_self, if_true, reduceIte, not_true_eq_false, not_false_eq_true, or_true, true_or, s83 hs, h6, em, ex, cq_pb]
  · rw [if_neg (by decide)]
    unfold c132_185 c132_188 c132_205
    simp (disch := omega) only [cq_gi, cq_gr, cq_a, cq_s, cq_p, cq_pr, cq_is, cq_ar, cq_ab, cq_ln, xq_nz, Option.bind_some, xup2_n, xup2_s, Int.toNat_natCast, Int.reduceToNat, if_pos, if_neg, true_and, and_true, and_self, eq_self, if_true, reduceIte, not_true_eq_false, not_false_eq_true, or_true, true_or, s83 hs, h6, ep, ex, cq_pb, Int.reduceEq]
theorem st_100 (hs : cSs S) (e : c135 f 83 (l : Int) (S, G, m) = some (w, (S, G1, m))) (hw : w = 0 ∨ w = 1) : c132_100 r2 f 83 x (l : Int) 83 (S, G, m) = c132_113 r2 f 83 x w 83 (S, G1, m) := by
  rcases hw with rfl | rfl
  · unfold c132_100 c132_112
    simp (disch := omega) only [cq_gi, cq_gr, cq_a, cq_s, cq_p, cq_pr, cq_is, cq_ar, cq_ab, cq_ln, xq_nz, Option.bind_some, xup2_n, xup2_s, Int.toNat_natCast, Int.reduceToNat, if_pos, if_neg, true_and, and_true, and_self, eq_self, if_true, reduceIte, not_true_eq_false, not_false_eq_true, or_true, true_or, s83 hs, e]
  · unfold c132_100
    simp (disch := omega) only [cq_gi, cq_gr, cq_a, cq_s, cq_p, cq_pr, cq_is, cq_ar, cq_ab, cq_ln, xq_nz, Option.bind_some, xup2_n, xup2_s, Int.toNat_natCast, Int.reduceToNat, if_pos, if_neg, true_and, and_true, and_self, eq_self, if_true, reduceIte, not_true_eq_false, not_false_eq_true, or_true, true_or, s83 hs, e, Int.reduceEq]
theorem sw_132f (hs : cSs S) (hx : x < 1000000000) (h3 : G 83 3 = (u : Int)) (hu : 278 < u) (us : S u = (1, 6, 20)) (us2 : S (u + 2) = (2, 3, 8)) (us9 : S (u + 9) = (2, 3, 8)) (w9 : G u 9 = ((u + 2 : Nat) : Int)) (w18 : G u 18 = ((u + 9 : Nat) : Int)) (h8 : G u 8 = (nl : Int)) (h6 : G 83 6 = (st : Int)) (hst : st < nl) (hnl : nl ≤ 8) (hp : G (u + 9) st = (l : Int)) (hl : l < 8) (hk : G (u + 2) l = 15) (h7 : G 83 7 = 1) (e1 : c134 f 83 (l : Int) (S, G, m) = some (S, G1, m)) (h71 : G1 83 7 = 1) : c132_2b r2 f 83 x (S, G, m) = c132_100 r2 f 83 x (l : Int) 83 (S, G1, m) := by
  unfold c132_2b c132_85
  simp (disch := omega) only [cq_gi, cq_gr, cq_a, cq_s, cq_p, cq_pr, cq_is, cq_ar, cq_ab, cq_ln, xq_nz, Option.bind_some, xup2_n, xup2_s, Int.toNat_natCast, Int.reduceToNat, if_pos, if_neg, true_and, and_true, and_self, eq_self, if_true, reduceIte, not_true_eq_false, not_false_eq_true, or_true, true_or, s83 hs, h3, us, us2, us9, w9, w18, h8, h6, hp, hk, h7, e1, h71, Int.reduceEq]
theorem sw_132b (hs : cSs S) (hx : x < 1000000000) (h3 : G 83 3 = (u : Int)) (hu : 278 < u) (us : S u = (1, 6, 20)) (us2 : S (u + 2) = (2, 3, 8)) (us9 : S (u + 9) = (2, 3, 8)) (w9 : G u 9 = ((u + 2 : Nat) : Int)) (w18 : G u 18 = ((u + 9 : Nat) : Int)) (h8 : G u 8 = (nl : Int)) (h6 : G 83 6 = (st : Int)) (hst : st < nl) (hnl : nl ≤ 8) (hp : G (u + 9) st = (l : Int)) (hl : l < 8) (hk : G (u + 2) l = 15) (h7 : G 83 7 = 0) (e1 : c133 f 83 (S, G, m) = some (w, (S, G, m))) : c132_2b r2 f 83 x (S, G, m) = if w = 0 then c132_113 r2 f 83 x 0 83 (S, G, m) else c132_100 r2 f 83 x (l : Int) 83 (S, G, m) := by
  by_cases q : w = 0
  · rw [if_pos q]
    unfold c132_2b c132_85 c132_112
    simp (disch := omega) only [cq_gi, cq_gr, cq_a, cq_s, cq_p, cq_pr, cq_is, cq_ar, cq_ab, cq_ln, xq_nz, Option.bind_some, xup2_n, xup2_s, Int.toNat_natCast, Int.reduceToNat, if_pos, if_neg, true_and, and_true, and_self, eq_self, if_true, reduceIte, not_true_eq_false, not_false_eq_true, or_true, true_or, s83 hs, h3, us, us2, us9, w9, w18, h8, h6, hp, hk, h7, e1, q]
  · rw [if_neg q]
    unfold c132_2b c132_85
    simp (disch := omega) only [cq_gi, cq_gr, cq_a, cq_s, cq_p, cq_pr, cq_is, cq_ar, cq_ab, cq_ln, xq_nz, Option.bind_some, xup2_n, xup2_s, Int.toNat_natCast, Int.reduceToNat, if_pos, if_neg, true_and, and_true, and_self, eq_self, if_true, reduceIte, not_true_eq_false, not_false_eq_true, or_true, true_or, s83 hs, h3, us, us2, us9, w9, w18, h8, h6, hp, hk, h7, e1, q]
theorem sw_132c (hs : cSs S) (hpp : cPs G) (hx : x < 1000000000) (h3 : G 83 3 = (u : Int)) (hu : 278 < u) (us : S u = (1, 6, 20)) (us2 : S (u + 2) = (2, 3, 8)) (us9 : S (u + 9) = (2, 3, 8)) (w9 : G u 9 = ((u + 2 : Nat) : Int)) (w18 : G u 18 = ((u + 9 : Nat) : Int)) (h8 : G u 8 = (nl : Int)) (h6 : G 83 6 = (st : Int)) (hst : st < nl) (hnl : nl ≤ 8) (hp : G (u + 9) st = (l : Int)) (hl : l < 8) (hk : G (u + 2) l = kd) (hkd : kd ≠ 15) (hb : G 87 st = (b : Int)) (es : xwr ((st : Int) + 1) = ((st + 1 : Nat) : Int)) (h7 : G 83 7 = 0) : c132_2b r2 f 83 x (S, G, m) = c132_185 r2 f 83 x 0 83 (S, xup2 G 87 (st + 1) (b : Int), m) := by
  unfold c132_2b c132_184
  simp (disch := omega) only [cq_gi, cq_gr, cq_a, cq_s, cq_p, cq_pr, cq_is, cq_ar, cq_ab, cq_ln, xq_nz, Option.bind_some, xup2_n, xup2_s, Int.toNat_natCast, Int.reduceToNat, if_pos, if_neg, true_and, and_true, and_self, eq_self, if_true, reduceIte, not_true_eq_false, not_false_eq_true, or_true, true_or, s83 hs, s87 hs, p83_8 hpp, h3, us, us2, us9, w9, w18, h8, h6, hp, hk, hkd, hb, es, h7]
theorem sw_132n (hs : cSs S) (hpp : cPs G) (hx : x < 1000000000) (h3 : G 83 3 = (u : Int)) (hu : 278 < u) (us : S u = (1, 6, 20)) (us2 : S (u + 2) = (2, 3, 8)) (us9 : S (u + 9) = (2, 3, 8)) (w9 : G u 9 = ((u + 2 : Nat) : Int)) (w18 : G u 18 = ((u + 9 : Nat) : Int)) (h8 : G u 8 = (nl : Int)) (h6 : G 83 6 = (st : Int)) (hst : st < nl) (hnl : nl ≤ 8) (hp : G (u + 9) st = (l : Int)) (hl : l < 8) (hk : G (u + 2) l = 9) (hb : G 87 st = (b : Int)) (es : xwr ((st : Int) + 1) = ((st + 1 : Nat) : Int)) (h7 : G 83 7 = 1) (e : c138 f 83 (l : Int) (S, xup2 G 87 (st + 1) (b : Int), m) = some (w, (S, G1, m))) (hw : w = 0 ∨ w = 1) : c132_2b r2 f 83 x (S, G, m) = c132_185 r2 f 83 x w 83 (S, G1, m) := by
  rcases hw with rfl | rfl
  · unfold c132_2b c132_184
    simp (disch := omega) only [cq_gi, cq_gr, cq_a, cq_s, cq_p, cq_pr, cq_is, cq_ar, cq_ab, cq_ln, xq_nz, Option.bind_some, xup2_n, xup2_s, Int.toNat_natCast, Int.reduceToNat, if_pos, if_neg, true_and, and_true, and_self, eq_self, if_true, reduceIte, not_true_eq_false, not_false_eq_true, or_true, true_or, s83 hs, s87 hs, p83_8 hpp, h3, us, us2, us9, w9, w18, h8, h6, hp, hk, hb, es, h7, e, Int.reduceEq]
  · unfold c132_2b c132_180
    simp (disch := omega) only [cq_gi, cq_gr, cq_a, cq_s, cq_p, cq_pr, cq_is, cq_ar, cq_ab, cq_ln, xq_nz, Option.bind_some, xup2_n, xup2_s, Int.toNat_natCast, Int.reduceToNat, if_pos, if_neg, true_and, and_true, and_self, eq_self, if_true, reduceIte, not_true_eq_false, not_false_eq_true, or_true, true_or, s83 hs, s87 hs, p83_8 hpp, h3, us, us2, us9, w9, w18, h8, h6, hp, hk, hb, es, h7, e, Int.reduceEq]
theorem sw_132m (hs : cSs S) (hpp : cPs G) (hx : x < 1000000000) (h3 : G 83 3 = (u : Int)) (hu : 278 < u) (us : S u = (1, 6, 20)) (us2 : S (u + 2) = (2, 3, 8)) (us9 : S (u + 9) = (2, 3, 8)) (w9 : G u 9 = ((u + 2 : Nat) : Int)) (w18 : G u 18 = ((u + 9 : Nat) : Int)) (h8 : G u 8 = (nl : Int)) (h6 : G 83 6 = (st : Int)) (hst : st < nl) (hnl : nl ≤ 8) (hp : G (u + 9) st = (l : Int)) (hl : l < 8) (hk : G (u + 2) l = kd) (hkd : kd ≠ 15) (hkd2 : kd ≠ 9) (hb : G 87 st = (b : Int)) (es : xwr ((st : Int) + 1) = ((st + 1 : Nat) : Int)) (h7 : G 83 7 = 1) (e : c139 f 83 (l : Int) (S, xup2 G 87 (st + 1) (b : Int), m) = some (w, (S, G1, m))) (hw : w = 0 ∨ w = 1) : c132_2b r2 f 83 x (S, G, m) = c132_185 r2 f 83 x w 83 (S, G1, m) := by
  rcases hw with rfl | rfl
  · unfold c132_2b c132_184
    simp (disch := omega) only [cq_gi, cq_gr, cq_a, cq_s, cq_p, cq_pr, cq_is, cq_ar, cq_ab, cq_ln, xq_nz, Option.bind_some, xup2_n, xup2_s, Int.toNat_natCast, Int.reduceToNat, if_pos, if_neg, true_and, and_true, and_self, eq_self, if_true, reduceIte, not_true_eq_false, not_false_eq_true, or_true, true_or, s83 hs, s87 hs, p83_8 hpp, h3, us, us2, us9, w9, w18, h8, h6, hp, hk, hkd, hkd2, hb, es, h7, e, Int.reduceEq]
  · unfold c132_2b c132_180
    simp (disch := omega) only [cq_gi, cq_gr, cq_a, cq_s, cq_p, cq_pr, cq_is, cq_ar, cq_ab, cq_ln, xq_nz, Option.bind_some, xup2_n, xup2_s, Int.toNat_natCast, Int.reduceToNat, if_pos, if_neg, true_and, and_true, and_self, eq_self, if_true, reduceIte, not_true_eq_false, not_false_eq_true, or_true, true_or, s83 hs, s87 hs, p83_8 hpp, h3, us, us2, us9, w9, w18, h8, h6, hp, hk, hkd, hkd2, hb, es, h7, e, Int.reduceEq]
end
end
section
/-! THE CLASS: next(): where it stands -/
def lvE (G : xG_) (k b : Nat) (vl : Nat → Int) : Prop := G 87 k = (b : Int) ∧ b < 2 ^ 8 ∧ cVl G b vl
def mkP (Ls : List pLt) : List Nat → Nat → Nat
  | [], b => b
  | p :: pr, b => mkP Ls pr (b ||| qLv (Ls.getD p dLt))
/-- what is left of the choices of step n -/
def rmD (Ls : List pLt) (a : Nat) (br : Int) (R : Nat → List pRw) (lo hi : Nat → Int) (G : xG_) (n l : Nat) (pr : List Nat) (b : Nat) (vl : Nat → Int) (D : List (Nat → Int)) : Prop :=
  ((Ls.getD l dLt).1 = 1 ∧ G 87 (n + 1) = ((b ||| qLv (Ls.getD l dLt) : Nat) : Int) ∧ ∃ (fi la cu : Nat) (D0 : List (Nat × (Nat → Int))), G 88 n = (fi : Int) ∧ G 90 n = (la : Int) ∧ G 89 n = (cu : Int) ∧ cu ≤ (R (Ls.getD l dLt).2.1.toNat).length ∧ isRn (R (Ls.getD l dLt).2.1.toNat) (Ls.getD l dLt).2.2.2.1 b vl fi la ∧ chD (Ls.getD l dLt).2.2.2.1 (lo l) (hi l) (R (Ls.getD l dLt).2.1.toNat) b vl br cu D0 ∧ (mre Ls a br (Ls.getD l dLt) pr b → D = D0.map (·.2)) ∧ (¬ mre Ls a br (Ls.getD l dLt) pr b → D = [])) ∨ ((Ls.getD l dLt).1 ≠ 1 ∧ D = [])
/-- what is left behind n steps -/
def bkE (Ls : List pLt) (pl : List Nat) (a : Nat) (br : Int) (R : Nat → List pRw) (lo hi : Nat → Int) (G : xG_) : Nat → Nat → List (Nat → Int) → Nat → Prop
  | 0, _, V, k => V = [] ∧ k = 0
  | n + 1, B, V, k => ∃ (b : Nat) (vl : Nat → Int) (D V1 : List (Nat → Int)) (k1 : Nat) (V2 : List (Nat → Int)) (k2 : Nat), n < pl.length ∧ lvE G n b vl ∧ B = b ||| qLv (Ls.getD (pl.getD n 0) dLt) ∧ B < 2 ^ 8 ∧ okP Ls (pl.drop n) b ∧ rmD Ls a br R lo hi G n (pl.getD n 0) (pl.drop (n + 1)) b vl D ∧ wyS (fun v => wyE Ls a br R lo hi (pl.drop (n + 1)) B v) D V1 k1 ∧ bkE Ls pl a br R lo hi G n b V2 k2 ∧ V = V1 ++ V2 ∧ k = 1 + k1 + k2
/-- where next() stands: V are the WAYS that are still to come -/
def wSt8 (Ls : List pLt) (pl : List Nat) (a : Nat) (br : Int) (R : Nat → List pRw) (lo hi : Nat → Int) (G : xG_) (Bf : Nat) (V : List (Nat → Int)) (k : Nat) : Prop :=
  (∃ (st b : Nat) (vl : Nat → Int) (V1 : List (Nat → Int)) (k1 : Nat) (V2 : List (Nat → Int)) (k2 : Nat), st ≤ pl.length ∧ G 83 6 = (st : Int) ∧ G 83 7 = 1 ∧ lvE G st b vl ∧ okP Ls (pl.drop st) b ∧ mkP Ls (pl.drop st) b = Bf ∧ wyE Ls a br R lo hi (pl.drop st) b vl V1 k1 ∧ bkE Ls pl a br R lo hi G st b V2 k2 ∧ V = V1 ++ V2 ∧ k = k1 + k2) ∨
  (∃ n B : Nat, n ≤ pl.length ∧ G 83 6 = (n : Int) - 1 ∧ G 83 7 = 0 ∧ mkP Ls (pl.drop n) B = Bf ∧ bkE Ls pl a br R lo hi G n B V k)
section
variable {Ls : List pLt} {pl : List Nat} {a : Nat} {br : Int} {R : Nat → List pRw} {lo hi : Nat → Int} {G G' : xG_}
theorem lvE.ge {k b : Nat} {vl : Nat → Int} (h : lvE G k b vl) (h1 : G' 87 k = G 87 k) (h2 : ∀ j, b.testBit j = true → G' 84 j = G 84 j) : lvE G' k b vl := ⟨by rw [h1]; exact h.1, h.2.1, fun j hj => by rw [h2 j hj]; exact h.2.2 j hj⟩
theorem bkE.ge : ∀ (n B : Nat) (V : List (Nat → Int)) (k : Nat), (∀ a j, 87 ≤ a → a ≤ 90 → j < n → G' a j = G a j) → G' 87 n = G 87 n → (∀ j, B.testBit j = true → G' 84 j = G 84 j) → bkE Ls pl a br R lo hi G n B V k → bkE Ls pl a br R lo hi G' n B V k
  | 0, _, _, _, _, _, _, h => h
  | n + 1, B, V, k, h1, h2, h3, h => by
    obtain ⟨b, vl, D, V1, k1, V2, k2, a1, a2, a3, a4, a5, a6, a7, a8, a9, a10⟩ := h
    have hb : ∀ j, b.testBit j = true → G' 84 j = G 84 j := fun j hj => h3 j (by rw [a3, Nat.testBit_or, hj]; rfl)
    refine ⟨b, vl, D, V1, k1, V2, k2, a1, a2.ge (h1 _ _ (by omega) (by omega) (by omega)) hb, a3, a4, a5, ?_, a7, bkE.ge n b V2 k2 (fun a j y1 y2 y3 => h1 a j y1 y2 (by omega)) (h1 _ _ (by omega) (by omega) (by omega)) hb a8, a9, a10⟩
    rcases a6 with ⟨c1, c2, fi, la, cu, D0, c3, c4, c5, c6⟩ | c
    · exact .inl ⟨c1, by rw [h2]; exact c2, fi, la, cu, D0, by rw [h1 _ _ (by omega) (by omega) (by omega)]; exact c3, by rw [h1 _ _ (by omega) (by omega) (by omega)]; exact c4, by rw [h1 _ _ (by omega) (by omega) (by omega)]; exact c5, c6⟩
    · exact .inr c
theorem wSt8.ge {Bf : Nat} {V : List (Nat → Int)} {k : Nat} (h : wSt8 Ls pl a br R lo hi G Bf V k) (hf : ∀ a j, 83 ≤ a → a ≤ 92 → G' a j = G a j) : wSt8 Ls pl a br R lo hi G' Bf V k := by
  rcases h with ⟨st, b, vl, V1, k1, V2, k2, a1, a2, a3, a4, a5, a6, a7, a8, a9, a10⟩ | ⟨n, B, a1, a2, a3, a4, a5⟩
  · exact .inl ⟨st, b, vl, V1, k1, V2, k2, a1, by rw [hf _ _ (by omega) (by omega)]; exact a2, by rw [hf _ _ (by omega) (by omega)]; exact a3, a4.ge (hf _ _ (by omega) (by omega)) (fun j _ => hf _ _ (by omega) (by omega)), a5, a6, a7, a8.ge _ _ _ _ (fun a j _ _ _ => hf _ _ (by omega) (by omega)) (hf _ _ (by omega) (by omega)) (fun j _ => hf _ _ (by omega) (by omega)), a9, a10⟩
  · exact .inr ⟨n, B, a1, by rw [hf _ _ (by omega) (by omega)]; exact a2, by rw [hf _ _ (by omega) (by omega)]; exact a3, a4, a5.ge _ _ _ _ (fun a j _ _ _ => hf _ _ (by omega) (by omega)) (hf _ _ (by omega) (by omega)) (fun j _ => hf _ _ (by omega) (by omega))⟩
theorem fit_ok {T : pCd} {l h : Int} {b nv : Nat} {v : Nat → Int} {r : pRw} (hT : ∀ y ∈ T, wT1 nv y) (hl : T.length ≤ r.1.length) (hv : ∀ k, b.testBit k = true → vOk (v k)) (hr : ∀ x ∈ r.1, vOk x) {b' : Nat} {v' : Nat → Int} (hf : fitR T l h b v r = some (b', v')) : ∀ k, b'.testBit k = true → vOk (v' k) := by
  unfold fitR at hf
  split at hf
  · obtain ⟨m1, m2, m3, m4⟩ := mtc_ok T r.1 b v b' v' hT hl hf
    intro k hk
    by_cases c : b.testBit k = true
    · rw [m2 k c]; exact hv k c
    · rw [m1, Nat.testBit_or] at hk
      have hq : (qT T).testBit k = true := by
        cases hb : b.testBit k with
        | true => exact absurd hb c
        | false => rw [hb, Bool.false_or] at hk; exact hk
      obtain ⟨j, j1, j2, j3⟩ := qT_get.mp hq
      rw [← j3, (m3 j j1).1 j2]
      have hj : j < r.1.length := by omega
      rw [getD_e hj]
      exact hr _ (List.getElem_mem hj)
  · cases hf
theorem cmpV_b {y : pLt} {b b' : Nat} {vl v' : Nat → Int} (h3 : y.1 = 3) (hq : qBh y b ≠ none) (h : cmpV y b vl = some (b', v')) : b' = b ||| qLv y := by
  have hlv : qLv y = qVm y.2.2.2.2.1 ||| qVm y.2.2.2.2.2 := by unfold qLv; rw [if_pos h3]
  have hq' : qSub (qLv y) b ∨ (y.2.1 = 61 ∧ (qAl2 y.2.2.2.2.1 ∧ qSub (qVm y.2.2.2.2.2) b ∨ qAl2 y.2.2.2.2.2 ∧ qSub (qVm y.2.2.2.2.1) b)) := by
    unfold qBh at hq
    by_cases c : y.1 = 1 ∨ qSub (qLv y) b
    · rcases c with c | c
      · omega
      · exact .inl c
    · rw [if_neg c] at hq
      by_cases c2 : y.1 = 3 ∧ y.2.1 = 61 ∧ (qAl2 y.2.2.2.2.1 ∧ qSub (qVm y.2.2.2.2.2) b ∨ qAl2 y.2.2.2.2.2 ∧ qSub (qVm y.2.2.2.2.1) b)
      · exact .inr ⟨c2.2.1, c2.2.2⟩
      · rw [if_neg c2] at hq
        exact absurd rfl hq
  have vm : ∀ {E : pCd}, qAl2 E → qVm E = 2 ^ (E.getD 0 (0, 0)).2.toNat := fun {E} hE => by
    obtain ⟨z, rfl⟩ : ∃ z, E = [z] := by
      match E, hE.1 with
      | [z], _ => exact ⟨z, rfl⟩
    show (if z.1 = 2 then 2 ^ z.2.toNat else 0) ||| 0 = _
    have : z.1 = 2 := hE.2
    rw [if_pos this, Nat.or_zero]; rfl
  have nsub : ∀ {E : pCd}, qAl2 E → b.testBit (E.getD 0 (0, 0)).2.toNat = false → ¬ qSub (qVm E) b := fun hE hb hs => by
    have := qSub_t.mp hs (_) (by rw [vm hE]; exact Nat.testBit_two_pow_self)
    rw [hb] at this; cases this
  unfold cmpV at h
  split at h
  · rename_i c
    cases ho : qEv vl y.2.2.2.2.2 with
    | none => rw [ho] at h; cases h
    | some z =>
      rw [ho] at h
      injection h with h
      injection h with h _
      have hR : qSub (qVm y.2.2.2.2.2) b := by
        rcases hq' with q | ⟨_, ⟨_, q⟩ | ⟨_, q⟩⟩
        · rw [hlv] at q; exact (qSub_or q).2
        · exact q
        · exact absurd q (nsub c.2.1 c.2.2)
      rw [← h, hlv, vm c.2.1]
      refine Nat.eq_of_testBit_eq (fun j => ?_)
      simp only [Nat.testBit_or]
      cases hj : (qVm y.2.2.2.2.2).testBit j with
      | false => rw [Bool.or_false]
      | true => rw [qSub_t.mp hR j hj]; rfl
  · rename_i n1
    split at h
    · rename_i c
      cases ho : qEv vl y.2.2.2.2.1 with
      | none => rw [ho] at h; cases h
      | some z =>
        rw [ho] at h
        injection h with h
        injection h with h _
        have hL : qSub (qVm y.2.2.2.2.1) b := by
          rcases hq' with q | ⟨_, ⟨_, q⟩ | ⟨_, q⟩⟩
          · rw [hlv] at q; exact (qSub_or q).1
          · exact absurd q (nsub c.2.1 c.2.2)
          · exact q
        rw [← h, hlv, vm c.2.1]
        refine Nat.eq_of_testBit_eq (fun j => ?_)
        simp only [Nat.testBit_or]
        cases hj : (qVm y.2.2.2.2.1).testBit j with
        | false => rw [Bool.false_or]
        | true => rw [qSub_t.mp hL j hj]; rfl
    · rename_i n2
      have hs : qSub (qVm y.2.2.2.2.1) b ∧ qSub (qVm y.2.2.2.2.2) b := by
        rcases hq' with q | ⟨e, ⟨q, q'⟩ | ⟨q, q'⟩⟩
        · rw [hlv] at q; exact qSub_or q
        · refine ⟨?_, q'⟩
          rw [vm q]
          refine qSub_t.mpr (fun j hj => ?_)
          rw [Nat.testBit_two_pow] at hj
          rw [← of_decide_eq_true hj]
          cases hb : b.testBit (y.2.2.2.2.1.getD 0 (0, 0)).2.toNat with
          | true => rfl
          | false => exact absurd ⟨e, q, hb⟩ n1
        · refine ⟨q', ?_⟩
          rw [vm q]
          refine qSub_t.mpr (fun j hj => ?_)
          rw [Nat.testBit_two_pow] at hj
          rw [← of_decide_eq_true hj]
          cases hb : b.testBit (y.2.2.2.2.2.getD 0 (0, 0)).2.toNat with
          | true => rfl
          | false => exact absurd ⟨e, q, hb⟩ n2
      have hbb : b' = b := by
        cases o1 : qEv vl y.2.2.2.2.1 with
        | none => rw [o1] at h; cases h
        | some x1 =>
          cases o2 : qEv vl y.2.2.2.2.2 with
          | none => rw [o1, o2] at h; cases h
          | some x2 =>
            rw [o1, o2] at h
            have h' : (if cmB y.2.1 x1 x2 = 1 then some (b, vl) else none) = some (b', v') := h
            split at h'
            · injection h' with h'
              injection h' with h' _
              exact h'.symm
            · cases h'
      rw [hbb, hlv]
      refine Nat.eq_of_testBit_eq (fun j => ?_)
      simp only [Nat.testBit_or]
      cases hj : b.testBit j with
      | true => rfl
      | false =>
        have z1 : (qVm y.2.2.2.2.1).testBit j = false := by
          cases hz : (qVm y.2.2.2.2.1).testBit j with
          | false => rfl
          | true => rw [qSub_t.mp hs.1 j hz] at hj; cases hj
        have z2 : (qVm y.2.2.2.2.2).testBit j = false := by
          cases hz : (qVm y.2.2.2.2.2).testBit j with
          | false => rfl
          | true => rw [qSub_t.mp hs.2 j hz] at hj; cases hj
        rw [z1, z2]; rfl
end
end
section
/-! THE CLASS: next(), one step -/
section
variable {f u fa fn np nv a : Nat} {S : Nat → Nat × Nat × Nat} {G : xG_} {m : Nat × Nat} {K : pCd} {Ls : List pLt} {pl : List Nat} {br : Int} {qn xp cp : Nat → Nat} {R : Nat → List pRw} {lo hi : Nat → Int} {r2 : Nat → Int → xT_ → Option (Int × xT_)} {x : Int} {Bf : Nat}
/-- one step more, or a WAY, or the end -/
def nxS (Ls : List pLt) (pl : List Nat) (a : Nat) (br : Int) (R : Nat → List pRw) (lo hi : Nat → Int) (Bf : Nat) (G : xG_) (V : List (Nat → Int)) (k : Nat) (S : Nat → Nat × Nat × Nat) (m : Nat × Nat) (e : Option (Int × xT_)) (nx : xT_ → Option (Int × xT_)) : Prop :=
  (∃ G' k', e = nx (S, G', m) ∧ xWf G G' ∧ k' < k ∧ wSt8 Ls pl a br R lo hi G' Bf V k') ∨
  (∃ G' v V' k', e = some (1, (S, G', m)) ∧ xWf G G' ∧ V = v :: V' ∧ k' < k ∧ wSt8 Ls pl a br R lo hi G' Bf V' k' ∧ cVl G' Bf v) ∨
  (e = some (0, (S, G, m)) ∧ V = [])
theorem xWf.c {G1 G2 : xG_} {w s : Int} (h : xWf G G1) (h2 : ∀ a j, ¬ (a = 83 ∧ (j = 6 ∨ j = 7)) → G2 a j = G1 a j) : xWf G G2 := fun a j y1 y2 y3 => by rw [h2 a j y3, h a j y1 y2 y3]
theorem up67 {w s : Int} {a j : Nat} (h : ¬ (a = 83 ∧ (j = 6 ∨ j = 7))) : xup2 (xup2 G 83 7 w) 83 6 s a j = G a j := by rw [xup2_n (by omega), xup2_n (by omega)]
/-- back one step -/
theorem bk_back {G2 : xG_} {n b : Nat} {V : List (Nat → Int)} {k : Nat} (hn : n ≤ pl.length) (hmk : mkP Ls (pl.drop n) b = Bf) (hk : bkE Ls pl a br R lo hi G n b V k) (h1 : ∀ a j, 87 ≤ a → a ≤ 90 → j < n → G2 a j = G a j) (h2 : G2 87 n = G 87 n) (h3 : ∀ j, b.testBit j = true → G2 84 j = G 84 j) : wSt8 Ls pl a br R lo hi (xup2 (xup2 G2 83 7 0) 83 6 ((n : Int) - 1)) Bf V k := .inr ⟨n, b, hn, xup2_s _ _ _ _, by rw [xup2_n (by omega), xup2_s], hmk, hk.ge _ _ _ _ (fun a j y1 y2 y3 => by rw [up67 (by omega), h1 a j y1 y2 y3]) (by rw [up67 (by omega), h2]) (fun j hj => by rw [up67 (by omega), h3 j hj])⟩
/-- on to the next step -/
theorem bk_on {G2 : xG_} {n b B : Nat} {vl v : Nat → Int} {D V1 Va V2 : List (Nat → Int)} {k1 ka k2 : Nat} (hn : n < pl.length) (hlv : lvE G n b vl) (hB : B = b ||| qLv (Ls.getD (pl.getD n 0) dLt)) (hB8 : B < 2 ^ 8) (hok : okP Ls (pl.drop n) b) (hmk : mkP Ls (pl.drop (n + 1)) B = Bf) (hr : rmD Ls a br R lo hi G2 n (pl.getD n 0) (pl.drop (n + 1)) b vl D) (hs : wyS (fun v => wyE Ls a br R lo hi (pl.drop (n + 1)) B v) D V1 k1) (hw : wyE Ls a br R lo hi (pl.drop (n + 1)) B v Va ka) (hk : bkE Ls pl a br R lo hi G n b V2 k2) (h1 : ∀ a j, 87 ≤ a → a ≤ 90 → j < n → G2 a j = G a j) (h2 : G2 87 n = G 87 n) (h3 : ∀ j, b.testBit j = true → G2 84 j = G 84 j) (hlv2 : lvE G2 (n + 1) B v) : wSt8 Ls pl a br R lo hi (xup2 (xup2 G2 83 7 1) 83 6 ((n : Int) + 1)) Bf (Va ++ (V1 ++ V2)) (ka + (1 + k1 + k2)) := by
  have ed : pl.drop n = pl.getD n 0 :: pl.drop (n + 1) := by rw [getD_e hn]; exact List.drop_eq_getElem_cons hn
  have hok2 : okP Ls (pl.drop (n + 1)) B := by
    rw [ed] at hok
    rw [hB]; exact hok.2
  have z : ∀ {a j : Nat}, ¬ (a = 83 ∧ (j = 6 ∨ j = 7)) → xup2 (xup2 G2 83 7 1) 83 6 ((n : Int) + 1) a j = G2 a j := fun h => up67 h
  refine .inl ⟨n + 1, B, v, Va, ka, V1 ++ V2, 1 + k1 + k2, by omega, by rw [xup2_s]; omega, by rw [xup2_n (by omega), xup2_s], hlv2.ge (z (by omega)) (fun j _ => z (by omega)), hok2, hmk, hw, ⟨b, vl, D, V1, k1, V2, k2, hn, hlv.ge (by rw [z (by omega), h2]) (fun j hj => by rw [z (by omega), h3 j hj]), hB, hB8, hok, ?_, hs, hk.ge _ _ _ _ (fun a j y1 y2 y3 => by rw [z (by omega), h1 a j y1 y2 y3]) (by rw [z (by omega), h2]) (fun j hj => by rw [z (by omega), h3 j hj]), rfl, rfl⟩, rfl, rfl⟩
  rcases hr with ⟨c1, c2, fi, la, cu, D0, c3, c4, c5, c6⟩ | c
  · exact .inl ⟨c1, by rw [z (by omega)]; exact c2, fi, la, cu, D0, by rw [z (by omega)]; exact c3, by rw [z (by omega)]; exact c4, by rw [z (by omega)]; exact c5, c6⟩
  · exact .inr c
theorem wyS_c {P : (Nat → Int) → List (Nat → Int) → Nat → Prop} {v : Nat → Int} {D V : List (Nat → Int)} {k : Nat} (h : wyS P (v :: D) V k) : ∃ V1 k1 V2 k2, P v V1 k1 ∧ wyS P D V2 k2 ∧ V = V1 ++ V2 ∧ k = k1 + 1 + k2 := h
theorem wyS_n {P : (Nat → Int) → List (Nat → Int) → Nat → Prop} {V : List (Nat → Int)} {k : Nat} (h : wyS P [] V k) : V = [] ∧ k = 0 := h
theorem qT_lv {y : pLt} (h : y.1 ≠ 3) : qLv y = qT y.2.2.2.1 := by unfold qLv; rw [if_neg h]
/-- the plan's LITERAL at step n -/
theorem cWE.at (h : cWE S G u K Ls pl fa fn np nv a br qn xp cp R lo hi) {n : Nat} (hn : n < pl.length) : n < Ls.length ∧ Ls.length ≤ 8 ∧ pl.getD n 0 < Ls.length ∧ G (u + 9) n = ((pl.getD n 0 : Nat) : Int) ∧ G u 8 = (Ls.length : Int) ∧ ((Ls.getD (pl.getD n 0) dLt).1 = 1 ∧ G (u + 2) (pl.getD n 0) = 15 ∨ (Ls.getD (pl.getD n 0) dLt).1 = 2 ∧ G (u + 2) (pl.getD n 0) = 9 ∨ (Ls.getD (pl.getD n 0) dLt).1 = 3 ∧ G (u + 2) (pl.getD n 0) ≠ 15 ∧ G (u + 2) (pl.getD n 0) ≠ 9) := by
  obtain ⟨_, b1, _, ⟨d1, d2⟩, _, _⟩ := h
  have hls := b1.2.2.2.1
  have hn' : n < Ls.length := by omega
  obtain ⟨e1, e2, e3, e4⟩ := d2 n hn'
  refine ⟨hn', hls.2.1, e2, e1, hls.1, ?_⟩
  rcases hls.2.2 _ e2 with ⟨z1, z2, _⟩ | ⟨z1, z2, z3, _⟩
  · have z1' : (Ls.getD (pl.getD n 0) dLt).1 = 1 ∨ (Ls.getD (pl.getD n 0) dLt).1 = 2 := z1
    have z2' : G (u + 2) (pl.getD n 0) = (if (Ls.getD (pl.getD n 0) dLt).1 = 1 then 15 else 9) := z2
    rcases z1' with q | q
    · rw [if_pos q] at z2'; exact .inl ⟨q, z2'⟩
    · rw [if_neg (by omega)] at z2'; exact .inr (.inl ⟨q, z2'⟩)
  · have z2' : G (u + 2) (pl.getD n 0) = (Ls.getD (pl.getD n 0) dLt).2.1 := z2
    have z3' : (Ls.getD (pl.getD n 0) dLt).2.1 = 61 ∨ (Ls.getD (pl.getD n 0) dLt).2.1 = 257 ∨ (Ls.getD (pl.getD n 0) dLt).2.1 = 60 ∨ (Ls.getD (pl.getD n 0) dLt).2.1 = 258 ∨ (Ls.getD (pl.getD n 0) dLt).2.1 = 62 ∨ (Ls.getD (pl.getD n 0) dLt).2.1 = 259 := z3
    exact .inr (.inr ⟨z1, by omega, by omega⟩)
theorem nl_eq (h : cWE S G u K Ls pl fa fn np nv a br qn xp cp R lo hi) : pl.length = Ls.length := h.2.2.2.1.1
end
end
section
/-! THE CLASS: next(), a step ahead -/
section
variable {f u fa fn np nv a st b : Nat} {S : Nat → Nat × Nat × Nat} {G : xG_} {m : Nat × Nat} {K : pCd} {Ls : List pLt} {pl : List Nat} {br : Int} {qn xp cp : Nat → Nat} {R : Nat → List pRw} {lo hi : Nat → Int} {r2 : Nat → Int → xT_ → Option (Int × xT_)} {x : Int} {Bf : Nat} {vl : Nat → Int} {V V1 V2 : List (Nat → Int)} {k k1 k2 : Nat}
theorem mk_on (hn : st < pl.length) (hmk : mkP Ls (pl.drop st) b = Bf) : mkP Ls (pl.drop (st + 1)) (b ||| qLv (Ls.getD (pl.getD st 0) dLt)) = Bf := by
  have ed : pl.drop st = pl.getD st 0 :: pl.drop (st + 1) := by rw [getD_e hn]; exact List.drop_eq_getElem_cons hn
  rw [ed] at hmk
  exact hmk
theorem nx_fl (hx : 0 ≤ x ∧ x < 1000000000) (h : cWE S G u K Ls pl fa fn np nv a br qn xp cp R lo hi) (h6 : G 83 6 = (pl.length : Int)) (h7 : G 83 7 = 1) (hlv : lvE G pl.length b vl) (hmk : mkP Ls (pl.drop pl.length) b = Bf) (hw : wyE Ls a br R lo hi (pl.drop pl.length) b vl V1 k1) (hk : bkE Ls pl a br R lo hi G pl.length b V2 k2) : nxS Ls pl a br R lo hi Bf G (V1 ++ V2) (k1 + k2) S m (c132_2b r2 f 83 x (S, G, m)) (r2 83 (x + 1)) := by
  have hW := h.wy
  have hls := h.2.1.2.2.2.1
  have hl8 := hls.2.1
  have hnl := nl_eq h
  have hd : pl.drop pl.length = [] := List.drop_length
  rw [hd] at hmk hw
  obtain ⟨w1, w2⟩ : V1 = [vl] ∧ k1 = 1 := hw
  have hmk' : b = Bf := hmk
  rw [hnl] at h6
  have e := sw_132l (r2 := r2) (f := f) (m := m) (x := x) hW.1 hx.2 hW.2.2.1 hW.2.2.2.1 hW.2.2.2.2.1.1 hls.1 h6 (by rw [xwr_g _ (by omega) (by omega)])
  have z : ∀ {a j : Nat}, ¬ (a = 83 ∧ (j = 6 ∨ j = 7)) → xup2 (xup2 G 83 6 ((Ls.length : Int) - 1)) 83 7 0 a j = G a j := fun h => by rw [xup2_n (by omega), xup2_n (by omega)]
  refine .inr (.inl ⟨_, vl, V2, k2, e, fun a j _ _ y3 => z y3, by rw [w1]; rfl, by omega, .inr ⟨pl.length, b, Nat.le_refl _, by rw [xup2_n (by omega), xup2_s, hnl], xup2_s _ _ _ _, by rw [hd]; exact hmk, hk.ge _ _ _ _ (fun a j y1 y2 y3 => z (by omega)) (z (by omega)) (fun j hj => z (by omega))⟩, ?_⟩)
  rw [← hmk']
  exact hlv.2.2.ge (fun j => z (by omega))
theorem nx_fa (hf : 3010 < f) (hx : 0 ≤ x ∧ x < 1000000000) (h : cWE S G u K Ls pl fa fn np nv a br qn xp cp R lo hi) (hn : st < pl.length) (h6 : G 83 6 = (st : Int)) (h7 : G 83 7 = 1) (hlv : lvE G st b vl) (hok : okP Ls (pl.drop st) b) (hmk : mkP Ls (pl.drop st) b = Bf) (hw : wyE Ls a br R lo hi (pl.drop st) b vl V1 k1) (hk : bkE Ls pl a br R lo hi G st b V2 k2) (hy : (Ls.getD (pl.getD st 0) dLt).1 = 1) (hkd : G (u + 2) (pl.getD st 0) = 15) : nxS Ls pl a br R lo hi Bf G (V1 ++ V2) (k1 + k2) S m (c132_2b r2 f 83 x (S, G, m)) (r2 83 (x + 1)) := by
  have hW := h.wy
  obtain ⟨hn', hl8, hl, hp9, h8, _⟩ := h.at hn
  have hu := hW.2.2.2.1
  have ed : pl.drop st = pl.getD st 0 :: pl.drop (st + 1) := by rw [getD_e hn]; exact List.drop_eq_getElem_cons hn
  obtain ⟨p, p1, p2, p3, p4, p5, p6, p7⟩ := h.lv hl (by omega) h6 (by omega) hlv.1 hlv.2.1
  have hpp : (Ls.getD (pl.getD st 0) dLt).2.1.toNat = p := by rw [p2]; rfl
  have hT := p3.2.2.2.2.2.1
  have hTW := p3.2.2.2.2.1
  have hRw := p3.2.2.1
  have lT : ∀ j, j < (R p).length → ((R p).getD j dRw).1.length = (Ls.getD (pl.getD st 0) dLt).2.2.2.1.length := fun j hj => by rw [(hRw.2.2.2.2.2.2.2 j hj).1, hTW]
  have hv : ∀ k, b.testBit k = true → G 84 k = vl k := fun k hk => (hlv.2.2 k hk).2.1
  obtain ⟨G1, fi, la, g1, g2, g3, g4, g5, g6, g7⟩ := k_134 (f := f) (m := m) (by omega) p3 p4 p5 hv
  have wf1 : xWf G G1 := fun a j y1 y2 y3 => g2 a j (by omega) (by omega) (by omega) (by omega)
  have hE1 := h.ge wf1
  have p31 : cLv S G1 u (xp p) (pl.getD st 0) st b nv (qn p) (cp p) K (Ls.getD (pl.getD st 0) dLt).2.2.2.1 (R p) (lo (pl.getD st 0)) (hi (pl.getD st 0)) := p3.ge (fun a j _ _ y3 y4 y5 y6 _ _ => g2 a j y3 y4 y5 y6)
  have p41 : cFs S G1 u (pl.getD st 0) fa fn p (xp p) := p4.ge hu (g2 _ _ (by omega) (by omega) (by omega) (by omega)) (fun a j y => g2 _ _ (by omega) (by omega) (by omega) (by omega))
  have hv1 : ∀ k, b.testBit k = true → G1 84 k = vl k := fun k hk => by rw [g2 _ _ (by omega) (by omega) (by omega) (by omega)]; exact hv k hk
  obtain ⟨w, G2, i1, i2, i3, i4⟩ := k_135 (f := f) (m := m) (cu := fi) (by omega) p31 p41 hE1.1.2.2.2.2.1 g4 g6 g5 g7.1 g7 hv1
  have hw01 : w = 0 ∨ w = 1 := by rcases i4 with ⟨q, _⟩ | ⟨q, _⟩ <;> omega
  have e1 := sw_132f (r2 := r2) (f := f) (m := m) (x := x) hW.1 hx.2 hW.2.2.1 hu hW.2.2.2.2.1.1 hW.2.2.2.2.1.2.2.1 hW.2.2.2.2.1.2.2.2.2.2.2.2.2.2.1 hW.2.2.2.2.2.1.2.1 hW.2.2.2.2.2.1.2.2.2.2.2.2.2.2.1 h8 h6 (by omega) hl8 hp9 (by omega) hkd h7 g1 (by rw [g2 _ _ (by omega) (by omega) (by omega) (by omega)]; exact h7)
  have e2 := e1.trans (st_100 hW.1 i1 hw01)
  have h62 : G2 83 6 = (st : Int) := by rw [i2 _ _ (by omega) (by omega) (by omega), g2 _ _ (by omega) (by omega) (by omega) (by omega)]; exact h6
  have e3 := e2.trans (st_205 hW.1 h62 hw01 (xwr_g _ (by omega) (by omega)) (by rw [xwr_g _ (by omega) (by omega)]; omega) (xwr_g _ (by omega) (by omega)))
  have fr1 : ∀ a j, 87 ≤ a → a ≤ 90 → j < st → G2 a j = G a j := fun a j y1 y2 y3 => by
    rw [i2 a j (by omega) (by omega) (by omega)]
    by_cases c : a = 87
    · rw [c, g2 _ _ (by omega) (by omega) (by omega) (by omega)]
    · exact g3 a j (by omega) (by omega) y2
  have fr2 : G2 87 st = G 87 st := by rw [i2 _ _ (by omega) (by omega) (by omega), g2 _ _ (by omega) (by omega) (by omega) (by omega)]
  have fr3 : ∀ j, b.testBit j = true → G2 84 j = G 84 j := fun j hj => by rw [i3 j hj, g2 _ _ (by omega) (by omega) (by omega) (by omega)]
  have wf2 : xWf G G2 := fun a j y1 y2 y3 => by rw [i2 a j y1 (by omega) (by omega), wf1 a j y1 y2 y3]
  rw [ed] at hw
  obtain ⟨D, k', c1, c2, c3⟩ := hw
  have c1' : ∃ D0, chD (Ls.getD (pl.getD st 0) dLt).2.2.2.1 (lo (pl.getD st 0)) (hi (pl.getD st 0)) (R p) b vl br 0 D0 ∧ (mre Ls a br (Ls.getD (pl.getD st 0) dLt) (pl.drop (st + 1)) b → D = D0.map (·.2)) ∧ (¬ mre Ls a br (Ls.getD (pl.getD st 0) dLt) (pl.drop (st + 1)) b → D = (D0.take 1).map (·.2)) := by
    rcases c1 with ⟨_, D0, q⟩ | ⟨q, _⟩ | ⟨q, _⟩
    · rw [hpp] at q; exact ⟨D0, q⟩
    · omega
    · omega
  obtain ⟨D0, d1, d2, d3⟩ := c1'
  obtain ⟨kl, kl1, kl2⟩ := g7.2.2
  have low : ∀ j, j < (R p).length → accR (Ls.getD (pl.getD st 0) dLt).2.2.2.1 (lo (pl.getD st 0)) (hi (pl.getD st 0)) (R p) b vl br j → fi ≤ j := fun j hj ⟨b', v', y1, _⟩ => (kl2 j hj (kl1.fit hT (lT j hj) y1)).1
  rcases i4 with ⟨q1, i', b', v', j1, j2, j3, j4, j5, j6, j7, j8⟩ | ⟨q1, j1⟩
  · subst q1
    rw [if_neg (by decide)] at e3
    obtain ⟨D0', d4, d5⟩ := d1.head (Nat.zero_le _) j2 j3 j4 (fun j y1 y2 y3 => by
      by_cases c : fi ≤ j
      · exact j5 j c y2 y3
      · exact c (low j (by omega) y3))
    obtain ⟨f1, f2⟩ := fit_84 hT (Nat.le_of_eq (lT i' j2).symm) j3
    have hB : b' = b ||| qLv (Ls.getD (pl.getD st 0) dLt) := by rw [f2, qT_lv (by omega)]
    have hB8 : b' < 2 ^ 8 := by rw [f2]; exact Nat.or_lt_two_pow hlv.2.1 (qT_lt hT p3.2.2.2.2.2.2.1)
    have hlv2 : lvE G2 (st + 1) b' v' := ⟨j7, hB8, fun k hk => ⟨tb8 hB8 hk, j8 k hk, fit_ok hT (Nat.le_of_eq (lT i' j2).symm) (fun k hk => (hlv.2.2 k hk).2.2) (p7 _ (by rw [getD_e j2]; exact List.getElem_mem j2)) j3 k hk⟩⟩
    have hcu : i' + 1 ≤ (R p).length := by omega
    have hG88 : G2 88 st = (fi : Int) := by rw [i2 _ _ (by omega) (by omega) (by omega)]; exact g4
    have hG90 : G2 90 st = (la : Int) := by rw [i2 _ _ (by omega) (by omega) (by omega)]; exact g6
    have fin : ∀ (Dr : List (Nat → Int)), (mre Ls a br (Ls.getD (pl.getD st 0) dLt) (pl.drop (st + 1)) b → Dr = D0'.map (·.2)) → (¬ mre Ls a br (Ls.getD (pl.getD st 0) dLt) (pl.drop (st + 1)) b → Dr = []) → D = v' :: Dr → nxS Ls pl a br R lo hi Bf G (V1 ++ V2) (k1 + k2) S m (c132_2b r2 f 83 x (S, G, m)) (r2 83 (x + 1)) := fun Dr m1 m2 m3 => by
      rw [m3] at c2
      obtain ⟨Va, ka, Vb, kb, s1, s2, s3, s4⟩ := wyS_c c2
      have hr : rmD Ls a br R lo hi G2 st (pl.getD st 0) (pl.drop (st + 1)) b vl Dr := .inl ⟨hy, by rw [← hB]; exact j7, fi, la, i' + 1, D0', hG88, hG90, j6, by rw [hpp]; exact hcu, by rw [hpp]; exact g7, by rw [hpp]; exact d5, m1, m2⟩
      rw [← hB] at s1 s2
      refine .inl ⟨_, ka + (1 + kb + k2), e3, fun a j y1 y2 y3 => by rw [up67 y3]; exact wf2 a j y1 y2 y3, by omega, ?_⟩
      rw [s3, List.append_assoc]
      exact bk_on hn hlv hB hB8 hok (by rw [hB]; exact mk_on hn hmk) hr s2 s1 hk fr1 fr2 fr3 hlv2
    by_cases cm : mre Ls a br (Ls.getD (pl.getD st 0) dLt) (pl.drop (st + 1)) b
    · exact fin (D0'.map (·.2)) (fun _ => rfl) (fun q => absurd cm q) (by rw [d2 cm, d4]; rfl)
    · exact fin [] (fun q => absurd q cm) (fun _ => rfl) (by rw [d3 cm, d4]; rfl)
  · subst q1
    rw [if_pos rfl] at e3
    have dn : D0 = [] := d1.none (fun j y1 y2 y3 => j1 j (low j y2 y3) y2 y3)
    have hD : D = [] := by
      by_cases cm : mre Ls a br (Ls.getD (pl.getD st 0) dLt) (pl.drop (st + 1)) b
      · rw [d2 cm, dn]; rfl
      · rw [d3 cm, dn]; rfl
    rw [hD] at c2
    obtain ⟨s1, s2⟩ := wyS_n c2
    refine .inl ⟨_, k2, e3, fun a j y1 y2 y3 => by rw [up67 y3]; exact wf2 a j y1 y2 y3, by omega, ?_⟩
    rw [s1, List.nil_append]
    exact bk_back (by omega) hmk hk fr1 fr2 fr3
end
end
section
/-! THE CLASS: next(), the other steps -/
section
variable {f u fa fn np nv a st b : Nat} {S : Nat → Nat × Nat × Nat} {G : xG_} {m : Nat × Nat} {K : pCd} {Ls : List pLt} {pl : List Nat} {br : Int} {qn xp cp : Nat → Nat} {R : Nat → List pRw} {lo hi : Nat → Int} {r2 : Nat → Int → xT_ → Option (Int × xT_)} {x : Int} {Bf : Nat} {vl : Nat → Int} {V V1 V2 : List (Nat → Int)} {k k1 k2 : Nat}
theorem nx_fn (hf : 3010 < f) (hx : 0 ≤ x ∧ x < 1000000000) (h : cWE S G u K Ls pl fa fn np nv a br qn xp cp R lo hi) (hn : st < pl.length) (h6 : G 83 6 = (st : Int)) (h7 : G 83 7 = 1) (hlv : lvE G st b vl) (hok : okP Ls (pl.drop st) b) (hmk : mkP Ls (pl.drop st) b = Bf) (hw : wyE Ls a br R lo hi (pl.drop st) b vl V1 k1) (hk : bkE Ls pl a br R lo hi G st b V2 k2) (hy : (Ls.getD (pl.getD st 0) dLt).1 = 2) (hkd : G (u + 2) (pl.getD st 0) = 9) : nxS Ls pl a br R lo hi Bf G (V1 ++ V2) (k1 + k2) S m (c132_2b r2 f 83 x (S, G, m)) (r2 83 (x + 1)) := by
  have hW := h.wy
  obtain ⟨hn', hl8, hl, hp9, h8, _⟩ := h.at hn
  have hu := hW.2.2.2.1
  have ed : pl.drop st = pl.getD st 0 :: pl.drop (st + 1) := by rw [getD_e hn]; exact List.drop_eq_getElem_cons hn
  have es : xwr ((st : Int) + 1) = ((st + 1 : Nat) : Int) := by rw [xwr_g _ (by omega) (by omega)]; omega
  have z0 : ∀ a j, ¬ (a = 87 ∧ j = st + 1) → xup2 G 87 (st + 1) (b : Int) a j = G a j := fun a j y => xup2_n y
  have wf0 : xWf G (xup2 G 87 (st + 1) (b : Int)) := fun a j y1 y2 y3 => z0 a j (by omega)
  have h0 := h.ge wf0
  obtain ⟨p, p1, p2, p3, p4, p5, p6, p7⟩ := h0.lv hl (by omega) (by rw [z0 _ _ (by omega)]; exact h6) (by omega : st < 8) (by rw [z0 _ _ (by omega)]; exact hlv.1) hlv.2.1
  have hpp : (Ls.getD (pl.getD st 0) dLt).2.1.toNat = p := by rw [p2]; rfl
  have hv : ∀ k, b.testBit k = true → xup2 G 87 (st + 1) (b : Int) 84 k = vl k := fun k hk => by rw [z0 _ _ (by omega)]; exact (hlv.2.2 k hk).2.1
  obtain ⟨w, G1, g1, g2, g3, g4, g5, g6⟩ := k_138 (f := f) (m := m) (by omega) p3 p4 p5 hv
  have e1 := sw_132n (r2 := r2) (f := f) (m := m) (x := x) hW.1 hW.2.1 hx.2 hW.2.2.1 hu hW.2.2.2.2.1.1 hW.2.2.2.2.1.2.2.1 hW.2.2.2.2.1.2.2.2.2.2.2.2.2.2.1 hW.2.2.2.2.2.1.2.1 hW.2.2.2.2.2.1.2.2.2.2.2.2.2.2.1 h8 h6 (by omega) hl8 hp9 (by omega) hkd hlv.1 es h7 g1 g5
  have h61 : G1 83 6 = (st : Int) := by rw [g2 _ _ (by omega) (by omega) (by omega) (by omega) (by omega), z0 _ _ (by omega)]; exact h6
  have e3 := e1.trans (st_185 hW.1 h61 g5 (xwr_g _ (by omega) (by omega)) (by rw [xwr_g _ (by omega) (by omega)]; omega) (xwr_g _ (by omega) (by omega)))
  have fr1 : ∀ a j, 87 ≤ a → a ≤ 90 → j < st → G1 a j = G a j := fun a j y1 y2 y3 => by
    by_cases c : a = 87
    · rw [c, g2 _ _ (by omega) (by omega) (by omega) (by omega) (by omega), z0 _ _ (by omega)]
    · rw [g3 a j (by omega) (by omega) y2, z0 _ _ (by omega)]
  have fr2 : G1 87 st = G 87 st := by rw [g2 _ _ (by omega) (by omega) (by omega) (by omega) (by omega), z0 _ _ (by omega)]
  have fr3 : ∀ j, b.testBit j = true → G1 84 j = G 84 j := fun j hj => by rw [g4 j hj, z0 _ _ (by omega)]
  have wf2 : xWf G G1 := fun a j y1 y2 y3 => by rw [g2 a j y1 (by omega) (by omega) (by omega) (by omega), wf0 a j y1 y2 y3]
  rw [ed] at hw
  obtain ⟨D, k', c1, c2, c3⟩ := hw
  have c1' : ((∀ j, j < (R p).length → fitR (Ls.getD (pl.getD st 0) dLt).2.2.2.1 (lo (pl.getD st 0)) (hi (pl.getD st 0)) b vl ((R p).getD j dRw) = none) → D = [vl]) ∧ (¬ (∀ j, j < (R p).length → fitR (Ls.getD (pl.getD st 0) dLt).2.2.2.1 (lo (pl.getD st 0)) (hi (pl.getD st 0)) b vl ((R p).getD j dRw) = none) → D = []) := by
    rcases c1 with ⟨q, _⟩ | ⟨_, q⟩ | ⟨q, _⟩
    · omega
    · rw [hpp] at q; exact q
    · omega
  have hqs : qSub (qLv (Ls.getD (pl.getD st 0) dLt)) b := by
    have hok' := hok
    rw [ed] at hok'
    have hq := hok'.1
    unfold qBh at hq
    by_cases c : (Ls.getD (pl.getD st 0) dLt).1 = 1 ∨ qSub (qLv (Ls.getD (pl.getD st 0) dLt)) b
    · exact c.elim (fun q => by omega) id
    · rw [if_neg c, if_neg (fun q => by have := q.1; omega)] at hq
      exact absurd rfl hq
  have hB : b = b ||| qLv (Ls.getD (pl.getD st 0) dLt) := (or_sub hqs).symm
  rcases g5 with q1 | q1
  · subst q1
    rw [if_pos rfl] at e3
    have hD := c1'.2 (fun q => by have := g6.mpr q; omega)
    rw [hD] at c2
    obtain ⟨s1, s2⟩ := wyS_n c2
    refine .inl ⟨_, k2, e3, fun a j y1 y2 y3 => by rw [up67 y3]; exact wf2 a j y1 y2 y3, by omega, ?_⟩
    rw [s1, List.nil_append]
    exact bk_back (by omega) hmk hk fr1 fr2 fr3
  · subst q1
    rw [if_neg (by decide)] at e3
    have hD := c1'.1 (g6.mp rfl)
    rw [hD] at c2
    obtain ⟨Va, ka, Vb, kb, s1, s2, s3, s4⟩ := wyS_c c2
    obtain ⟨s5, s6⟩ := wyS_n s2
    rw [← hB] at s1 s2
    have hlv2 : lvE G1 (st + 1) b vl := ⟨by rw [g2 _ _ (by omega) (by omega) (by omega) (by omega) (by omega), xup2_s], hlv.2.1, fun j hj => by rw [fr3 j hj]; exact hlv.2.2 j hj⟩
    refine .inl ⟨_, ka + (1 + kb + k2), e3, fun a j y1 y2 y3 => by rw [up67 y3]; exact wf2 a j y1 y2 y3, by omega, ?_⟩
    rw [s3, List.append_assoc]
    exact bk_on hn hlv hB hlv.2.1 hok (by have := mk_on hn hmk; rw [← hB] at this; exact this) (.inr ⟨by omega, rfl⟩) s2 s1 hk fr1 fr2 fr3 hlv2
theorem nx_fc (hf : 3010 < f) (hx : 0 ≤ x ∧ x < 1000000000) (h : cWE S G u K Ls pl fa fn np nv a br qn xp cp R lo hi) (hn : st < pl.length) (h6 : G 83 6 = (st : Int)) (h7 : G 83 7 = 1) (hlv : lvE G st b vl) (hok : okP Ls (pl.drop st) b) (hmk : mkP Ls (pl.drop st) b = Bf) (hw : wyE Ls a br R lo hi (pl.drop st) b vl V1 k1) (hk : bkE Ls pl a br R lo hi G st b V2 k2) (hy : (Ls.getD (pl.getD st 0) dLt).1 = 3) (hkd : G (u + 2) (pl.getD st 0) ≠ 15) (hkd2 : G (u + 2) (pl.getD st 0) ≠ 9) : nxS Ls pl a br R lo hi Bf G (V1 ++ V2) (k1 + k2) S m (c132_2b r2 f 83 x (S, G, m)) (r2 83 (x + 1)) := by
  have hW := h.wy
  obtain ⟨hn', hl8, hl, hp9, h8, _⟩ := h.at hn
  have hu := hW.2.2.2.1
  have ed : pl.drop st = pl.getD st 0 :: pl.drop (st + 1) := by rw [getD_e hn]; exact List.drop_eq_getElem_cons hn
  have es : xwr ((st : Int) + 1) = ((st + 1 : Nat) : Int) := by rw [xwr_g _ (by omega) (by omega)]; omega
  have z0 : ∀ a j, ¬ (a = 87 ∧ j = st + 1) → xup2 G 87 (st + 1) (b : Int) a j = G a j := fun a j y => xup2_n y
  have wf0 : xWf G (xup2 G 87 (st + 1) (b : Int)) := fun a j y1 y2 y3 => z0 a j (by omega)
  have h0 := h.ge wf0
  have hq : qBh (Ls.getD (pl.getD st 0) dLt) b ≠ none := by
    have hok' := hok
    rw [ed] at hok'
    exact hok'.1
  have hC := h0.cm hl hy (by rw [z0 _ _ (by omega)]; exact h6) (by omega : st < 8) (by rw [z0 _ _ (by omega)]; exact hlv.1) (xup2_s _ _ _ _) hlv.2.1 hq
  obtain ⟨w, G1, g1, g2, g3, g4⟩ := k_139 (f := f) (m := m) (vl := vl) hf hC (hlv.2.2.ge (fun k => z0 _ _ (by omega)))
  have g5 : w = 0 ∨ w = 1 := by rcases g4 with ⟨q, _⟩ | ⟨q, _⟩ <;> omega
  have e1 := sw_132m (r2 := r2) (f := f) (m := m) (x := x) hW.1 hW.2.1 hx.2 hW.2.2.1 hu hW.2.2.2.2.1.1 hW.2.2.2.2.1.2.2.1 hW.2.2.2.2.1.2.2.2.2.2.2.2.2.2.1 hW.2.2.2.2.2.1.2.1 hW.2.2.2.2.2.1.2.2.2.2.2.2.2.2.1 h8 h6 (by omega) hl8 hp9 (by omega) rfl hkd hkd2 hlv.1 es h7 g1 g5
  have h61 : G1 83 6 = (st : Int) := by rw [g2 _ _ (by omega) (by omega) (by omega), z0 _ _ (by omega)]; exact h6
  have e3 := e1.trans (st_185 hW.1 h61 g5 (xwr_g _ (by omega) (by omega)) (by rw [xwr_g _ (by omega) (by omega)]; omega) (xwr_g _ (by omega) (by omega)))
  have fr1 : ∀ a j, 87 ≤ a → a ≤ 90 → j < st → G1 a j = G a j := fun a j y1 y2 y3 => by rw [g2 a j (by omega) (by omega) (by omega), z0 _ _ (by omega)]
  have fr2 : G1 87 st = G 87 st := by rw [g2 _ _ (by omega) (by omega) (by omega), z0 _ _ (by omega)]
  have fr3 : ∀ j, b.testBit j = true → G1 84 j = G 84 j := fun j hj => by rw [g3 j hj, z0 _ _ (by omega)]
  have wf2 : xWf G G1 := fun a j y1 y2 y3 => by rw [g2 a j y1 (by omega) (by omega), wf0 a j y1 y2 y3]
  rw [ed] at hw
  obtain ⟨D, k', c1, c2, c3⟩ := hw
  have c1' : (∀ b' v', cmpV (Ls.getD (pl.getD st 0) dLt) b vl = some (b', v') → D = [v']) ∧ (cmpV (Ls.getD (pl.getD st 0) dLt) b vl = none → D = []) := by
    rcases c1 with ⟨q, _⟩ | ⟨q, _⟩ | ⟨_, q⟩
    · omega
    · omega
    · exact q
  rcases g4 with ⟨q1, b', v', q2, q3, q4⟩ | ⟨q1, q2⟩
  · subst q1
    rw [if_neg (by decide)] at e3
    have hB := cmpV_b hy hq q2
    have hD := c1'.1 _ _ q2
    rw [hD] at c2
    obtain ⟨Va, ka, Vb, kb, s1, s2, s3, s4⟩ := wyS_c c2
    rw [← hB] at s1 s2
    have hmm : Ls.getD (pl.getD st 0) dLt ∈ Ls := by rw [getD_e hl]; exact List.getElem_mem hl
    have hlt := (h.2.2.1.2.1 _ hmm).1
    have hB8 : b' < 2 ^ 8 := by rw [hB]; exact Nat.or_lt_two_pow hlv.2.1 (qLv_8 hlt.lv h.2.2.1.1)
    refine .inl ⟨_, ka + (1 + kb + k2), e3, fun a j y1 y2 y3 => by rw [up67 y3]; exact wf2 a j y1 y2 y3, by omega, ?_⟩
    rw [s3, List.append_assoc]
    exact bk_on hn hlv hB hB8 hok (by rw [hB]; exact mk_on hn hmk) (.inr ⟨by omega, rfl⟩) s2 s1 hk fr1 fr2 fr3 ⟨q3, hB8, q4⟩
  · subst q1
    rw [if_pos rfl] at e3
    have hD := c1'.2 q2
    rw [hD] at c2
    obtain ⟨s1, s2⟩ := wyS_n c2
    refine .inl ⟨_, k2, e3, fun a j y1 y2 y3 => by rw [up67 y3]; exact wf2 a j y1 y2 y3, by omega, ?_⟩
    rw [s1, List.nil_append]
    exact bk_back (by omega) hmk hk fr1 fr2 fr3
theorem nx_be (hx : 0 ≤ x ∧ x < 1000000000) (h : cWE S G u K Ls pl fa fn np nv a br qn xp cp R lo hi) {B : Nat} (h6 : G 83 6 = ((0 : Nat) : Int) - 1) (hk : bkE Ls pl a br R lo hi G 0 B V k) : nxS Ls pl a br R lo hi Bf G V k S m (c132_2b r2 f 83 x (S, G, m)) (r2 83 (x + 1)) := .inr (.inr ⟨sw_132e h.1.1 hx.2 h6, hk.1⟩)
theorem nx_b (hf : 3010 < f) (hx : 0 ≤ x ∧ x < 1000000000) (h : cWE S G u K Ls pl fa fn np nv a br qn xp cp R lo hi) {B : Nat} (hn : st < pl.length) (h6 : G 83 6 = ((st + 1 : Nat) : Int) - 1) (h7 : G 83 7 = 0) (hmk : mkP Ls (pl.drop (st + 1)) B = Bf) (hk : bkE Ls pl a br R lo hi G (st + 1) B V k) : nxS Ls pl a br R lo hi Bf G V k S m (c132_2b r2 f 83 x (S, G, m)) (r2 83 (x + 1)) := by
  have hW := h.wy
  obtain ⟨hn', hl8, hl, hp9, h8, hkind⟩ := h.at hn
  have hu := hW.2.2.2.1
  have h6' : G 83 6 = (st : Int) := by rw [h6]; omega
  have ed : pl.drop st = pl.getD st 0 :: pl.drop (st + 1) := by rw [getD_e hn]; exact List.drop_eq_getElem_cons hn
  have es : xwr ((st : Int) + 1) = ((st + 1 : Nat) : Int) := by rw [xwr_g _ (by omega) (by omega)]; omega
  have ep := xwr_g ((st : Int) + 1) (by omega) (by omega)
  have em : xwr ((st : Int) + (-1)) = (st : Int) - 1 := by rw [xwr_g _ (by omega) (by omega)]; omega
  have ex : xwr (x + 1) = x + 1 := xwr_g _ (by omega) (by omega)
  obtain ⟨b, vl, D, V1, k1, V2, k2, a1, hlv, hB, hB8, hok, hr, hs, hk2, hV, hkk⟩ := hk
  have hmk2 : mkP Ls (pl.drop st) b = Bf := by
    rw [ed]
    show mkP Ls (pl.drop (st + 1)) (b ||| qLv (Ls.getD (pl.getD st 0) dLt)) = Bf
    rw [← hB]; exact hmk
  rcases hr with ⟨hy, c2, fi, la, cu, D0, c3, c4, c5, c6, c7, c8, c9, c10⟩ | ⟨hy, hD⟩
  · have hkd : G (u + 2) (pl.getD st 0) = 15 := by
      rcases hkind with ⟨_, q⟩ | ⟨q, _⟩ | ⟨q, _⟩
      · exact q
      · omega
      · omega
    obtain ⟨p, p1, p2, p3, p4, p5, p6, p7⟩ := h.lv hl (by omega) h6' (by omega) hlv.1 hlv.2.1
    have hpp : (Ls.getD (pl.getD st 0) dLt).2.1.toNat = p := by rw [p2]; rfl
    rw [hpp] at c6 c7 c8
    have hT := p3.2.2.2.2.2.1
    have hTW := p3.2.2.2.2.1
    have hRw := p3.2.2.1
    have lT : ∀ j, j < (R p).length → ((R p).getD j dRw).1.length = (Ls.getD (pl.getD st 0) dLt).2.2.2.1.length := fun j hj => by rw [(hRw.2.2.2.2.2.2.2 j hj).1, hTW]
    obtain ⟨_, _, e3', e4'⟩ := h.2.2.2.1.2 st hn'
    obtain ⟨w, w1, w2, w3⟩ := k_133 (f := f) (m := m) hW.1 hW.2.1 hW.2.2.1 hu hW.2.2.2.2.1.1 hW.2.2.2.2.1.2.2.2.2.2.2.2.2.2.2 hW.2.2.2.2.2.1.2.2.2.2.2.2.2.2.2 h6' (by omega) h.1.2.2.2.2.1 hlv.1 hlv.2.1 (by rw [c2, ← hB]) hB8 e3' e4'
    have wm : w = 1 ↔ mre Ls a br (Ls.getD (pl.getD st 0) dLt) (pl.drop (st + 1)) b := by
      rw [w3, hB]; exact Iff.rfl
    have e1 := sw_132b (r2 := r2) (f := f) (m := m) (x := x) hW.1 hx.2 hW.2.2.1 hu hW.2.2.2.2.1.1 hW.2.2.2.2.1.2.2.1 hW.2.2.2.2.1.2.2.2.2.2.2.2.2.2.1 hW.2.2.2.2.2.1.2.1 hW.2.2.2.2.2.1.2.2.2.2.2.2.2.2.1 h8 h6' (by omega) hl8 hp9 (by omega) hkd h7 w1
    by_cases cw : w = 0
    · rw [if_pos cw] at e1
      have e2 := e1.trans (st_205 (w := 0) hW.1 h6' (.inl rfl) ep em ex)
      rw [if_pos rfl] at e2
      have hD := c10 (fun q => by have := wm.mpr q; omega)
      rw [hD] at hs
      obtain ⟨s1, s2⟩ := wyS_n hs
      refine .inl ⟨_, k2, e2, fun a j y1 y2 y3 => up67 y3, by omega, ?_⟩
      rw [hV, s1, List.nil_append]
      exact bk_back (by omega) hmk2 hk2 (fun _ _ _ _ _ => rfl) rfl (fun _ _ => rfl)
    · rw [if_neg cw] at e1
      have cm := wm.mp (by omega)
      have hD := c9 cm
      have hv : ∀ k, b.testBit k = true → G 84 k = vl k := fun k hk => (hlv.2.2 k hk).2.1
      obtain ⟨v, G2, i1, i2, i3, i4⟩ := k_135 (f := f) (m := m) (cu := cu) (by omega) p3 p4 h.1.2.2.2.2.1 c3 c4 c5 c6 c7 hv
      have hw01 : v = 0 ∨ v = 1 := by rcases i4 with ⟨q, _⟩ | ⟨q, _⟩ <;> omega
      have e2 := e1.trans (st_100 hW.1 i1 hw01)
      have h62 : G2 83 6 = (st : Int) := by rw [i2 _ _ (by omega) (by omega) (by omega)]; exact h6'
      have e3 := e2.trans (st_205 hW.1 h62 hw01 ep em ex)
      have fr1 : ∀ a j, 87 ≤ a → a ≤ 90 → j < st → G2 a j = G a j := fun a j y1 y2 y3 => i2 a j (by omega) (by omega) (by omega)
      have fr2 : G2 87 st = G 87 st := i2 _ _ (by omega) (by omega) (by omega)
      have wf2 : xWf G G2 := fun a j y1 y2 y3 => i2 a j y1 (by omega) (by omega)
      rcases i4 with ⟨q1, i', b', v', j1, j2, j3, j4, j5, j6, j7, j8⟩ | ⟨q1, j1⟩
      · subst q1
        rw [if_neg (by decide)] at e3
        obtain ⟨D0', d4, d5⟩ := c8.head j1 j2 j3 j4 j5
        obtain ⟨f1, f2⟩ := fit_84 hT (Nat.le_of_eq (lT i' j2).symm) j3
        have hB' : b' = B := by rw [f2, hB, qT_lv (by omega)]
        subst hB'
        rw [hD, d4] at hs
        obtain ⟨Va, ka, Vb, kb, s1, s2, s3, s4⟩ := wyS_c hs
        have hlv2 : lvE G2 (st + 1) b' v' := ⟨j7, hB8, fun k hk => ⟨tb8 hB8 hk, j8 k hk, fit_ok hT (Nat.le_of_eq (lT i' j2).symm) (fun k hk => (hlv.2.2 k hk).2.2) (p7 _ (by rw [getD_e j2]; exact List.getElem_mem j2)) j3 k hk⟩⟩
        have hr2 : rmD Ls a br R lo hi G2 st (pl.getD st 0) (pl.drop (st + 1)) b vl (D0'.map (·.2)) := .inl ⟨hy, by rw [← hB]; exact j7, fi, la, i' + 1, D0', by rw [i2 _ _ (by omega) (by omega) (by omega)]; exact c3, by rw [i2 _ _ (by omega) (by omega) (by omega)]; exact c4, j6, by rw [hpp]; omega, by rw [hpp]; exact c7, by rw [hpp]; exact d5, fun _ => rfl, fun q => absurd cm q⟩
        refine .inl ⟨_, ka + (1 + kb + k2), e3, fun a j y1 y2 y3 => by rw [up67 y3]; exact wf2 a j y1 y2 y3, by omega, ?_⟩
        rw [hV, s3, List.append_assoc]
        exact bk_on hn hlv hB hB8 hok hmk hr2 s2 s1 hk2 fr1 fr2 i3 hlv2
      · subst q1
        rw [if_pos rfl] at e3
        have dn : D0 = [] := c8.none j1
        rw [hD, dn] at hs
        obtain ⟨s1, s2⟩ := wyS_n hs
        refine .inl ⟨_, k2, e3, fun a j y1 y2 y3 => by rw [up67 y3]; exact wf2 a j y1 y2 y3, by omega, ?_⟩
        rw [hV, s1, List.nil_append]
        exact bk_back (by omega) hmk2 hk2 fr1 fr2 i3
  · have hkd : G (u + 2) (pl.getD st 0) ≠ 15 := by
      rcases hkind with ⟨q, _⟩ | ⟨_, q⟩ | ⟨_, q, _⟩
      · exact absurd q hy
      · omega
      · exact q
    have e1 := sw_132c (r2 := r2) (f := f) (m := m) (x := x) hW.1 hW.2.1 hx.2 hW.2.2.1 hu hW.2.2.2.2.1.1 hW.2.2.2.2.1.2.2.1 hW.2.2.2.2.1.2.2.2.2.2.2.2.2.2.1 hW.2.2.2.2.2.1.2.1 hW.2.2.2.2.2.1.2.2.2.2.2.2.2.2.1 h8 h6' (by omega) hl8 hp9 (by omega) rfl hkd hlv.1 es h7
    have e2 := e1.trans (st_185 (w := 0) hW.1 (by rw [xup2_n (by omega)]; exact h6') (.inl rfl) ep em ex)
    rw [if_pos rfl] at e2
    rw [hD] at hs
    obtain ⟨s1, s2⟩ := wyS_n hs
    refine .inl ⟨_, k2, e2, fun a j y1 y2 y3 => by rw [up67 y3, xup2_n (by omega)], by omega, ?_⟩
    rw [hV, s1, List.nil_append]
    exact bk_back (by omega) hmk2 hk2 (fun a j _ _ y3 => xup2_n (by omega)) (xup2_n (by omega)) (fun j _ => xup2_n (by omega))
end
end
section
/-! THE CLASS: next() whole -/
section
variable {f u fa fn np nv a : Nat} {S : Nat → Nat × Nat × Nat} {G : xG_} {m : Nat × Nat} {K : pCd} {Ls : List pLt} {pl : List Nat} {br : Int} {qn xp cp : Nat → Nat} {R : Nat → List pRw} {lo hi : Nat → Int} {Bf : Nat} {V : List (Nat → Int)}
/-- what next() answers -/
def nxR (Ls : List pLt) (pl : List Nat) (a : Nat) (br : Int) (R : Nat → List pRw) (lo hi : Nat → Int) (Bf : Nat) (G : xG_) (V : List (Nat → Int)) (k : Nat) (S : Nat → Nat × Nat × Nat) (m : Nat × Nat) (e : Option (Int × xT_)) : Prop :=
  (∃ G', e = some (0, (S, G', m)) ∧ xWf G G' ∧ V = []) ∨ (∃ G' v V' k', e = some (1, (S, G', m)) ∧ xWf G G' ∧ V = v :: V' ∧ k' < k ∧ wSt8 Ls pl a br R lo hi G' Bf V' k' ∧ cVl G' Bf v)
theorem k_132l (hf : 3010 < f) : ∀ (k fu : Nat) (x : Int) (G : xG_), cWE S G u K Ls pl fa fn np nv a br qn xp cp R lo hi → wSt8 Ls pl a br R lo hi G Bf V k → k < fu → 0 ≤ x → x + (k : Int) < 1000000000 → nxR Ls pl a br R lo hi Bf G V k S m (c132_2 f fu 83 x (S, G, m)) := by
  intro k
  induction k using Nat.strongRecOn with
  | _ k ih =>
    intro fu x G h hs hk hx0 hx1
    obtain ⟨fu, rfl⟩ : ∃ t, fu = t + 1 := ⟨fu - 1, by omega⟩
    have hx : 0 ≤ x ∧ x < 1000000000 := by omega
    have step : nxS Ls pl a br R lo hi Bf G V k S m (c132_2b (c132_2 f fu) f 83 x (S, G, m)) (c132_2 f fu 83 (x + 1)) := by
      rcases hs with ⟨st, b, vl, V1, k1, V2, k2, a1, a2, a3, a4, a5, a6, a7, a8, a9, a10⟩ | ⟨n, B, a1, a2, a3, a4, a5⟩
      · rw [a9, a10]
        by_cases c : st < pl.length
        · rcases (h.at c).2.2.2.2.2 with ⟨q1, q2⟩ | ⟨q1, q2⟩ | ⟨q1, q2, q3⟩
          · exact nx_fa hf hx h c a2 a3 a4 a5 a6 a7 a8 q1 q2
          · exact nx_fn hf hx h c a2 a3 a4 a5 a6 a7 a8 q1 q2
          · exact nx_fc hf hx h c a2 a3 a4 a5 a6 a7 a8 q1 q2 q3
        · have e : st = pl.length := by omega
          subst e
          exact nx_fl hx h a2 a3 a4 a6 a7 a8
      · cases n with
        | zero => exact nx_be hx h a2 a5
        | succ n => exact nx_b hf hx h a1 a2 a3 a4 a5
    rcases step with ⟨G', k', e1, e2, e3, e4⟩ | ⟨G', v, V', k', e1, e2, e3, e4, e5, e6⟩ | ⟨e1, e2⟩
    · have q := ih k' e3 fu (x + 1) G' (h.ge e2) e4 (by omega) (by omega) (by omega)
      have e0 : c132_2 f (fu + 1) 83 x (S, G, m) = c132_2 f fu 83 (x + 1) (S, G', m) := e1
      rw [e0]
      rcases q with ⟨G2, q1, q2, q3⟩ | ⟨G2, v, V', k2, q1, q2, q3, q4, q5, q6⟩
      · exact .inl ⟨G2, q1, e2.tr q2, q3⟩
      · exact .inr ⟨G2, v, V', k2, q1, e2.tr q2, q3, by omega, q5, q6⟩
    · exact .inr ⟨G', v, V', k', e1, e2, e3, e4, e5, e6⟩
    · exact .inl ⟨G, e1, .id, e2⟩
theorem k_next {k : Nat} (hf : 100003010 < f) (h : cWE S G u K Ls pl fa fn np nv a br qn xp cp R lo hi) (hs : wSt8 Ls pl a br R lo hi G Bf V k) (hk : k ≤ 100000000) : nxR Ls pl a br R lo hi Bf G V k S m (c132 f 83 (S, G, m)) := k_132l (by omega) k f 0 G h hs (by omega) (Int.le_refl 0) (by omega)
/-- how much it may cost -/
theorem wyB_le {Ls : List pLt} : ∀ (pr : List Nat) (t c : Nat), pr.length ≤ t → (pr.filter (fun p => decide ((Ls.getD p dLt).1 = 1))).length ≤ c → wyB Ls pr ≤ (3 * t + 1) * 101 ^ c
  | [], t, c, _, _ => by
    show 1 ≤ _
    exact Nat.mul_pos (by omega) (Nat.pow_pos (by decide))
  | p :: pr, t, c, h1, h2 => by
    obtain ⟨t, rfl⟩ : ∃ s, t = s + 1 := ⟨t - 1, by rw [List.length_cons] at h1; omega⟩
    have h1' : pr.length ≤ t := by rw [List.length_cons] at h1; omega
    show 1 + (if (Ls.getD p dLt).1 = 1 then 100 else 1) * (wyB Ls pr + 1) ≤ _
    by_cases q : (Ls.getD p dLt).1 = 1
    · rw [List.filter_cons_of_pos (by rw [decide_eq_true q]), List.length_cons] at h2
      obtain ⟨c, rfl⟩ : ∃ s, c = s + 1 := ⟨c - 1, by omega⟩
      have ih := wyB_le (Ls := Ls) pr t c h1' (by omega)
      rw [if_pos q]
      have hp : 1 ≤ 101 ^ c := Nat.pow_pos (by decide)
      have e : (3 * (t + 1) + 1) * 101 ^ (c + 1) = 101 * ((3 * t + 1) * 101 ^ c) + 303 * 101 ^ c := by
        rw [Nat.pow_succ]
        generalize 101 ^ c = Y
        rw [show 3 * (t + 1) + 1 = (3 * t + 1) + 3 by omega, Nat.add_mul, ← Nat.mul_assoc (3 * t + 1) Y 101]
        generalize (3 * t + 1) * Y = X
        omega
      rw [e]
      generalize (3 * t + 1) * 101 ^ c = X at ih
      generalize 101 ^ c = Y at hp
      omega
    · rw [List.filter_cons_of_neg (by rw [decide_eq_false q]; decide)] at h2
      have ih := wyB_le (Ls := Ls) pr t c h1' h2
      rw [if_neg q]
      have hp : 1 ≤ 101 ^ c := Nat.pow_pos (by decide)
      have e : (3 * (t + 1) + 1) * 101 ^ c = (3 * t + 1) * 101 ^ c + 3 * 101 ^ c := by
        rw [show 3 * (t + 1) + 1 = (3 * t + 1) + 3 by omega, Nat.add_mul]
      rw [e]
      generalize (3 * t + 1) * 101 ^ c = X at ih
      generalize 101 ^ c = Y at hp
      omega
/-- open() leaves the first step ahead -/
theorem wSt_0 (hst : G 83 6 = 0) (h7 : G 83 7 = 1) {b : Nat} {vl : Nat → Int} (hlv : lvE G 0 b vl) (hok : okP Ls pl b) {k : Nat} (hw : wyE Ls a br R lo hi pl b vl V k) : wSt8 Ls pl a br R lo hi G (mkP Ls pl b) V k := .inl ⟨0, b, vl, V, k, [], 0, Nat.zero_le _, hst, h7, hlv, by rw [List.drop_zero]; exact hok, by rw [List.drop_zero], by rw [List.drop_zero]; exact hw, ⟨rfl, rfl⟩, (List.append_nil V).symm, rfl⟩
end
end
section
/-! THE CLASS: the WAYS that it finds are those of the rule -/
section
variable {Ls : List pLt} {a nv : Nat} {br : Int} {R : Nat → List pRw} {lo hi : Nat → Int}
/-- a LITERAL holds -/
def litO (Ls : List pLt) (R : Nat → List pRw) (lo hi : Nat → Int) (l : Nat) (v : Nat → Int) : Prop :=
  ((Ls.getD l dLt).1 = 1 → ∃ r, r ∈ R (Ls.getD l dLt).2.1.toNat ∧ (lo l ≤ r.2 ∧ r.2 ≤ hi l) ∧ sTs v (Ls.getD l dLt).2.2.2.1 r.1) ∧
  ((Ls.getD l dLt).1 = 2 → ¬ ∃ r, r ∈ R (Ls.getD l dLt).2.1.toNat ∧ (lo l ≤ r.2 ∧ r.2 ≤ hi l) ∧ sTs v (Ls.getD l dLt).2.2.2.1 r.1) ∧
  ((Ls.getD l dLt).1 = 3 → sCm v (Ls.getD l dLt))
/-- what the rule and its rows keep to -/
def wsC (Ls : List pLt) (nv : Nat) (R : Nat → List pRw) : Prop := ∀ l, l < Ls.length → ((Ls.getD l dLt).1 = 1 ∨ (Ls.getD l dLt).1 = 2) ∧ (∀ y ∈ (Ls.getD l dLt).2.2.2.1, wT1 nv y) ∧ (R (Ls.getD l dLt).2.1.toNat).Pairwise rwLt ∧ (∀ r ∈ R (Ls.getD l dLt).2.1.toNat, r.1.length = (Ls.getD l dLt).2.2.2.1.length) ∨ (Ls.getD l dLt).1 = 3 ∧ wEx nv (Ls.getD l dLt).2.2.2.2.1 ∧ wEx nv (Ls.getD l dLt).2.2.2.2.2 ∧ ((Ls.getD l dLt).2.1 = 61 ∨ (Ls.getD l dLt).2.1 = 257 ∨ (Ls.getD l dLt).2.1 = 60 ∨ (Ls.getD l dLt).2.1 = 258 ∨ (Ls.getD l dLt).2.1 = 62 ∨ (Ls.getD l dLt).2.1 = 259)
theorem sTs_on {T : pCd} {v w : Nat → Int} {xs : List Int} (hs : sTs v T xs) (h : ∀ k, (qT T).testBit k = true → w k = v k) : sTs w T xs := fun k hk => ⟨fun q => by rw [h _ (qT_get.mpr ⟨k, hk, q, rfl⟩)]; exact (hs k hk).1 q, (hs k hk).2⟩
theorem fit_iff {T : pCd} {l h : Int} {b nv : Nat} {vl : Nat → Int} {r : pRw} (hT : ∀ y ∈ T, wT1 nv y) (hl : r.1.length = T.length) : (∃ b' v', fitR T l h b vl r = some (b', v')) ↔ (l ≤ r.2 ∧ r.2 ≤ h) ∧ ∃ w, (∀ k, b.testBit k = true → w k = vl k) ∧ sTs w T r.1 := by
  constructor
  · rintro ⟨b', v', e⟩
    unfold fitR at e
    split at e
    · rename_i c
      obtain ⟨m1, m2, m3, m4⟩ := mtc_ok T r.1 b vl b' v' hT (by omega) e
      exact ⟨c, v', m2, m3⟩
    · cases e
  · rintro ⟨c, w, w1, w2⟩
    obtain ⟨b', v', e1, e2⟩ := mtc_some (w := w) T r.1 b vl hT (by omega) w1 w2
    exact ⟨b', v', by unfold fitR; rw [if_pos c]; exact e1⟩
theorem fit_w {T : pCd} {l h : Int} {b nv : Nat} {vl w : Nat → Int} {r : pRw} (hT : ∀ y ∈ T, wT1 nv y) (hl : r.1.length = T.length) (c : l ≤ r.2 ∧ r.2 ≤ h) (w1 : ∀ k, b.testBit k = true → w k = vl k) (w2 : sTs w T r.1) : ∃ v', fitR T l h b vl r = some (b ||| qT T, v') ∧ ∀ k, (b ||| qT T).testBit k = true → v' k = w k := by
  obtain ⟨b', v', e1, e2⟩ := mtc_some (w := w) T r.1 b vl hT (by omega) w1 w2
  have m1 := (mtc_ok T r.1 b vl b' v' hT (by omega) e1).1
  subst m1
  exact ⟨v', by unfold fitR; rw [if_pos c]; exact e1, e2⟩
theorem fit_s {T : pCd} {l h : Int} {b nv : Nat} {vl : Nat → Int} {r : pRw} {b' : Nat} {v' : Nat → Int} (hT : ∀ y ∈ T, wT1 nv y) (hl : r.1.length = T.length) (e : fitR T l h b vl r = some (b', v')) : (l ≤ r.2 ∧ r.2 ≤ h) ∧ b' = b ||| qT T ∧ (∀ k, b.testBit k = true → v' k = vl k) ∧ sTs v' T r.1 := by
  unfold fitR at e
  split at e
  · rename_i c
    obtain ⟨m1, m2, m3, m4⟩ := mtc_ok T r.1 b vl b' v' hT (by omega) e
    exact ⟨c, m1, m2, m3⟩
  · cases e
theorem wyS_mem {P : (Nat → Int) → List (Nat → Int) → Nat → Prop} : ∀ {D V : List (Nat → Int)} {k : Nat}, wyS P D V k → (∀ v ∈ V, ∃ d ∈ D, ∃ V1 k1, P d V1 k1 ∧ v ∈ V1) ∧ ∀ d ∈ D, ∃ V1 k1, P d V1 k1 ∧ ∀ v ∈ V1, v ∈ V
  | [], V, k, h => by
    obtain ⟨rfl, _⟩ := wyS_n h
    exact ⟨(fun v hv => nomatch hv), (fun d hd => nomatch hd)⟩
  | d :: D, V, k, h => by
    obtain ⟨V1, k1, V2, k2, h1, h2, rfl, _⟩ := wyS_c h
    obtain ⟨i1, i2⟩ := wyS_mem h2
    refine ⟨fun v hv => ?_, fun e he => ?_⟩
    · rcases List.mem_append.mp hv with q | q
      · exact ⟨d, List.mem_cons_self, V1, k1, h1, q⟩
      · obtain ⟨e, e1, e2⟩ := i1 v q
        exact ⟨e, List.mem_cons_of_mem _ e1, e2⟩
    · rcases List.mem_cons.mp he with q | q
      · subst q
        exact ⟨V1, k1, h1, fun v hv => List.mem_append.mpr (.inl hv)⟩
      · obtain ⟨V3, k3, e1, e2⟩ := i2 e q
        exact ⟨V3, k3, e1, fun v hv => List.mem_append.mpr (.inr (e2 v hv))⟩
/-- a compare that holds -/
theorem cmpV_s {y : pLt} {b b' : Nat} {vl v' : Nat → Int} (h3 : y.1 = 3) (hq : qBh y b ≠ none) (w1 : wC nv y.2.2.2.2.1) (w2 : wC nv y.2.2.2.2.2) (hk : y.2.1 = 61 ∨ y.2.1 = 257 ∨ y.2.1 = 60 ∨ y.2.1 = 258 ∨ y.2.1 = 62 ∨ y.2.1 = 259) (h : cmpV y b vl = some (b', v')) : (∀ k, b.testBit k = true → v' k = vl k) ∧ sCm v' y := by
  have hlv : qLv y = qVm y.2.2.2.2.1 ||| qVm y.2.2.2.2.2 := by unfold qLv; rw [if_pos h3]
  have hq' : qSub (qLv y) b ∨ (y.2.1 = 61 ∧ (qAl2 y.2.2.2.2.1 ∧ qSub (qVm y.2.2.2.2.2) b ∨ qAl2 y.2.2.2.2.2 ∧ qSub (qVm y.2.2.2.2.1) b)) := by
    unfold qBh at hq
    by_cases c : y.1 = 1 ∨ qSub (qLv y) b
    · rcases c with c | c
      · omega
      · exact .inl c
    · rw [if_neg c] at hq
      by_cases c2 : y.1 = 3 ∧ y.2.1 = 61 ∧ (qAl2 y.2.2.2.2.1 ∧ qSub (qVm y.2.2.2.2.2) b ∨ qAl2 y.2.2.2.2.2 ∧ qSub (qVm y.2.2.2.2.1) b)
      · exact .inr ⟨c2.2.1, c2.2.2⟩
      · rw [if_neg c2] at hq
        exact absurd rfl hq
  have nsub : ∀ {E : pCd} {x : Nat}, E = [(2, (x : Int))] → b.testBit x = false → ¬ qSub (qVm E) b := fun {E x} hE hb hs => by
    have := qSub_t.mp hs x (by rw [hE]; exact qVm_m (List.mem_singleton.mpr rfl) rfl rfl)
    rw [hb] at this; cases this
  have one : ∀ {E F : pCd} {x : Nat} {z : Int}, E = [(2, (x : Int))] → wC nv F → b.testBit x = false → qSub (qVm F) b → qEv vl F = some z → (∀ k, b.testBit k = true → fUpd vl x z k = vl k) ∧ qEv (fUpd vl x z) E = some z ∧ qEv (fUpd vl x z) F = some z := fun {E F x z} hE hF hb hs ho => by
    have up : ∀ k, b.testBit k = true → fUpd vl x z k = vl k := fun k hk => by
      unfold fUpd
      rw [if_neg (fun q => by rw [q, hb] at hk; cases hk)]
    refine ⟨up, ?_, ?_⟩
    · rw [hE]
      show some (fUpd vl x z (x : Int).toNat) = some z
      unfold fUpd
      rw [Int.toNat_natCast, if_pos rfl]
    · rw [qEv_xt hF (w := vl) (fun k hk => up k (qSub_t.mp hs k hk))]; exact ho
  unfold cmpV at h
  split at h
  · rename_i c
    obtain ⟨x, hx, hE⟩ := qAl_is w1 c.2.1
    have ex : (y.2.2.2.2.1.getD 0 (0, 0)).2.toNat = x := by rw [hE]; rfl
    rw [ex] at h
    have cb := c.2.2
    rw [ex] at cb
    cases ho : qEv vl y.2.2.2.2.2 with
    | none => rw [ho] at h; cases h
    | some z =>
      rw [ho] at h
      injection h with h
      injection h with _ h
      have hR : qSub (qVm y.2.2.2.2.2) b := by
        rcases hq' with q | ⟨_, ⟨_, q⟩ | ⟨_, q⟩⟩
        · rw [hlv] at q; exact (qSub_or q).2
        · exact q
        · exact absurd q (nsub hE cb)
      obtain ⟨o1, o2, o3⟩ := one hE w2 cb hR ho
      rw [← h]
      exact ⟨o1, z, z, o2, o3, (cmB_c (.inl c.1)).2.mp (by unfold cmB; rw [if_pos c.1, if_pos rfl])⟩
  · rename_i n1
    split at h
    · rename_i c
      obtain ⟨x, hx, hE⟩ := qAl_is w2 c.2.1
      have ex : (y.2.2.2.2.2.getD 0 (0, 0)).2.toNat = x := by rw [hE]; rfl
      rw [ex] at h
      have cb := c.2.2
      rw [ex] at cb
      cases ho : qEv vl y.2.2.2.2.1 with
      | none => rw [ho] at h; cases h
      | some z =>
        rw [ho] at h
        injection h with h
        injection h with _ h
        have hL : qSub (qVm y.2.2.2.2.1) b := by
          rcases hq' with q | ⟨_, ⟨_, q⟩ | ⟨_, q⟩⟩
          · rw [hlv] at q; exact (qSub_or q).1
          · exact absurd q (nsub hE cb)
          · exact q
        obtain ⟨o1, o2, o3⟩ := one hE w1 cb hL ho
        rw [← h]
        exact ⟨o1, z, z, o3, o2, (cmB_c (.inl c.1)).2.mp (by unfold cmB; rw [if_pos c.1, if_pos rfl])⟩
    · cases o1 : qEv vl y.2.2.2.2.1 with
      | none => rw [o1] at h; cases h
      | some x1 =>
        cases o2 : qEv vl y.2.2.2.2.2 with
        | none => rw [o1, o2] at h; cases h
        | some x2 =>
          rw [o1, o2] at h
          have h' : (if cmB y.2.1 x1 x2 = 1 then some (b, vl) else none) = some (b', v') := h
          split at h'
          · rename_i cc
            injection h' with h'
            injection h' with _ h'
            rw [← h']
            exact ⟨fun _ _ => rfl, x1, x2, o1, o2, (cmB_c hk).2.mp cc⟩
          · cases h'
/-- what a choice gives -/
theorem chs_s {p : Nat} {pr : List Nat} {b : Nat} {vl d : Nat → Int} {D : List (Nat → Int)} (hC : wsC Ls nv R) (hp : p < Ls.length) (hq : qBh (Ls.getD p dLt) b ≠ none) (h : chs Ls a br R lo hi p pr b vl D) (hd : d ∈ D) : (∀ k, b.testBit k = true → d k = vl k) ∧ ∀ v, (∀ k, (b ||| qLv (Ls.getD p dLt)).testBit k = true → v k = d k) → litO Ls R lo hi p v := by
  rcases hC p hp with ⟨c1, c2, c3, c4⟩ | ⟨c1, c2, c3, c4⟩
  · rcases h with ⟨h1, D0, h2, h3, h4⟩ | ⟨h1, h2, h3⟩ | ⟨h1, _⟩
    · obtain ⟨z, z1, z2⟩ : ∃ z, z ∈ D0 ∧ z.2 = d := by
        by_cases cm : mre Ls a br (Ls.getD p dLt) pr b
        · rw [h3 cm] at hd
          exact List.mem_map.mp hd
        · rw [h4 cm] at hd
          obtain ⟨z, z1, z2⟩ := List.mem_map.mp hd
          exact ⟨z, List.mem_of_mem_take z1, z2⟩
      obtain ⟨y1, y2, y3, b', y4⟩ := (h2.2 z).mp z1
      have hm : (R (Ls.getD p dLt).2.1.toNat).getD z.1 dRw ∈ R (Ls.getD p dLt).2.1.toNat := by rw [getD_e y2]; exact List.getElem_mem y2
      obtain ⟨s1, s2, s3, s4⟩ := fit_s c2 (c4 _ hm) y4
      rw [z2] at s3 s4
      refine ⟨s3, fun v hv => ⟨fun _ => ⟨_, hm, s1, sTs_on s4 (fun k hk => hv k ?_)⟩, fun q => by omega, fun q => by omega⟩⟩
      rw [qT_lv (by omega), Nat.testBit_or, hk, Bool.or_true]
    · by_cases cn : ∀ j, j < (R (Ls.getD p dLt).2.1.toNat).length → fitR (Ls.getD p dLt).2.2.2.1 (lo p) (hi p) b vl ((R (Ls.getD p dLt).2.1.toNat).getD j dRw) = none
      · rw [h2 cn] at hd
        have ed := List.mem_singleton.mp hd
        subst ed
        refine ⟨fun _ _ => rfl, fun v hv => ⟨fun q => by omega, fun _ ⟨r, r1, r2, r3⟩ => ?_, fun q => by omega⟩⟩
        obtain ⟨j, hj, ej⟩ := List.getElem_of_mem r1
        have nn := cn j hj
        rw [getD_e hj, ej] at nn
        obtain ⟨v', e, _⟩ := fit_w (vl := d) (w := v) c2 (c4 r r1) r2 (fun k hk => hv k (by rw [Nat.testBit_or, hk]; rfl)) r3
        rw [nn] at e; cases e
      · rw [h3 cn] at hd; cases hd
    · omega
  · rcases h with ⟨h1, _⟩ | ⟨h1, _⟩ | ⟨h1, h2, h3⟩
    · omega
    · omega
    · cases hc : cmpV (Ls.getD p dLt) b vl with
      | none => rw [h3 hc] at hd; cases hd
      | some z =>
        obtain ⟨b', v'⟩ := z
        rw [h2 _ _ hc] at hd
        have ed := List.mem_singleton.mp hd
        subst ed
        have hB := cmpV_b c1 hq hc
        have hlv : qLv (Ls.getD p dLt) = qVm (Ls.getD p dLt).2.2.2.2.1 ||| qVm (Ls.getD p dLt).2.2.2.2.2 := by unfold qLv; rw [if_pos c1]
        have key := cmpV_s c1 hq c2.1 c3.1 c4 hc
        refine ⟨key.1, fun v hv => ⟨fun q => by omega, fun q => by omega, fun _ => ?_⟩⟩
        obtain ⟨x1, x2, e1, e2, e3⟩ := key.2
        refine ⟨x1, x2, ?_, ?_, e3⟩
        · rw [qEv_xt c2.1 (w := d) (fun k hk => hv k (by rw [hlv, Nat.testBit_or, Nat.testBit_or, hk, Bool.true_or, Bool.or_true]))]; exact e1
        · rw [qEv_xt c3.1 (w := d) (fun k hk => hv k (by rw [hlv, Nat.testBit_or, Nat.testBit_or, hk, Bool.or_true, Bool.or_true]))]; exact e2
end
end
section
/-! THE CLASS: all WAYS are found, each once -/
section
variable {Ls : List pLt} {a nv : Nat} {br : Int} {R : Nat → List pRw} {lo hi : Nat → Int}
theorem wy_snd (hC : wsC Ls nv R) : ∀ (pr : List Nat) (b : Nat) (vl : Nat → Int) (V : List (Nat → Int)) (k : Nat), (∀ p ∈ pr, p < Ls.length) → okP Ls pr b → wyE Ls a br R lo hi pr b vl V k → ∀ v ∈ V, (∀ k, b.testBit k = true → v k = vl k) ∧ ∀ p ∈ pr, litO Ls R lo hi p v
  | [], b, vl, V, k, _, _, h, v, hv => by
    obtain ⟨rfl, _⟩ : V = [vl] ∧ k = 1 := h
    rw [List.mem_singleton.mp hv]
    exact ⟨fun _ _ => rfl, (fun p hp => nomatch hp)⟩
  | p :: pr, b, vl, V, k, hp, hok, h, v, hv => by
    obtain ⟨D, k', h1, h2, _⟩ := h
    obtain ⟨d, d1, V1, k1, d2, d3⟩ := (wyS_mem h2).1 v hv
    obtain ⟨i1, i2⟩ := wy_snd hC pr _ d V1 k1 (fun q hq => hp q (List.mem_cons_of_mem _ hq)) hok.2 d2 v d3
    obtain ⟨s1, s2⟩ := chs_s hC (hp p List.mem_cons_self) hok.1 h1 d1
    refine ⟨fun k hk => by rw [i1 k (by rw [Nat.testBit_or, hk]; rfl), s1 k hk], fun q hq => ?_⟩
    rcases List.mem_cons.mp hq with e | e
    · subst e
      exact s2 v i1
    · exact i2 q e
/-- a compare that holds for w is found -/
theorem cmpV_w {y : pLt} {b : Nat} {vl w : Nat → Int} (h3 : y.1 = 3) (hq : qBh y b ≠ none) (w1 : wC nv y.2.2.2.2.1) (w2 : wC nv y.2.2.2.2.2) (hk : y.2.1 = 61 ∨ y.2.1 = 257 ∨ y.2.1 = 60 ∨ y.2.1 = 258 ∨ y.2.1 = 62 ∨ y.2.1 = 259) (hw : ∀ k, b.testBit k = true → (qLv y).testBit k = true → w k = vl k) (h : sCm w y) : ∃ b' v', cmpV y b vl = some (b', v') ∧ ∀ k, (qLv y).testBit k = true → v' k = w k := by
  have hlv : qLv y = qVm y.2.2.2.2.1 ||| qVm y.2.2.2.2.2 := by unfold qLv; rw [if_pos h3]
  have hq' : qSub (qLv y) b ∨ (y.2.1 = 61 ∧ (qAl2 y.2.2.2.2.1 ∧ qSub (qVm y.2.2.2.2.2) b ∨ qAl2 y.2.2.2.2.2 ∧ qSub (qVm y.2.2.2.2.1) b)) := by
    unfold qBh at hq
    by_cases c : y.1 = 1 ∨ qSub (qLv y) b
    · rcases c with c | c
      · omega
      · exact .inl c
    · rw [if_neg c] at hq
      by_cases c2 : y.1 = 3 ∧ y.2.1 = 61 ∧ (qAl2 y.2.2.2.2.1 ∧ qSub (qVm y.2.2.2.2.2) b ∨ qAl2 y.2.2.2.2.2 ∧ qSub (qVm y.2.2.2.2.1) b)
      · exact .inr ⟨c2.2.1, c2.2.2⟩
      · rw [if_neg c2] at hq
        exact absurd rfl hq
  have inL : ∀ k, (qVm y.2.2.2.2.1).testBit k = true → (qLv y).testBit k = true := fun k hk => by rw [hlv, Nat.testBit_or, hk]; rfl
  have inR : ∀ k, (qVm y.2.2.2.2.2).testBit k = true → (qLv y).testBit k = true := fun k hk => by rw [hlv, Nat.testBit_or, hk, Bool.or_true]
  have nsub : ∀ {E : pCd} {x : Nat}, E = [(2, (x : Int))] → b.testBit x = false → ¬ qSub (qVm E) b := fun {E x} hE hb hs => by
    have := qSub_t.mp hs x (by rw [hE]; exact qVm_m (List.mem_singleton.mpr rfl) rfl rfl)
    rw [hb] at this; cases this
  have onB : ∀ {E : pCd}, wC nv E → (∀ k, (qVm E).testBit k = true → (qLv y).testBit k = true) → qSub (qVm E) b → qEv vl E = qEv w E := fun hE hi hs => qEv_xt hE (fun k hk => (hw k (qSub_t.mp hs k hk) (hi k hk)).symm)
  have sing : ∀ {E : pCd} {x k : Nat}, E = [(2, (x : Int))] → (qVm E).testBit k = true → k = x := fun {E x k} hE hk => by
    rw [hE] at hk
    have : ((if (2 : Int) = 2 then 2 ^ (x : Int).toNat else 0) ||| 0).testBit k = true := hk
    rw [if_pos rfl, Int.toNat_natCast, Nat.or_zero, Nat.testBit_two_pow] at this
    exact (of_decide_eq_true this).symm
  have ev1 : ∀ {E : pCd} {x : Nat}, E = [(2, (x : Int))] → qEv w E = some (w x) := fun hE => by rw [hE]; rfl
  obtain ⟨x1, x2, e1, e2, e3⟩ := h
  unfold cmpV
  split
  · rename_i c
    obtain ⟨x, hx, hE⟩ := qAl_is w1 c.2.1
    have ex : (y.2.2.2.2.1.getD 0 (0, 0)).2.toNat = x := by rw [hE]; rfl
    have cb := c.2.2
    rw [ex] at cb ⊢
    have hR : qSub (qVm y.2.2.2.2.2) b := by
      rcases hq' with q | ⟨_, ⟨_, q⟩ | ⟨_, q⟩⟩
      · rw [hlv] at q; exact (qSub_or q).2
      · exact q
      · exact absurd q (nsub hE cb)
    rw [onB w2 inR hR, e2]
    refine ⟨_, _, rfl, fun k hk => ?_⟩
    unfold fUpd
    rw [ev1 hE] at e1
    injection e1 with e1
    have eq : x1 = x2 := e3.1 c.1
    by_cases ck : k = x
    · rw [if_pos ck, ck, e1, eq]
    · rw [if_neg ck]
      rw [hlv, Nat.testBit_or, Bool.or_eq_true] at hk
      rcases hk with hk | hk
      · exact absurd (sing hE hk) ck
      · exact (hw k (qSub_t.mp hR k hk) (inR k hk)).symm
  · rename_i n1
    split
    · rename_i c
      obtain ⟨x, hx, hE⟩ := qAl_is w2 c.2.1
      have ex : (y.2.2.2.2.2.getD 0 (0, 0)).2.toNat = x := by rw [hE]; rfl
      have cb := c.2.2
      rw [ex] at cb ⊢
      have hL : qSub (qVm y.2.2.2.2.1) b := by
        rcases hq' with q | ⟨_, ⟨_, q⟩ | ⟨_, q⟩⟩
        · rw [hlv] at q; exact (qSub_or q).1
        · exact absurd q (nsub hE cb)
        · exact q
      rw [onB w1 inL hL, e1]
      refine ⟨_, _, rfl, fun k hk => ?_⟩
      unfold fUpd
      rw [ev1 hE] at e2
      injection e2 with e2
      have eq : x1 = x2 := e3.1 c.1
      by_cases ck : k = x
      · rw [if_pos ck, ck, e2, eq]
      · rw [if_neg ck]
        rw [hlv, Nat.testBit_or, Bool.or_eq_true] at hk
        rcases hk with hk | hk
        · exact (hw k (qSub_t.mp hL k hk) (inL k hk)).symm
        · exact absurd (sing hE hk) ck
    · rename_i n2
      have hs : qSub (qVm y.2.2.2.2.1) b ∧ qSub (qVm y.2.2.2.2.2) b := by
        rcases hq' with q | ⟨e, ⟨q, q'⟩ | ⟨q, q'⟩⟩
        · rw [hlv] at q; exact qSub_or q
        · refine ⟨qSub_t.mpr (fun j hj => ?_), q'⟩
          obtain ⟨x, hx, hE⟩ := qAl_is w1 q
          rw [sing hE hj]
          cases hb : b.testBit x with
          | true => rfl
          | false => exact absurd ⟨e, q, by rw [hE]; exact hb⟩ n1
        · refine ⟨q', qSub_t.mpr (fun j hj => ?_)⟩
          obtain ⟨x, hx, hE⟩ := qAl_is w2 q
          rw [sing hE hj]
          cases hb : b.testBit x with
          | true => rfl
          | false => exact absurd ⟨e, q, by rw [hE]; exact hb⟩ n2
      rw [onB w1 inL hs.1, onB w2 inR hs.2, e1, e2]
      show ∃ b' v', (if cmB y.2.1 x1 x2 = 1 then some (b, vl) else none) = some (b', v') ∧ _
      rw [if_pos ((cmB_c hk).2.mpr e3)]
      refine ⟨b, vl, rfl, fun k hk => ?_⟩
      rw [hlv, Nat.testBit_or, Bool.or_eq_true] at hk
      rcases hk with hk | hk
      · exact (hw k (qSub_t.mp hs.1 k hk) (inL k hk)).symm
      · exact (hw k (qSub_t.mp hs.2 k hk) (inR k hk)).symm
theorem isRp_min {T : pCd} {l h : Int} {Rp : List pRw} : ∀ (i : Nat), (l ≤ (Rp.getD i dRw).2 ∧ (Rp.getD i dRw).2 ≤ h) → ∃ j, j ≤ i ∧ (l ≤ (Rp.getD j dRw).2 ∧ (Rp.getD j dRw).2 ≤ h) ∧ sameT T (Rp.getD i dRw).1 (Rp.getD j dRw).1 ∧ ¬ isRp T l h Rp j := by
  intro i
  induction i using Nat.strongRecOn with
  | _ i ih =>
    intro hr
    by_cases c : isRp T l h Rp i
    · obtain ⟨_, j, j1, j2, j3⟩ := c
      obtain ⟨k, k1, k2, k3, k4⟩ := ih j j1 j2
      refine ⟨k, by omega, k2, fun c hc => ?_, k4⟩
      rcases j3 c hc with q | q
      · exact .inl q
      · rcases k3 c hc with q2 | q2
        · exact .inl q2
        · exact .inr (q.trans q2)
    · exact ⟨i, Nat.le_refl _, hr, fun c _ => .inr rfl, c⟩
theorem same_s {T : pCd} {v : Nat → Int} {xs ys : List Int} (h : sameT T xs ys) (hs : sTs v T xs) : sTs v T ys := fun k hk => by
  rcases h k hk with q | q
  · exact ⟨fun z => by omega, fun z => by omega⟩
  · rw [← q]; exact hs k hk
theorem plA_t {k : Nat} : ∀ (pr : List Nat), (plA Ls a pr).testBit k = true ↔ a.testBit k = true ∨ ∃ q ∈ pr, (qLv (Ls.getD q dLt)).testBit k = true
  | [] => ⟨.inl, fun h => h.elim id (fun ⟨q, q1, _⟩ => nomatch q1)⟩
  | p :: pr => by
    show (plA Ls a pr ||| qLv (Ls.getD p dLt)).testBit k = true ↔ _
    rw [Nat.testBit_or, Bool.or_eq_true, plA_t pr]
    constructor
    · rintro ((h | ⟨q, q1, q2⟩) | h)
      · exact .inl h
      · exact .inr ⟨q, List.mem_cons_of_mem _ q1, q2⟩
      · exact .inr ⟨p, List.mem_cons_self, h⟩
    · rintro (h | ⟨q, q1, q2⟩)
      · exact .inl (.inl h)
      · rcases List.mem_cons.mp q1 with e | e
        · subst e; exact .inr q2
        · exact .inl (.inr ⟨q, e, q2⟩)
/-- all that are asked for are found: N k says that k is asked for behind the LITERALS -/
theorem wy_cmp (hC : wsC Ls nv R) (N : Nat → Prop) (hN : br ≠ 0 → ∀ k, a.testBit k = true ↔ N k) (hN0 : br = 0 → ∀ k, N k) : ∀ (pr : List Nat) (b : Nat) (vl : Nat → Int) (V : List (Nat → Int)) (k : Nat) (w : Nat → Int), (∀ p ∈ pr, p < Ls.length) → okP Ls pr b → wyE Ls a br R lo hi pr b vl V k → (∀ k, b.testBit k = true → (N k ∨ ∃ p ∈ pr, (qLv (Ls.getD p dLt)).testBit k = true) → w k = vl k) → (∀ p ∈ pr, litO Ls R lo hi p w) → ∃ v ∈ V, ∀ k, (mkP Ls pr b).testBit k = true → N k → v k = w k
  | [], b, vl, V, k, w, _, _, h, hw, _ => by
    obtain ⟨rfl, _⟩ : V = [vl] ∧ k = 1 := h
    exact ⟨vl, List.mem_singleton.mpr rfl, fun k hk hn => (hw k hk (.inl hn)).symm⟩
  | p :: pr, b, vl, V, k, w, hp, hok, h, hw, hl => by
    obtain ⟨D, k', h1, h2, _⟩ := h
    have hpl := hp p List.mem_cons_self
    have hlp := hl p List.mem_cons_self
    -- enough: a choice that agrees on what comes behind
    have fin : ∀ d ∈ D, (∀ k, (b ||| qLv (Ls.getD p dLt)).testBit k = true → (N k ∨ ∃ q ∈ pr, (qLv (Ls.getD q dLt)).testBit k = true) → w k = d k) → ∃ v ∈ V, ∀ k, (mkP Ls (p :: pr) b).testBit k = true → N k → v k = w k := fun d hd hwd => by
      obtain ⟨V1, k1, d2, d3⟩ := (wyS_mem h2).2 d hd
      obtain ⟨v, v1, v2⟩ := wy_cmp hC N hN hN0 pr _ d V1 k1 w (fun q hq => hp q (List.mem_cons_of_mem _ hq)) hok.2 d2 hwd (fun q hq => hl q (List.mem_cons_of_mem _ hq))
      exact ⟨v, d3 v v1, v2⟩
    have hwb : ∀ k, b.testBit k = true → (N k ∨ ∃ q ∈ pr, (qLv (Ls.getD q dLt)).testBit k = true) → w k = vl k := fun k hk hn => hw k hk (hn.imp id (fun ⟨q, q1, q2⟩ => ⟨q, List.mem_cons_of_mem _ q1, q2⟩))
    have hwl : ∀ k, b.testBit k = true → (qLv (Ls.getD p dLt)).testBit k = true → w k = vl k := fun k hk hq => hw k hk (.inr ⟨p, List.mem_cons_self, hq⟩)
    rcases hC p hpl with ⟨c1, c2, c3, c4⟩ | ⟨c1, c2, c3, c4⟩
    · have hqt : qLv (Ls.getD p dLt) = qT (Ls.getD p dLt).2.2.2.1 := qT_lv (by omega)
      rcases h1 with ⟨g1, D0, g2, g3, g4⟩ | ⟨g1, g2, g3⟩ | ⟨g1, _⟩
      · obtain ⟨r, r1, r2, r3⟩ := hlp.1 g1
        obtain ⟨i, hi', ei⟩ := List.getElem_of_mem r1
        have ei' : (R (Ls.getD p dLt).2.1.toNat).getD i dRw = r := by rw [getD_e hi', ei]
        -- w with what is bound
        obtain ⟨w', hw'⟩ : ∃ w' : Nat → Int, w' = fun k => if b.testBit k = true then vl k else w k := ⟨_, rfl⟩
        have wb : ∀ k, b.testBit k = true → w' k = vl k := fun k hk => by rw [hw']; exact if_pos hk
        have wn : ∀ k, (qLv (Ls.getD p dLt)).testBit k = true → w' k = w k := fun k hk => by
          rw [hw']
          by_cases c : b.testBit k = true
          · show (if b.testBit k = true then vl k else w k) = w k
            rw [if_pos c, hwl k c hk]
          · exact if_neg c
        have s' : sTs w' (Ls.getD p dLt).2.2.2.1 r.1 := sTs_on r3 (fun k hk => wn k (by rw [hqt]; exact hk))
        -- the row that is taken for r
        obtain ⟨j, j1, j2, j3, j4⟩ : ∃ j, j ≤ i ∧ (lo p ≤ ((R (Ls.getD p dLt).2.1.toNat).getD j dRw).2 ∧ ((R (Ls.getD p dLt).2.1.toNat).getD j dRw).2 ≤ hi p) ∧ sTs w' (Ls.getD p dLt).2.2.2.1 ((R (Ls.getD p dLt).2.1.toNat).getD j dRw).1 ∧ (br ≠ 0 ∨ ¬ isRp (Ls.getD p dLt).2.2.2.1 (lo p) (hi p) (R (Ls.getD p dLt).2.1.toNat) j) := by
          by_cases cb : br ≠ 0
          · exact ⟨i, Nat.le_refl _, by rw [ei']; exact r2, by rw [ei']; exact s', .inl cb⟩
          · obtain ⟨j, j1, j2, j3, j4⟩ := isRp_min (T := (Ls.getD p dLt).2.2.2.1) (l := lo p) (h := hi p) (Rp := R (Ls.getD p dLt).2.1.toNat) i (by rw [ei']; exact r2)
            rw [ei'] at j3
            exact ⟨j, j1, j2, same_s j3 s', .inr j4⟩
        have hj : j < (R (Ls.getD p dLt).2.1.toNat).length := by omega
        have hm : (R (Ls.getD p dLt).2.1.toNat).getD j dRw ∈ R (Ls.getD p dLt).2.1.toNat := by rw [getD_e hj]; exact List.getElem_mem hj
        obtain ⟨v', f1, f2⟩ := fit_w (vl := vl) c2 (c4 _ hm) j2 wb j3
        have acc : accR (Ls.getD p dLt).2.2.2.1 (lo p) (hi p) (R (Ls.getD p dLt).2.1.toNat) b vl br j := ⟨_, v', f1, j4.imp id .inr⟩
        have memj : (j, v') ∈ D0 := (g2.2 _).mpr ⟨Nat.zero_le _, hj, acc, _, f1⟩
        by_cases cm : mre Ls a br (Ls.getD p dLt) pr b
        · refine fin v' (by rw [g3 cm]; exact List.mem_map.mpr ⟨_, memj, rfl⟩) (fun k hk hn => ?_)
          rw [f2 k (by rw [← hqt]; exact hk)]
          by_cases c : b.testBit k = true
          · rw [wb k c]; exact hwb k c hn
          · rw [hw']; exact (if_neg c).symm
        · -- the first row does as well
          match D0, g2, g4, memj with
          | z :: D0', g2, g4, _ =>
            obtain ⟨y1, y2, y3, b', y4⟩ := (g2.2 z).mp List.mem_cons_self
            have hmz : (R (Ls.getD p dLt).2.1.toNat).getD z.1 dRw ∈ R (Ls.getD p dLt).2.1.toNat := by rw [getD_e y2]; exact List.getElem_mem y2
            obtain ⟨_, _, s3, _⟩ := fit_s c2 (c4 _ hmz) y4
            refine fin z.2 (by rw [g4 cm]; exact List.mem_singleton.mpr rfl) (fun k hk hn => ?_)
            by_cases c : b.testBit k = true
            · rw [s3 k c]; exact hwb k c hn
            · exfalso
              refine cm ⟨k, hk, by cases hz : b.testBit k; rfl; exact absurd hz c, fun cb => ?_⟩
              rw [plA_t]
              exact hn.imp (fun q => (hN cb k).mpr q) id
      · have cn : ∀ j, j < (R (Ls.getD p dLt).2.1.toNat).length → fitR (Ls.getD p dLt).2.2.2.1 (lo p) (hi p) b vl ((R (Ls.getD p dLt).2.1.toNat).getD j dRw) = none := fun j hj => by
          have hm : (R (Ls.getD p dLt).2.1.toNat).getD j dRw ∈ R (Ls.getD p dLt).2.1.toNat := by rw [getD_e hj]; exact List.getElem_mem hj
          cases hq : fitR (Ls.getD p dLt).2.2.2.1 (lo p) (hi p) b vl ((R (Ls.getD p dLt).2.1.toNat).getD j dRw) with
          | none => rfl
          | some z =>
            obtain ⟨s1, s2, s3, s4⟩ := fit_s (b' := z.1) (v' := z.2) c2 (c4 _ hm) hq
            refine absurd ⟨_, hm, s1, sTs_on s4 (fun k hk => ?_)⟩ (hlp.2.1 g1)
            have hqs : qSub (qLv (Ls.getD p dLt)) b := by
              have hq0 := hok.1
              unfold qBh at hq0
              by_cases c : (Ls.getD p dLt).1 = 1 ∨ qSub (qLv (Ls.getD p dLt)) b
              · exact c.elim (fun q => by omega) id
              · rw [if_neg c, if_neg (fun q => by have := q.1; omega)] at hq0
                exact absurd rfl hq0
            have hkl : (qLv (Ls.getD p dLt)).testBit k = true := by rw [hqt]; exact hk
            have hkb := qSub_t.mp hqs k hkl
            rw [s3 k hkb, hwl k hkb hkl]
        refine fin vl (by rw [g2 cn]; exact List.mem_singleton.mpr rfl) (fun k hk hn => ?_)
        rw [Nat.testBit_or, Bool.or_eq_true] at hk
        have hqs : qSub (qLv (Ls.getD p dLt)) b := by
          have hq0 := hok.1
          unfold qBh at hq0
          by_cases c : (Ls.getD p dLt).1 = 1 ∨ qSub (qLv (Ls.getD p dLt)) b
          · exact c.elim (fun q => by omega) id
          · rw [if_neg c, if_neg (fun q => by have := q.1; omega)] at hq0
            exact absurd rfl hq0
        exact hwb k (hk.elim id (fun q => qSub_t.mp hqs k q)) hn
      · omega
    · rcases h1 with ⟨g1, _⟩ | ⟨g1, _⟩ | ⟨g1, g2, g3⟩
      · omega
      · omega
      · obtain ⟨b', v', e1, e2⟩ := cmpV_w c1 hok.1 c2.1 c3.1 c4 hwl (hlp.2.2 g1)
        have hs := cmpV_s c1 hok.1 c2.1 c3.1 c4 e1
        refine fin v' (by rw [g2 _ _ e1]; exact List.mem_singleton.mpr rfl) (fun k hk hn => ?_)
        by_cases c : (qLv (Ls.getD p dLt)).testBit k = true
        · exact (e2 k c).symm
        · rw [Nat.testBit_or, Bool.or_eq_true] at hk
          have hb := hk.elim id (fun q => absurd q c)
          rw [hs.1 k hb]; exact hwb k hb hn
end
end
section
/-! THE CLASS: each WAY once -/
section
variable {Ls : List pLt} {a nv : Nat} {R : Nat → List pRw} {lo hi : Nat → Int}
theorem mkP_in {k : Nat} : ∀ (pr : List Nat) (b : Nat), (mkP Ls pr b).testBit k = true ↔ b.testBit k = true ∨ ∃ p ∈ pr, (qLv (Ls.getD p dLt)).testBit k = true
  | [], b => ⟨.inl, fun h => h.elim id (fun ⟨q, q1, _⟩ => nomatch q1)⟩
  | p :: pr, b => by
    show (mkP Ls pr (b ||| qLv (Ls.getD p dLt))).testBit k = true ↔ _
    rw [mkP_in pr, Nat.testBit_or, Bool.or_eq_true]
    constructor
    · rintro ((h | h) | ⟨q, q1, q2⟩)
      · exact .inl h
      · exact .inr ⟨p, List.mem_cons_self, h⟩
      · exact .inr ⟨q, List.mem_cons_of_mem _ q1, q2⟩
    · rintro (h | ⟨q, q1, q2⟩)
      · exact .inl (.inl h)
      · rcases List.mem_cons.mp q1 with e | e
        · subst e; exact .inl (.inr q2)
        · exact .inr ⟨q, e, q2⟩
/-- two values differ on a mask -/
def dfO (B : Nat) (v w : Nat → Int) : Prop := ∃ k, B.testBit k = true ∧ v k ≠ w k
theorem chs_u {p : Nat} {pr : List Nat} {b : Nat} {vl : Nat → Int} {D : List (Nat → Int)} (hC : wsC Ls nv R) (hp : p < Ls.length) (h : chs Ls a 0 R lo hi p pr b vl D) : D.Pairwise (dfO (b ||| qLv (Ls.getD p dLt))) := by
  rcases hC p hp with ⟨c1, c2, c3, c4⟩ | ⟨c1, c2, c3, c4⟩
  · rcases h with ⟨h1, D0, h2, h3, h4⟩ | ⟨h1, h2, h3⟩ | ⟨h1, _⟩
    · by_cases cm : mre Ls a 0 (Ls.getD p dLt) pr b
      · rw [h3 cm, List.pairwise_map]
        refine h2.1.imp_of_mem (fun {x y} hx hy hxy => ?_)
        obtain ⟨x1, x2, x3, bx, x4⟩ := (h2.2 x).mp hx
        obtain ⟨y1, y2, y3, bY, y4⟩ := (h2.2 y).mp hy
        have hmx : (R (Ls.getD p dLt).2.1.toNat).getD x.1 dRw ∈ R (Ls.getD p dLt).2.1.toNat := by rw [getD_e x2]; exact List.getElem_mem x2
        have hmy : (R (Ls.getD p dLt).2.1.toNat).getD y.1 dRw ∈ R (Ls.getD p dLt).2.1.toNat := by rw [getD_e y2]; exact List.getElem_mem y2
        obtain ⟨sx1, sx2, sx3, sx4⟩ := fit_s c2 (c4 _ hmx) x4
        obtain ⟨sy1, sy2, sy3, sy4⟩ := fit_s c2 (c4 _ hmy) y4
        refine Classical.byContradiction (fun hn => ?_)
        have heq : ∀ k, (qT (Ls.getD p dLt).2.2.2.1).testBit k = true → x.2 k = y.2 k := fun k hk => Classical.byContradiction (fun q => hn ⟨k, by rw [qT_lv (by omega), Nat.testBit_or, hk, Bool.or_true], q⟩)
        have sm : sameT (Ls.getD p dLt).2.2.2.1 ((R (Ls.getD p dLt).2.1.toNat).getD y.1 dRw).1 ((R (Ls.getD p dLt).2.1.toNat).getD x.1 dRw).1 := fun c hc => by
          have hm : (Ls.getD p dLt).2.2.2.1.getD c (0, 0) ∈ (Ls.getD p dLt).2.2.2.1 := by rw [getD_e hc]; exact List.getElem_mem hc
          rcases c2 _ hm with q | q | q
          · refine .inr ?_
            rw [← (sy4 c hc).1 q.1, ← (sx4 c hc).1 q.1]
            exact (heq _ (qT_get.mpr ⟨c, hc, q.1, rfl⟩)).symm
          · exact .inl q
          · refine .inr ?_
            rw [← (sy4 c hc).2 q.1, ← (sx4 c hc).2 q.1]
        -- y is no repetition
        obtain ⟨b2, v2, e1, e2⟩ := y3
        have nrep : ¬ isRp (Ls.getD p dLt).2.2.2.1 (lo p) (hi p) (R (Ls.getD p dLt).2.1.toNat) y.1 := by
          rcases e2 with q | q | q
          · exact absurd rfl q
          · exfalso
            rw [e1] at y4
            injection y4 with y4
            injection y4 with y4 _
            obtain ⟨j, j1, j2, _⟩ := cm
            rw [qT_lv (by omega), ← sy2, ← y4, q, j2] at j1
            cases j1
          · exact q
        by_cases ca : ∃ c, c < (Ls.getD p dLt).2.2.2.1.length ∧ ((Ls.getD p dLt).2.2.2.1.getD c (0, 0)).1 = 2
        · exact nrep ⟨ca, x.1, hxy, sx1, sm⟩
        · have hp1 := List.pairwise_iff_getElem.mp c3 x.1 y.1 x2 y2 hxy
          rw [← getD_e (d := dRw) x2, ← getD_e (d := dRw) y2] at hp1
          have lx := c4 _ hmx
          have ly := c4 _ hmy
          have er : ((R (Ls.getD p dLt).2.1.toNat).getD x.1 dRw).1 = ((R (Ls.getD p dLt).2.1.toNat).getD y.1 dRw).1 := by
            refine List.ext_getElem (by omega) (fun c d1 d2 => ?_)
            have q := sm c (by omega)
            rcases q with q | q
            · exact absurd ⟨c, by omega, q⟩ ca
            · have q1 : ((R (Ls.getD p dLt).2.1.toNat).getD y.1 dRw).1.getD c 0 = ((R (Ls.getD p dLt).2.1.toNat).getD y.1 dRw).1[c] := getD_e d2
              have q2 : ((R (Ls.getD p dLt).2.1.toNat).getD x.1 dRw).1.getD c 0 = ((R (Ls.getD p dLt).2.1.toNat).getD x.1 dRw).1[c] := getD_e d1
              exact q2.symm.trans (q.symm.trans q1)
          exact vLt_irr _ (by have hp2 : vLt ((R (Ls.getD p dLt).2.1.toNat).getD x.1 dRw).1 ((R (Ls.getD p dLt).2.1.toNat).getD y.1 dRw).1 := hp1; rw [er] at hp2; exact hp2)
      · rw [h4 cm]
        match D0 with
        | [] => exact List.Pairwise.nil
        | z :: _ => exact List.pairwise_singleton _ _
    · by_cases cn : ∀ j, j < (R (Ls.getD p dLt).2.1.toNat).length → fitR (Ls.getD p dLt).2.2.2.1 (lo p) (hi p) b vl ((R (Ls.getD p dLt).2.1.toNat).getD j dRw) = none
      · rw [h2 cn]; exact List.pairwise_singleton _ _
      · rw [h3 cn]; exact List.Pairwise.nil
    · omega
  · rcases h with ⟨h1, _⟩ | ⟨h1, _⟩ | ⟨h1, h2, h3⟩
    · omega
    · omega
    · cases hc : cmpV (Ls.getD p dLt) b vl with
      | none => rw [h3 hc]; exact List.Pairwise.nil
      | some z => rw [h2 z.1 z.2 hc]; exact List.pairwise_singleton _ _
theorem wyS_u {P : (Nat → Int) → List (Nat → Int) → Nat → Prop} {B C : Nat} (hBC : ∀ k, C.testBit k = true → B.testBit k = true) (hP : ∀ d V k, P d V k → V.Pairwise (dfO B) ∧ ∀ v ∈ V, ∀ k, C.testBit k = true → v k = d k) : ∀ {D V : List (Nat → Int)} {k : Nat}, wyS P D V k → D.Pairwise (dfO C) → V.Pairwise (dfO B)
  | [], V, k, h, _ => by
    obtain ⟨rfl, _⟩ := wyS_n h
    exact List.Pairwise.nil
  | d :: D, V, k, h, hD => by
    obtain ⟨V1, k1, V2, k2, h1, h2, rfl, _⟩ := wyS_c h
    obtain ⟨p1, p2⟩ := List.pairwise_cons.mp hD
    obtain ⟨q1, q2⟩ := hP d V1 k1 h1
    refine List.pairwise_append.mpr ⟨q1, wyS_u hBC hP h2 p2, fun v hv w hw => ?_⟩
    obtain ⟨e, e1, V3, k3, e2, e3⟩ := (wyS_mem h2).1 w hw
    obtain ⟨j, j1, j2⟩ := p1 e e1
    exact ⟨j, hBC j j1, by rw [q2 v hv j j1, (hP e V3 k3 e2).2 w e3 j j1]; exact j2⟩
theorem wy_uni (hC : wsC Ls nv R) : ∀ (pr : List Nat) (b : Nat) (vl : Nat → Int) (V : List (Nat → Int)) (k : Nat), (∀ p ∈ pr, p < Ls.length) → okP Ls pr b → wyE Ls a 0 R lo hi pr b vl V k → V.Pairwise (dfO (mkP Ls pr b))
  | [], b, vl, V, k, _, _, h => by
    obtain ⟨rfl, _⟩ : V = [vl] ∧ k = 1 := h
    exact List.pairwise_singleton _ _
  | p :: pr, b, vl, V, k, hp, hok, h => by
    obtain ⟨D, k', h1, h2, _⟩ := h
    have hp' : ∀ q ∈ pr, q < Ls.length := fun q hq => hp q (List.mem_cons_of_mem _ hq)
    exact wyS_u (fun k hk => (mkP_in pr _).mpr (.inl hk)) (fun d V1 k1 e => ⟨wy_uni hC pr _ d V1 k1 hp' hok.2 e, fun v hv => (wy_snd hC pr _ d V1 k1 hp' hok.2 e v hv).1⟩) h2 (chs_u hC (hp p List.mem_cons_self) h1)
end
end
section
/-! THE CLASS: open(), and what comes of it -/
def c130a (f : Nat) (a0 : Nat) (R135 : (xT_)) : Option (xT_) := ((cq_gr 9 2 14 (a0) R135).bind fun v140 => ((c382 f (v140) (1700) R135).bind fun R142 => (some R142)))
theorem c130a_e (f : Nat) (a0 : Nat) (a1 : Nat) (a2 : Nat) (a3 : Int) (T : xT_) : c130 f a0 a1 a2 a3 T = ((cq_pr 9 3 14 (a0) (a1) T).bind fun T102 => ((cq_pr 9 4 14 (a0) (a2) T102).bind fun T107 => ((cq_pb 9 5 14 (a0) (a3) T107).bind fun T112 => ((cq_p 9 6 14 (a0) (0) T112).bind fun T117 => ((cq_pb 9 7 14 (a0) (1) T117).bind fun T122 => ((cq_gr 9 8 14 (a0) T122).bind fun v126 => ((cq_s 3 (v126) (0) (0) T122).bind fun T129 => ((cq_gr 9 1 14 (a0) T129).bind fun v133 => ((c382 f (v133) (0) T129).bind fun R135 => c130a f a0 R135))))))))) := rfl
section
variable {u fa fn np nv a b : Nat} {S : Nat → Nat × Nat × Nat} {G : xG_} {K : pCd} {Ls : List pLt} {pl : List Nat} {br : Int} {qn xp cp : Nat → Nat} {R : Nat → List pRw} {lo hi : Nat → Int} {vl : Nat → Int}
theorem cWE.ws (h : cWE S G u K Ls pl fa fn np nv a br qn xp cp R lo hi) : wsC Ls nv R := by
  intro l hl
  obtain ⟨_, b1, ⟨c1, c2, c3⟩, _, e1, _⟩ := h
  have hm : Ls.getD l dLt ∈ Ls := by rw [getD_e hl]; exact List.getElem_mem hl
  obtain ⟨w1, w2⟩ := c2 _ hm
  rcases w1 with ⟨q1, q2, q3, q4, q5, q6⟩ | ⟨q1, q2, q3, q4⟩
  · left
    obtain ⟨w3, w4⟩ := w2 (by omega)
    obtain ⟨p, hp⟩ : ∃ p : Nat, (Ls.getD l dLt).2.1 = (p : Int) := ⟨(Ls.getD l dLt).2.1.toNat, by omega⟩
    rw [hp, Int.toNat_natCast] at w4 ⊢
    obtain ⟨_, _, z3, z4, _, _⟩ := e1 p (by omega)
    refine ⟨q1, q6, z4, fun r hr => ?_⟩
    obtain ⟨j, hj, ej⟩ := List.getElem_of_mem hr
    have := (z3.2.2.2.2.2.2.2 j hj).1
    rw [getD_e hj, ej] at this
    omega
  · right
    refine ⟨q1, q3, q4, ?_⟩
    rcases b1.2.2.2.1.2.2 l hl with ⟨z, _⟩ | ⟨_, _, z, _⟩
    · have z' : (Ls.getD l dLt).1 = 1 ∨ (Ls.getD l dLt).1 = 2 := z
      omega
    · exact z
theorem full_pl {n : Nat} {pl : List Nat} (h1 : pl.length = n) (h2 : ∀ k, k < n → pl.getD k 0 < n) (h3 : pl.Nodup) : ∀ l, l < n → l ∈ pl := by
  intro l hl
  refine Classical.byContradiction (fun hn => ?_)
  have hsub : ∀ x ∈ pl, x ∈ (List.range n).erase l := fun x hx => by
    obtain ⟨k, hk, ek⟩ := List.getElem_of_mem hx
    have := h2 k (by omega)
    rw [getD_e hk, ek] at this
    rw [List.Nodup.mem_erase_iff List.nodup_range]
    exact ⟨fun q => hn (q ▸ hx), List.mem_range.mpr this⟩
  have hle := nodup_len pl _ h3 hsub
  rw [List.length_erase_of_mem (List.mem_range.mpr hl), List.length_range] at hle
  omega
/-- all VARIABLES are bound behind the plan -/
theorem mkP_full (hw : ∀ y ∈ Ls, wLv nv y) (hs : sfe Ls nv) (hpl : ∀ l, l < Ls.length → l ∈ pl) : ∀ k, k < nv → (mkP Ls pl b).testBit k = true := by
  intro k hk
  have sub : ∀ y ∈ Ls, qSub (qLv y) (mkP Ls pl b) := fun y hy => by
    obtain ⟨l, hl, el⟩ := List.getElem_of_mem hy
    refine qSub_t.mpr (fun j hj => (mkP_in pl b).mpr (.inr ⟨l, hpl l hl, ?_⟩))
    rw [getD_e hl, el]; exact hj
  refine qBd_in (qSt_id (fun y hy => qS1_in (hw y hy) (sub y hy))) (qA_sub (fun y hy h1 => ?_)) k (hs k hk)
  have := sub y hy
  rw [qT_lv (by omega)] at this
  exact this
/-- how many WAYS there may be -/
def wyN (Ls : List pLt) : List Nat → Nat
  | [] => 1
  | p :: pr => (if (Ls.getD p dLt).1 = 1 then 100 else 1) * wyN Ls pr
theorem chs_len {p : Nat} {pr : List Nat} {b : Nat} {vl : Nat → Int} {D : List (Nat → Int)} (hR : (Ls.getD p dLt).1 = 1 → (R (Ls.getD p dLt).2.1.toNat).length ≤ 100) (h : chs Ls a br R lo hi p pr b vl D) : D.length ≤ (if (Ls.getD p dLt).1 = 1 then 100 else 1) := by
  rcases h with ⟨h1, D0, h2, h3, h4⟩ | ⟨h1, h2, h3⟩ | ⟨h1, h2, h3⟩
  · rw [if_pos h1]
    have hl := h2.len
    have := hR h1
    by_cases cm : mre Ls a br (Ls.getD p dLt) pr b
    · rw [h3 cm, List.length_map]; omega
    · rw [h4 cm, List.length_map, List.length_take]; omega
  · rw [if_neg (by omega)]
    by_cases cn : ∀ j, j < (R (Ls.getD p dLt).2.1.toNat).length → fitR (Ls.getD p dLt).2.2.2.1 (lo p) (hi p) b vl ((R (Ls.getD p dLt).2.1.toNat).getD j dRw) = none
    · rw [h2 cn]; exact Nat.le_refl _
    · rw [h3 cn]; exact Nat.zero_le _
  · rw [if_neg (by omega)]
    cases hc : cmpV (Ls.getD p dLt) b vl with
    | none => rw [h3 hc]; exact Nat.zero_le _
    | some z => rw [h2 z.1 z.2 hc]; exact Nat.le_refl _
theorem wyS_len {P : (Nat → Int) → List (Nat → Int) → Nat → Prop} {B : Nat} (hP : ∀ d V k, P d V k → V.length ≤ B) : ∀ {D V : List (Nat → Int)} {k : Nat}, wyS P D V k → V.length ≤ D.length * B
  | [], V, k, h => by
    obtain ⟨rfl, _⟩ := wyS_n h
    exact Nat.zero_le _
  | d :: D, V, k, h => by
    obtain ⟨V1, k1, V2, k2, h1, h2, rfl, _⟩ := wyS_c h
    have e1 := hP d V1 k1 h1
    have e2 := wyS_len hP h2
    rw [List.length_append, List.length_cons, Nat.succ_mul]
    omega
theorem wyE_len (hR : ∀ p, p < Ls.length → (Ls.getD p dLt).1 = 1 → (R (Ls.getD p dLt).2.1.toNat).length ≤ 100) : ∀ (pr : List Nat) (b : Nat) (vl : Nat → Int) (V : List (Nat → Int)) (k : Nat), (∀ p ∈ pr, p < Ls.length) → wyE Ls a br R lo hi pr b vl V k → V.length ≤ wyN Ls pr
  | [], b, vl, V, k, _, h => by
    obtain ⟨rfl, _⟩ : V = [vl] ∧ k = 1 := h
    exact Nat.le_refl _
  | p :: pr, b, vl, V, k, hp, h => by
    obtain ⟨D, k', h1, h2, _⟩ := h
    have e1 := wyS_len (B := wyN Ls pr) (fun d V1 k1 e => wyE_len hR pr _ d V1 k1 (fun q hq => hp q (List.mem_cons_of_mem _ hq)) e) h2
    exact Nat.le_trans e1 (Nat.mul_le_mul_right _ (chs_len (hR p (hp p List.mem_cons_self)) h1))
theorem wyN_le : ∀ (pr : List Nat) (c : Nat), (pr.filter (fun p => decide ((Ls.getD p dLt).1 = 1))).length ≤ c → wyN Ls pr ≤ 100 ^ c
  | [], c, _ => Nat.pow_pos (by decide)
  | p :: pr, c, h => by
    show (if (Ls.getD p dLt).1 = 1 then 100 else 1) * wyN Ls pr ≤ _
    by_cases q : (Ls.getD p dLt).1 = 1
    · rw [List.filter_cons_of_pos (by rw [decide_eq_true q]), List.length_cons] at h
      obtain ⟨c, rfl⟩ : ∃ s, c = s + 1 := ⟨c - 1, by omega⟩
      rw [if_pos q, Nat.pow_succ, Nat.mul_comm]
      exact Nat.mul_le_mul_right _ (wyN_le pr c (by omega))
    · rw [List.filter_cons_of_neg (by rw [decide_eq_false q]; decide)] at h
      rw [if_neg q, Nat.one_mul]
      exact wyN_le pr c h
/-- the WAYS that come of open() -/
theorem ways_start (h : cWE S G u K Ls pl fa fn np nv a br qn xp cp R lo hi) (h6 : G 83 6 = 0) (h7 : G 83 7 = 1) (hlv : lvE G 0 b vl) (hat : pAtoms Ls ≤ 3) (hs : sfe Ls nv) (hnd : pl.Nodup) {d : Nat} (hpB : plB Ls pl 0 = some d) : ∃ V k Bf, k ≤ 100000000 ∧ V.length ≤ 1000000 ∧ wSt8 Ls pl a br R lo hi G Bf V k ∧ (∀ j, j < nv → Bf.testBit j = true) ∧ (∀ v ∈ V, (∀ j, b.testBit j = true → v j = vl j) ∧ ∀ l, l < Ls.length → litO Ls R lo hi l v) ∧ (br = 0 → V.Pairwise (dfO Bf) ∧ ∀ w, (∀ j, b.testBit j = true → w j = vl j) → (∀ l, l < Ls.length → litO Ls R lo hi l w) → ∃ v ∈ V, ∀ j, Bf.testBit j = true → v j = w j) ∧ (br ≠ 0 → ∀ w, (∀ j, b.testBit j = true → w j = vl j) → (∀ l, l < Ls.length → litO Ls R lo hi l w) → ∃ v ∈ V, ∀ j, Bf.testBit j = true → a.testBit j = true → v j = w j) := by
  have hC := h.ws
  have hnl := nl_eq h
  have hl8 := h.2.1.2.2.2.1.2.1
  have hd2 := h.2.2.2.1.2
  have hlt : ∀ p ∈ pl, p < Ls.length := fun p hp => by
    obtain ⟨k, hk, ek⟩ := List.getElem_of_mem hp
    have := (hd2 k (by omega)).2.1
    rw [getD_e hk, ek] at this
    exact this
  have hall : ∀ l, l < Ls.length → l ∈ pl := full_pl hnl (fun k hk => (hd2 k hk).2.1) hnd
  have hok : okP Ls pl b := okP_of pl 0 b d hpB (by show 0 ||| b = b; rw [Nat.zero_or])
  obtain ⟨V, k, e1, e2⟩ := wyE_ex (Ls := Ls) (a := a) (br := br) (R := R) (lo := lo) (hi := hi) (fun p hp => by
    rcases hC p hp with ⟨c1, c2, c3, c4⟩ | ⟨c1, _⟩
    · refine ⟨by omega, .inl ?_⟩
      have hm : Ls.getD p dLt ∈ Ls := by rw [getD_e hp]; exact List.getElem_mem hp
      obtain ⟨w1, w2⟩ := h.2.2.1.2.1 _ hm
      obtain ⟨w3, _⟩ := w2 (by omega)
      have hpn : (Ls.getD p dLt).2.1.toNat < np := by
        rcases w1 with ⟨_, _, z, _⟩ | ⟨z, _⟩
        · omega
        · omega
      exact (h.2.2.2.2.1 _ hpn).2.2.2.2.1
    · exact ⟨by omega, .inr c1⟩) pl hlt b vl
  have hRl : ∀ p, p < Ls.length → (Ls.getD p dLt).1 = 1 → (R (Ls.getD p dLt).2.1.toNat).length ≤ 100 := fun p hp h1 => by
    have hm : Ls.getD p dLt ∈ Ls := by rw [getD_e hp]; exact List.getElem_mem hp
    obtain ⟨w1, w2⟩ := h.2.2.1.2.1 _ hm
    obtain ⟨w3, _⟩ := w2 (by omega)
    have hpn : (Ls.getD p dLt).2.1.toNat < np := by
      rcases w1 with ⟨_, _, z, _⟩ | ⟨z, _⟩
      · omega
      · omega
    exact (h.2.2.2.2.1 _ hpn).2.2.2.2.1
  have hcost : k ≤ 100000000 ∧ V.length ≤ 1000000 := by
    have hf3 : (pl.filter (fun p => decide ((Ls.getD p dLt).1 = 1))).length ≤ 3 := by
      have hperm : pl.Perm (List.range Ls.length) := by
        refine (List.perm_ext_iff_of_nodup hnd List.nodup_range).mpr (fun x => ⟨fun hx => List.mem_range.mpr (hlt x hx), fun hx => hall x (List.mem_range.mp hx)⟩)
      rw [(hperm.filter _).length_eq]
      have er : Ls = (List.range Ls.length).map (fun p => Ls.getD p dLt) := by
        refine List.ext_getElem (by rw [List.length_map, List.length_range]) (fun i i1 i2 => ?_)
        rw [List.getElem_map, List.getElem_range, getD_e i1]
      have ep : pAtoms Ls = ((List.range Ls.length).filter (fun p => decide ((Ls.getD p dLt).1 = 1))).length := by
        have e0 : pAtoms Ls = pAtoms ((List.range Ls.length).map (fun p => Ls.getD p dLt)) := congrArg pAtoms er
        rw [e0]
        unfold pAtoms
        rw [List.filter_map, List.length_map]
        rfl
      omega
    have hb := wyB_le (Ls := Ls) pl 8 3 (by omega) hf3
    have : (3 * 8 + 1) * 101 ^ 3 ≤ 100000000 := by decide
    have hn := wyE_len hRl pl b vl V k hlt e1
    have hn2 := wyN_le (Ls := Ls) pl 3 hf3
    have : (100 : Nat) ^ 3 = 1000000 := by decide
    omega
  refine ⟨V, k, mkP Ls pl b, hcost.1, hcost.2, wSt_0 h6 h7 hlv hok e1, mkP_full (fun y hy => (h.2.2.1.2.1 y hy).1.lv) hs hall, fun v hv => ?_, fun hb0 => ⟨?_, fun w w1 w2 => ?_⟩, fun hb1 w w1 w2 => ?_⟩
  · obtain ⟨q1, q2⟩ := wy_snd hC pl b vl V k hlt hok e1 v hv
    exact ⟨q1, fun l hl => q2 l (hall l hl)⟩
  · rw [hb0] at e1
    exact wy_uni hC pl b vl V k hlt hok e1
  · obtain ⟨v, v1, v2⟩ := wy_cmp hC (fun _ => True) (fun q => absurd hb0 q) (fun _ _ => trivial) pl b vl V k w hlt hok e1 (fun j hj _ => w1 j hj) (fun p hp => w2 p (hlt p hp))
    exact ⟨v, v1, fun j hj => v2 j hj trivial⟩
  · obtain ⟨v, v1, v2⟩ := wy_cmp hC (fun j => a.testBit j = true) (fun _ _ => Iff.rfl) (fun q => absurd q hb1) pl b vl V k w hlt hok e1 (fun j hj _ => w1 j hj) (fun p hp => w2 p (hlt p hp))
    exact ⟨v, v1, v2⟩
end
section
variable {f u fa fn z x n i : Nat} {S : Nat → Nat × Nat × Nat} {G : xG_} {m : Nat × Nat} {v br : Int} {r5 : Nat → Int → Int → Int → xT_ → Option (xT_)}
theorem st_382 (hi : i < n) (xs : S x = (2, 3, n)) (ei : xwr ((i : Int) + 1) = ((i + 1 : Nat) : Int)) : c382_5b r5 f x v (i : Int) (n : Int) (S, G, m) = r5 x v ((i + 1 : Nat) : Int) (n : Int) (S, xup2 G x i v, m) := by
  unfold c382_5b
  simp (disch := omega) only [cq_gi, cq_gr, cq_a, cq_s, cq_p, cq_pr, cq_is, cq_ar, cq_ab, cq_ln, xq_nz, Option.bind_some, xup2_n, xup2_s, Int.toNat_natCast, Int.reduceToNat, if_pos, if_neg, true_and, and_true, and_self, eq_self, if_true, reduceIte, not_true_eq_false, not_false_eq_true, or_true, true_or, xs, ei]
theorem st_382z : c382_5b r5 f x v (n : Int) (n : Int) (S, G, m) = some (S, G, m) := by
  unfold c382_5b
  rw [if_pos (Int.le_refl _)]
/-- Arrays.fill() of ints -/
theorem k_382 (hf : n < f) (hn : n ≤ 1000) (xs : S x = (2, 3, n)) : ∃ G', c382 f x v (S, G, m) = some (S, G', m) ∧ (∀ a j, a ≠ x → G' a j = G a j) ∧ ∀ j, j < n → G' x j = v := by
  have loop : ∀ (d i fu : Nat) (G : xG_), i + d = n → d < fu → (∀ j, j < i → G x j = v) → ∃ G', c382_5 f fu x v (i : Int) (n : Int) (S, G, m) = some (S, G', m) ∧ (∀ a j, a ≠ x → G' a j = G a j) ∧ ∀ j, j < n → G' x j = v := by
    intro d
    induction d with
    | zero =>
      intro i fu G e1 e2 e3
      obtain ⟨fu, rfl⟩ : ∃ t, fu = t + 1 := ⟨fu - 1, by omega⟩
      have : i = n := by omega
      subst this
      exact ⟨G, st_382z (r5 := c382_5 f fu), fun _ _ _ => rfl, e3⟩
    | succ d ih =>
      intro i fu G e1 e2 e3
      obtain ⟨fu, rfl⟩ : ∃ t, fu = t + 1 := ⟨fu - 1, by omega⟩
      have st : c382_5 f (fu + 1) x v (i : Int) (n : Int) (S, G, m) = _ := st_382 (r5 := c382_5 f fu) (by omega) xs (by rw [xwr_g _ (by omega) (by omega)]; omega)
      obtain ⟨G', g1, g2, g3⟩ := ih (i + 1) fu (xup2 G x i v) (by omega) (by omega) (fun j hj => by
        by_cases c : j = i
        · rw [c, xup2_s]
        · rw [xup2_n (by omega)]; exact e3 j (by omega))
      exact ⟨G', st.trans g1, fun a j y => by rw [g2 a j y, xup2_n (by omega)], g3⟩
  obtain ⟨G', g1, g2, g3⟩ := loop n 0 f G (by omega) (by omega) (fun j hj => absurd hj (Nat.not_lt_zero j))
  refine ⟨G', ?_, g2, g3⟩
  unfold c382
  simp (disch := omega) only [cq_gi, cq_gr, cq_a, cq_s, cq_p, cq_pr, cq_is, cq_ar, cq_ab, cq_ln, xq_nz, Option.bind_some, xup2_n, xup2_s, Int.toNat_natCast, Int.reduceToNat, if_pos, if_neg, true_and, and_true, and_self, eq_self, if_true, reduceIte, not_true_eq_false, not_false_eq_true, or_true, true_or, xs]
  exact g1
theorem st_130 {T : xT_} (hs : cSs S) (hp : cPs G) (hb : br = 0 ∨ br = 1) (e : c382 f 85 0 (S, xup2 (xup2 (xup2 (xup2 (xup2 (xup2 G 83 3 (u : Int)) 83 4 (fa : Int)) 83 5 br) 83 6 0) 83 7 1) 87 0 0, m) = some T) : c130 f 83 u fa br (S, G, m) = c130a f 83 T := by
  rw [c130a_e]
  have e1 : ∀ {G : xG_}, cq_pb 9 5 14 83 br (S, G, m) = some (S, xup2 G 83 5 br, m) := fun {G} => if_pos ⟨s83 hs, hb⟩
  have e2 : ∀ {G : xG_}, cq_pb 9 7 14 83 1 (S, G, m) = some (S, xup2 G 83 7 1, m) := fun {G} => if_pos ⟨s83 hs, .inr rfl⟩
  simp (disch := omega) only [cq_gi, cq_gr, cq_a, cq_s, cq_p, cq_pr, cq_is, cq_ar, cq_ab, cq_ln, xq_nz, Option.bind_some, xup2_n, xup2_s, Int.toNat_natCast, Int.reduceToNat, if_pos, if_neg, true_and, and_true, and_self, eq_self, if_true, reduceIte, not_true_eq_false, not_false_eq_true, or_true, true_or, s83 hs, s87 hs, p83_8 hp, p83_1 hp, e1, e2, e]
theorem st_130a (hs : cSs S) (hp : cPs G) {T : xT_} (e : c382 f 86 1700 (S, G, m) = some T) : c130a f 83 (S, G, m) = some T := by
  unfold c130a
  simp (disch := omega) only [cq_gi, cq_gr, cq_a, cq_s, cq_p, cq_pr, cq_is, cq_ar, cq_ab, cq_ln, xq_nz, Option.bind_some, xup2_n, xup2_s, Int.toNat_natCast, Int.reduceToNat, if_pos, if_neg, true_and, and_true, and_self, eq_self, if_true, reduceIte, not_true_eq_false, not_false_eq_true, or_true, true_or, s83 hs, p83_2 hp, e]
/-- open() -/
theorem k_130 (hf : 20 < f) (hs : cSs S) (hp : cPs G) (hb : br = 0 ∨ br = 1) : ∃ G', c130 f 83 u fa br (S, G, m) = some (S, G', m) ∧ (∀ a j, ¬ (a = 83 ∧ 3 ≤ j ∧ j ≤ 7) → a ≠ 85 → a ≠ 86 → ¬ (a = 87 ∧ j = 0) → G' a j = G a j) ∧ cPs G' ∧ G' 83 3 = (u : Int) ∧ G' 83 4 = (fa : Int) ∧ G' 83 5 = br ∧ G' 83 6 = 0 ∧ G' 83 7 = 1 ∧ G' 87 0 = 0 ∧ (∀ l, l < 8 → G' 85 l = 0) ∧ ∀ l, l < 8 → G' 86 l = 1700 := by
  obtain ⟨G0, hG0⟩ : ∃ G0, G0 = xup2 (xup2 (xup2 (xup2 (xup2 (xup2 G 83 3 (u : Int)) 83 4 (fa : Int)) 83 5 br) 83 6 0) 83 7 1) 87 0 0 := ⟨_, rfl⟩
  have z0 : ∀ a j, ¬ (a = 83 ∧ 3 ≤ j ∧ j ≤ 7) → ¬ (a = 87 ∧ j = 0) → G0 a j = G a j := fun a j y1 y2 => by rw [hG0, xup2_n (by omega), xup2_n (by omega), xup2_n (by omega), xup2_n (by omega), xup2_n (by omega), xup2_n (by omega)]
  have pst : ∀ {G1 : xG_}, (∀ a j, ¬ (a = 83 ∧ 3 ≤ j ∧ j ≤ 7) → ¬ (85 ≤ a ∧ a ≤ 87) → G1 a j = G a j) → cPs G1 := fun hf => hp.ge (fun a j hz => hf a j (by
    rcases hz with z | z | z | z | z | z | z | ⟨z, z1, z2, k, z3⟩ | z | z | z | ⟨k, z1, z2, z3⟩ <;> omega) (by
    rcases hz with z | z | z | z | z | z | z | ⟨z, z1, z2, k, z3⟩ | z | z | z | ⟨k, z1, z2, z3⟩ <;> omega))
  obtain ⟨G1, g1, g2, g3⟩ := k_382 (f := f) (m := m) (G := G0) (v := 0) (n := 8) (by omega) (by decide) (s85 hs)
  have e1 := st_130 (m := m) hs hp hb (by rw [← hG0]; exact g1)
  obtain ⟨G2, i1, i2, i3⟩ := k_382 (f := f) (m := m) (G := G1) (v := 1700) (n := 8) (by omega) (by decide) (s86 hs)
  have e2 := e1.trans (st_130a hs (pst (fun a j y1 y2 => by rw [g2 a j (by omega), z0 a j y1 (by omega)])) i1)
  have w : ∀ a j, a ≠ 85 → a ≠ 86 → G2 a j = G0 a j := fun a j y1 y2 => by rw [i2 a j y2, g2 a j y1]
  refine ⟨G2, e2, fun a j y1 y2 y3 y4 => by rw [w a j y2 y3, z0 a j y1 y4], pst (fun a j y1 y2 => by rw [w a j (by omega) (by omega), z0 a j y1 (by omega)]), ?_, ?_, ?_, ?_, ?_, ?_, fun l hl => by rw [i2 _ _ (by omega)]; exact g3 l hl, i3⟩
  · rw [w _ _ (by omega) (by omega), hG0, xup2_n (by omega), xup2_n (by omega), xup2_n (by omega), xup2_n (by omega), xup2_n (by omega), xup2_s]
  · rw [w _ _ (by omega) (by omega), hG0, xup2_n (by omega), xup2_n (by omega), xup2_n (by omega), xup2_n (by omega), xup2_s]
  · rw [w _ _ (by omega) (by omega), hG0, xup2_n (by omega), xup2_n (by omega), xup2_n (by omega), xup2_s]
  · rw [w _ _ (by omega) (by omega), hG0, xup2_n (by omega), xup2_n (by omega), xup2_s]
  · rw [w _ _ (by omega) (by omega), hG0, xup2_n (by omega), xup2_s]
  · rw [w _ _ (by omega) (by omega), hG0, xup2_s]
end
end
