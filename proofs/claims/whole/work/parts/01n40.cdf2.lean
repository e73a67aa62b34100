section
/-! THE CLASS: the edits of a round, one by one -/
def inV (R : List pRw) (z : List Int) : Prop := ∃ r ∈ R, r.1 = z
theorem inV_h {R : List pRw} {z : List Int} : hasV R z = true ↔ inV R z := hasV_t
theorem inV_c {r : pRw} {R : List pRw} {z : List Int} : inV (r :: R) z ↔ r.1 = z ∨ inV R z := by
  constructor
  · rintro ⟨x, x1, x2⟩
    rcases List.mem_cons.mp x1 with rfl | h
    · exact .inl x2
    · exact .inr ⟨x, h, x2⟩
  · rintro (h | ⟨x, x1, x2⟩)
    · exact ⟨r, List.mem_cons_self, h⟩
    · exact ⟨x, List.mem_cons_of_mem _ x1, x2⟩
theorem inV_n {z : List Int} : ¬ inV [] z := fun ⟨x, h, _⟩ => absurd h List.not_mem_nil
/-- rows that came (1) and went (0), in their order -/
def mgD : Nat → List pRw → List pRw → List (Int × List Int)
  | 0, _, _ => []
  | _ + 1, [], [] => []
  | n + 1, a :: as, [] => (1, a.1) :: mgD n as []
  | n + 1, [], b :: bs => (0, b.1) :: mgD n [] bs
  | n + 1, a :: as, b :: bs => if vCmp a.1 b.1 = 0 then mgD n as bs else if vCmp a.1 b.1 < 0 then (1, a.1) :: mgD n as (b :: bs) else (0, b.1) :: mgD n (a :: as) bs
def mgM (R A : List pRw) (e : Int × List Int) : Prop := e.1 = 1 ∧ inV R e.2 ∧ ¬ inV A e.2 ∨ e.1 = 0 ∧ inV A e.2 ∧ ¬ inV R e.2
theorem mgD_i : ∀ (W n : Nat) (R A : List pRw), R.length + A.length ≤ n → R.Pairwise rwLt → A.Pairwise rwLt → (∀ r ∈ R, r.1.length = W) → (∀ r ∈ A, r.1.length = W) → (∀ e, e ∈ mgD n R A ↔ mgM R A e) ∧ (mgD n R A).Pairwise (fun e e' => vLt e.2 e'.2)
  | W, 0, R, A, h, _, _, _, _ => by
    have e1 : R = [] := List.eq_nil_of_length_eq_zero (by omega)
    have e2 : A = [] := List.eq_nil_of_length_eq_zero (by omega)
    subst e1 e2
    refine ⟨fun e => ⟨fun z => absurd z List.not_mem_nil, ?_⟩, List.Pairwise.nil⟩
    rintro (⟨_, z, _⟩ | ⟨_, z, _⟩) <;> exact (inV_n z).elim
  | W, n + 1, [], [], h, _, _, _, _ => by
    refine ⟨fun e => ⟨fun z => absurd z List.not_mem_nil, ?_⟩, List.Pairwise.nil⟩
    rintro (⟨_, z, _⟩ | ⟨_, z, _⟩) <;> exact (inV_n z).elim
  | W, n + 1, a :: as, [], h, h1, h2, h3, h4 => by
    obtain ⟨x1, x2⟩ := List.pairwise_cons.mp h1
    obtain ⟨i1, i2⟩ := mgD_i W n as [] (by simp only [List.length_cons] at h; omega) x2 h2 (fun r hr => h3 r (List.mem_cons_of_mem _ hr)) h4
    have la : ∀ z, inV as z → vLt a.1 z := fun z ⟨r, r1, r2⟩ => r2 ▸ x1 r r1
    constructor
    · intro e
      show e ∈ (1, a.1) :: mgD n as [] ↔ _
      rw [List.mem_cons, i1 e]
      unfold mgM
      rw [inV_c]
      constructor
      · rintro (rfl | ⟨z1, z2, z3⟩ | ⟨z1, z2, z3⟩)
        · exact .inl ⟨rfl, .inl rfl, inV_n⟩
        · exact .inl ⟨z1, .inr z2, z3⟩
        · exact (inV_n z2).elim
      · rintro (⟨z1, z2 | z2, z3⟩ | ⟨z1, z2, z3⟩)
        · exact .inl (Prod.ext z1 z2.symm)
        · exact .inr (.inl ⟨z1, z2, z3⟩)
        · exact (inV_n z2).elim
    · show ((1, a.1) :: mgD n as []).Pairwise _
      refine List.pairwise_cons.mpr ⟨fun e he => ?_, i2⟩
      rcases (i1 e).mp he with ⟨_, z, _⟩ | ⟨_, z, _⟩
      · exact la _ z
      · exact (inV_n z).elim
  | W, n + 1, [], b :: bs, h, h1, h2, h3, h4 => by
    obtain ⟨x1, x2⟩ := List.pairwise_cons.mp h2
    obtain ⟨i1, i2⟩ := mgD_i W n [] bs (by simp only [List.length_cons] at h; omega) h1 x2 h3 (fun r hr => h4 r (List.mem_cons_of_mem _ hr))
    have la : ∀ z, inV bs z → vLt b.1 z := fun z ⟨r, r1, r2⟩ => r2 ▸ x1 r r1
    constructor
    · intro e
      show e ∈ (0, b.1) :: mgD n [] bs ↔ _
      rw [List.mem_cons, i1 e]
      unfold mgM
      rw [inV_c]
      constructor
      · rintro (rfl | ⟨z1, z2, z3⟩ | ⟨z1, z2, z3⟩)
        · exact .inr ⟨rfl, .inl rfl, inV_n⟩
        · exact (inV_n z2).elim
        · exact .inr ⟨z1, .inr z2, z3⟩
      · rintro (⟨z1, z2, z3⟩ | ⟨z1, z2 | z2, z3⟩)
        · exact (inV_n z2).elim
        · exact .inl (Prod.ext z1 z2.symm)
        · exact .inr (.inr ⟨z1, z2, z3⟩)
    · show ((0, b.1) :: mgD n [] bs).Pairwise _
      refine List.pairwise_cons.mpr ⟨fun e he => ?_, i2⟩
      rcases (i1 e).mp he with ⟨_, z, _⟩ | ⟨_, z, _⟩
      · exact (inV_n z).elim
      · exact la _ z
  | W, n + 1, a :: as, b :: bs, h, h1, h2, h3, h4 => by
    obtain ⟨x1, x2⟩ := List.pairwise_cons.mp h1
    obtain ⟨y1, y2⟩ := List.pairwise_cons.mp h2
    have la : ∀ z, inV as z → vLt a.1 z := fun z ⟨r, r1, r2⟩ => r2 ▸ x1 r r1
    have lb : ∀ z, inV bs z → vLt b.1 z := fun z ⟨r, r1, r2⟩ => r2 ▸ y1 r r1
    have wa := h3 a List.mem_cons_self
    have wb := h4 b List.mem_cons_self
    have ha' : ∀ r ∈ as, r.1.length = W := fun r hr => h3 r (List.mem_cons_of_mem _ hr)
    have hb' : ∀ r ∈ bs, r.1.length = W := fun r hr => h4 r (List.mem_cons_of_mem _ hr)
    simp only [List.length_cons] at h
    have na : ¬ inV as a.1 := fun z => vLt_irr _ (la _ z)
    have nb : ¬ inV bs b.1 := fun z => vLt_irr _ (lb _ z)
    by_cases c0 : vCmp a.1 b.1 = 0
    · have e0 : a.1 = b.1 := vCmp_eq (by omega) c0
      obtain ⟨i1, i2⟩ := mgD_i W n as bs (by omega) x2 y2 ha' hb'
      have eD : mgD (n + 1) (a :: as) (b :: bs) = mgD n as bs := by
        show (if _ then _ else _) = _
        rw [if_pos c0]
      rw [eD]
      refine ⟨fun e => ?_, i2⟩
      rw [i1 e]
      unfold mgM
      rw [inV_c, inV_c]
      constructor
      · rintro (⟨z1, z2, z3⟩ | ⟨z1, z2, z3⟩)
        · exact .inl ⟨z1, .inr z2, fun w => w.elim (fun u => na (by rw [e0, u]; exact z2)) z3⟩
        · exact .inr ⟨z1, .inr z2, fun w => w.elim (fun u => nb (by rw [← e0, u]; exact z2)) z3⟩
      · rintro (⟨z1, z2 | z2, z3⟩ | ⟨z1, z2 | z2, z3⟩)
        · exact (z3 (.inl (e0 ▸ z2))).elim
        · exact .inl ⟨z1, z2, fun w => z3 (.inr w)⟩
        · exact (z3 (.inl (by rw [e0]; exact z2))).elim
        · exact .inr ⟨z1, z2, fun w => z3 (.inr w)⟩
    · by_cases c1 : vCmp a.1 b.1 < 0
      · have lt : vLt a.1 b.1 := (vLt_iff (by omega)).mpr c1
        have nab : ¬ inV (b :: bs) a.1 := fun z => by
          rcases inV_c.mp z with z | z
          · rw [z] at lt; exact vLt_irr _ lt
          · exact vLt_irr _ (vLt_tr lt (lb _ z))
        obtain ⟨i1, i2⟩ := mgD_i W n as (b :: bs) (by simp only [List.length_cons]; omega) x2 h2 ha' h4
        have eD : mgD (n + 1) (a :: as) (b :: bs) = (1, a.1) :: mgD n as (b :: bs) := by
          show (if _ then _ else if _ then _ else _) = _
          rw [if_neg c0, if_pos c1]
        rw [eD]
        constructor
        · intro e
          rw [List.mem_cons, i1 e]
          unfold mgM
          rw [inV_c (r := a)]
          constructor
          · rintro (rfl | ⟨z1, z2, z3⟩ | ⟨z1, z2, z3⟩)
            · exact .inl ⟨rfl, .inl rfl, nab⟩
            · exact .inl ⟨z1, .inr z2, z3⟩
            · exact .inr ⟨z1, z2, fun w => w.elim (fun u => nab (by rw [u]; exact z2)) z3⟩
          · rintro (⟨z1, z2 | z2, z3⟩ | ⟨z1, z2, z3⟩)
            · exact .inl (Prod.ext z1 z2.symm)
            · exact .inr (.inl ⟨z1, z2, z3⟩)
            · exact .inr (.inr ⟨z1, z2, fun w => z3 (.inr w)⟩)
        · refine List.pairwise_cons.mpr ⟨fun e he => ?_, i2⟩
          rcases (i1 e).mp he with ⟨_, z, _⟩ | ⟨_, z, _⟩
          · exact la _ z
          · rcases inV_c.mp z with z | z
            · rw [← z]; exact lt
            · exact vLt_tr lt (lb _ z)
      · have c2 : vCmp b.1 a.1 < 0 := by
          have := vCmp_anti a.1 b.1
          omega
        have lt : vLt b.1 a.1 := (vLt_iff (by omega)).mpr c2
        have nab : ¬ inV (a :: as) b.1 := fun z => by
          rcases inV_c.mp z with z | z
          · rw [z] at lt; exact vLt_irr _ lt
          · exact vLt_irr _ (vLt_tr lt (la _ z))
        obtain ⟨i1, i2⟩ := mgD_i W n (a :: as) bs (by simp only [List.length_cons]; omega) h1 y2 h3 hb'
        have eD : mgD (n + 1) (a :: as) (b :: bs) = (0, b.1) :: mgD n (a :: as) bs := by
          show (if _ then _ else if _ then _ else _) = _
          rw [if_neg c0, if_neg c1]
        rw [eD]
        constructor
        · intro e
          rw [List.mem_cons, i1 e]
          unfold mgM
          rw [inV_c (r := b)]
          constructor
          · rintro (rfl | ⟨z1, z2, z3⟩ | ⟨z1, z2, z3⟩)
            · exact .inr ⟨rfl, .inl rfl, nab⟩
            · exact .inl ⟨z1, z2, fun w => w.elim (fun u => nab (by rw [u]; exact z2)) z3⟩
            · exact .inr ⟨z1, .inr z2, z3⟩
          · rintro (⟨z1, z2, z3⟩ | ⟨z1, z2 | z2, z3⟩)
            · exact .inr (.inl ⟨z1, z2, fun w => z3 (.inr w)⟩)
            · exact .inl (Prod.ext z1 z2.symm)
            · exact .inr (.inr ⟨z1, z2, z3⟩)
        · refine List.pairwise_cons.mpr ⟨fun e he => ?_, i2⟩
          rcases (i1 e).mp he with ⟨_, z, _⟩ | ⟨_, z, _⟩
          · rcases inV_c.mp z with z | z
            · rw [← z]; exact lt
            · exact vLt_tr lt (la _ z)
          · exact lb _ z
theorem mgD_nd {W n : Nat} {R A : List pRw} (h : R.length + A.length ≤ n) (h1 : R.Pairwise rwLt) (h2 : A.Pairwise rwLt) (h3 : ∀ r ∈ R, r.1.length = W) (h4 : ∀ r ∈ A, r.1.length = W) : (mgD n R A).length = dfN R A := by
  obtain ⟨i1, i2⟩ := mgD_i W n R A h h1 h2 h3 h4
  have nd : ∀ {L : List pRw} (k : Int) (p : pRw → Bool), L.Pairwise rwLt → ((L.filter p).map (fun r => (k, r.1))).Nodup := fun {L} k p hL => by
    rw [List.nodup_iff_pairwise_ne]
    refine List.pairwise_map.mpr ((hL.filter p).imp (fun {a b} hab e => ?_))
    have : a.1 = b.1 := (Prod.mk.inj e).2
    unfold rwLt at hab
    rw [this] at hab
    exact vLt_irr _ hab
  have key : (mgD n R A).Perm ((R.filter (fun r => ! hasV A r.1)).map (fun r => ((1 : Int), r.1)) ++ (A.filter (fun r => ! hasV R r.1)).map (fun r => ((0 : Int), r.1))) := by
    refine (List.perm_ext_iff_of_nodup ?_ ?_).mpr (fun e => ?_)
    · rw [List.nodup_iff_pairwise_ne]
      exact i2.imp (fun {a b} hab e => by rw [e] at hab; exact vLt_irr _ hab)
    · rw [List.nodup_append]
      refine ⟨nd _ _ h1, nd _ _ h2, fun a ha b hb e => ?_⟩
      obtain ⟨x, _, x2⟩ := List.mem_map.mp ha
      obtain ⟨y, _, y2⟩ := List.mem_map.mp hb
      rw [← x2, ← y2] at e
      exact absurd (Prod.mk.inj e).1 (by decide)
    · rw [i1 e, List.mem_append, List.mem_map, List.mem_map]
      have ng : ∀ {L : List pRw} {z : List Int}, (! hasV L z) = true ↔ ¬ inV L z := fun {L z} => by
        rw [← inV_h]
        cases hasV L z <;> decide
      constructor
      · rintro (⟨z1, ⟨r, r1, r2⟩, z3⟩ | ⟨z1, ⟨r, r1, r2⟩, z3⟩)
        · exact .inl ⟨r, List.mem_filter.mpr ⟨r1, ng.mpr (by rw [r2]; exact z3)⟩, Prod.ext z1.symm r2⟩
        · exact .inr ⟨r, List.mem_filter.mpr ⟨r1, ng.mpr (by rw [r2]; exact z3)⟩, Prod.ext z1.symm r2⟩
      · rintro (⟨r, r1, rfl⟩ | ⟨r, r1, rfl⟩)
        · obtain ⟨r2, r3⟩ := List.mem_filter.mp r1
          exact .inl ⟨rfl, ⟨r, r2, rfl⟩, ng.mp r3⟩
        · obtain ⟨r2, r3⟩ := List.mem_filter.mp r1
          exact .inr ⟨rfl, ⟨r, r2, rfl⟩, ng.mp r3⟩
  rw [key.length_eq, List.length_append, List.length_map, List.length_map]
  unfold dfN
  rw [List.countP_eq_length_filter, List.countP_eq_length_filter]
theorem dfN_0 {R A : List pRw} (h1 : R.Pairwise rwLt) (h2 : A.Pairwise rwLt) : dfN R A = 0 ↔ vEq R A := by
  have nd : ∀ {L : List pRw}, L.Pairwise rwLt → (L.map (·.1)).Pairwise vLt := fun {L} hL => List.pairwise_map.mpr hL
  unfold dfN
  constructor
  · intro h
    refine srt_ext (lt := vLt) vLt_irr (fun a b c => vLt_tr) _ _ (nd h1) (nd h2) (fun y => ?_)
    have z : ∀ {L L' : List pRw}, L.countP (fun r => ! hasV L' r.1) = 0 → ∀ r ∈ L, hasV L' r.1 = true := fun {L L'} h r hr => by
      have := List.countP_eq_zero.mp h r hr
      cases hb : hasV L' r.1 with
      | true => rfl
      | false => rw [hb] at this; exact absurd rfl this
    rw [List.mem_map, List.mem_map]
    constructor
    · rintro ⟨r, r1, rfl⟩; exact hasV_t.mp (z (by omega) r r1)
    · rintro ⟨r, r1, rfl⟩; exact hasV_t.mp (z (by omega) r r1)
  · intro h
    have z : ∀ {L L' : List pRw}, vEq L L' → L.countP (fun r => ! hasV L' r.1) = 0 := fun {L L'} h => List.countP_eq_zero.mpr (fun r hr => by
      obtain ⟨r', a, b⟩ := h.mem hr
      rw [hasV_t.mpr ⟨r', a, b⟩]
      decide)
    rw [z h, z h.symm]
section
variable {f x y W cap cap2 : Nat} {S : Nat → Nat × Nat × Nat} {G : xG_} {m : Nat × Nat} {R A : List pRw} {r8 : Nat → Nat → Int → Int → Int → xT_ → Option (Int × xT_)}
def cEc (R A : List pRw) (v : Int) (e : Int × List Int) : Prop := ∃ k : Nat, (e.1 = 1 ∧ v = ((2 * k + 1 : Nat) : Int) ∧ k < R.length ∧ (R.getD k dRw).1 = e.2) ∨ (e.1 = 0 ∧ v = ((2 * k : Nat) : Int) ∧ k < A.length ∧ (A.getD k dRw).1 = e.2)
theorem drop_r {L : List pRw} {k : Nat} (h : k < L.length) : L.drop k = L.getD k dRw :: L.drop (k + 1) := by
  rw [List.drop_eq_getElem_cons h]
  rw [show L.getD k dRw = L[k] from by simp [List.getD, h]]
theorem st_84a {T : xT_} {k l lf : Int} {c : Int} (hc : -1 ≤ c ∧ c ≤ 1) (hk : 0 ≤ k ∧ k < 1000) (hl : 0 ≤ l ∧ l < 1000) (hlf : 0 ≤ lf ∧ lf < 100000) : c84_65 r8 f x y lf k l c T = if c = 0 then r8 x y lf (k + 1) (l + 1) T else if lf = 0 then (if c < 0 then some (2 * k + 1, T) else some (2 * l, T)) else if c < 0 then r8 x y (lf - 1) (k + 1) l T else r8 x y (lf - 1) k (l + 1) T := by
  have w1 : xwr lf = lf := xwr_g _ (by omega) (by omega)
  have w2 : xwr (lf - 1) = lf - 1 ∨ lf = 0 := by
    by_cases c : lf = 0
    · exact .inr c
    · exact .inl (xwr_g _ (by omega) (by omega))
  have w3 : xwr k = k := xwr_g _ (by omega) (by omega)
  have w4 : xwr (k + 1) = k + 1 := xwr_g _ (by omega) (by omega)
  have w5 : xwr l = l := xwr_g _ (by omega) (by omega)
  have w6 : xwr (l + 1) = l + 1 := xwr_g _ (by omega) (by omega)
  have w7 : xwr (2 * l) = 2 * l := xwr_g _ (by omega) (by omega)
  have w8 : xwr (xwr (2 * k) + 1) = 2 * k + 1 := by rw [xwr_g (2 * k) (by omega) (by omega), xwr_g _ (by omega) (by omega)]
  unfold c84_65 c84_94 c84_95 c84_106 c84_120 c84_135
  rcases (by omega : c = -1 ∨ c = 0 ∨ c = 1) with rfl | rfl | rfl
  · by_cases z : lf = 0
    · subst z
      simp [w7, w8]
    · have w2' := w2.resolve_right z
      simp [z, w2', w4, w5]
  · simp [w1, w4, w6]
  · by_cases z : lf = 0
    · subst z
      simp [w7, w8]
    · have w2' := w2.resolve_right z
      simp [z, w2', w3, w6]
theorem k_84l (hf : 20 < f) (h : cRw S G x W cap R) (h2 : cRw S G y W cap2 A) : ∀ (n k l lf fu : Nat), k ≤ R.length → l ≤ A.length → (R.drop k).length + (A.drop l).length ≤ n → n < fu → lf < 1000 → ∃ v, c84_8 f fu x y (lf : Int) (k : Int) (l : Int) (S, G, m) = some (v, (S, G, m)) ∧ (lf < (mgD n (R.drop k) (A.drop l)).length → cEc R A v ((mgD n (R.drop k) (A.drop l)).getD lf (0, []))) := by
  have hR := h.2.2.2.2.1
  have hA := h2.2.2.2.2.1
  have hcap := h.2.2.2.2.2.1
  have hcap2 := h2.2.2.2.2.2.1
  intro n
  induction n with
  | zero =>
    intro k l lf fu hk hl hn hfu hlf
    obtain ⟨fu, rfl⟩ : ∃ t, fu = t + 1 := ⟨fu - 1, by omega⟩
    rw [List.length_drop, List.length_drop] at hn
    refine ⟨-1, ?_, fun z => absurd z (Nat.not_lt_zero _)⟩
    show c84_8b (c84_8 f fu) f _ _ _ _ _ _ = _
    unfold c84_8b
    rw [o_gi h.1, Option.bind_some, h.2.2.2.1.2.1, if_neg (by omega), o_gi h2.1, Option.bind_some, h2.2.2.2.1.2.1, if_pos (by omega)]
  | succ n ih =>
    intro k l lf fu hk hl hn hfu hlf
    obtain ⟨fu, rfl⟩ : ∃ t, fu = t + 1 := ⟨fu - 1, by omega⟩
    rw [List.length_drop, List.length_drop] at hn
    have ee : c84_8 f (fu + 1) x y (lf : Int) (k : Int) (l : Int) (S, G, m) = c84_8b (c84_8 f fu) f x y (lf : Int) (k : Int) (l : Int) (S, G, m) := rfl
    have ek : ((k : Nat) : Int) + 1 = ((k + 1 : Nat) : Int) := by omega
    have el : ((l : Nat) : Int) + 1 = ((l + 1 : Nat) : Int) := by omega
    rw [ee]
    unfold c84_8b c84_26
    rw [o_gi h.1, Option.bind_some, h.2.2.2.1.2.1, o_gi h2.1, Option.bind_some, h2.2.2.2.1.2.1]
    by_cases c1 : k < R.length
    · rw [if_pos (by omega), if_pos (by omega), Option.bind_some, drop_r c1]
      by_cases c2 : l < A.length
      · have hj := (h.2.2.2.2.2.2.2 k c1).1
        have hj2 := (h2.2.2.2.2.2.2.2 l c2).1
        have e72 := k_72 (m := m) (k := W) hf h h2 c1 c2 (Nat.le_refl _) (Nat.le_refl _)
        rw [List.take_of_length_le (by omega), List.take_of_length_le (by omega)] at e72
        have is : cq_is 5 4 x (S, G, m) = some () := if_pos h.1
        rw [if_pos (by omega), o_gi h.1, Option.bind_some, h.2.2.2.1.1, is, Option.bind_some, e72, Option.bind_some, drop_r c2]
        have cin := vCmp_in (R.getD k dRw).1 (A.getD l dRw).1
        have st := st_84a (r8 := c84_8 f fu) (f := f) (x := x) (y := y) (T := (S, G, m)) (k := (k : Int)) (l := (l : Int)) (lf := (lf : Int)) (c := vCmp (R.getD k dRw).1 (A.getD l dRw).1) (by omega) (by omega) (by omega) (by omega)
        show ∃ v, c84_65 (c84_8 f fu) f x y (lf : Int) (k : Int) (l : Int) (vCmp (R.getD k dRw).1 (A.getD l dRw).1) (S, G, m) = some (v, (S, G, m)) ∧ _
        rw [st]
        by_cases c0 : vCmp (R.getD k dRw).1 (A.getD l dRw).1 = 0
        · have eD : mgD (n + 1) (R.getD k dRw :: R.drop (k + 1)) (A.getD l dRw :: A.drop (l + 1)) = mgD n (R.drop (k + 1)) (A.drop (l + 1)) := by
            show (if _ then _ else _) = _
            rw [if_pos c0]
          rw [eD, if_pos c0, ek, el]
          exact ih (k + 1) (l + 1) lf fu (by omega) (by omega) (by rw [List.length_drop, List.length_drop]; omega) (by omega) hlf
        · rw [if_neg c0]
          by_cases c3 : vCmp (R.getD k dRw).1 (A.getD l dRw).1 < 0
          · have eD : mgD (n + 1) (R.getD k dRw :: R.drop (k + 1)) (A.getD l dRw :: A.drop (l + 1)) = (1, (R.getD k dRw).1) :: mgD n (R.drop (k + 1)) (A.drop l) := by
              show (if _ then _ else if _ then _ else _) = _
              rw [if_neg c0, if_pos c3, drop_r c2]
            rw [eD, if_pos c3, if_pos c3]
            by_cases c4 : lf = 0
            · subst c4
              rw [if_pos (by omega)]
              exact ⟨_, rfl, fun _ => ⟨k, .inl ⟨rfl, by omega, c1, rfl⟩⟩⟩
            · obtain ⟨g, rfl⟩ : ∃ g, lf = g + 1 := ⟨lf - 1, by omega⟩
              rw [if_neg (by omega), ek, show ((g + 1 : Nat) : Int) - 1 = ((g : Nat) : Int) by omega]
              obtain ⟨v, v1, v2⟩ := ih (k + 1) l g fu (by omega) (by omega) (by rw [List.length_drop, List.length_drop]; omega) (by omega) (by omega)
              exact ⟨v, v1, fun z => v2 (by rw [List.length_cons] at z; omega)⟩
          · have eD : mgD (n + 1) (R.getD k dRw :: R.drop (k + 1)) (A.getD l dRw :: A.drop (l + 1)) = (0, (A.getD l dRw).1) :: mgD n (R.drop k) (A.drop (l + 1)) := by
              show (if _ then _ else if _ then _ else _) = _
              rw [if_neg c0, if_neg c3, drop_r c1]
            rw [eD, if_neg c3, if_neg c3]
            by_cases c4 : lf = 0
            · subst c4
              rw [if_pos (by omega)]
              exact ⟨_, rfl, fun _ => ⟨l, .inr ⟨rfl, by omega, c2, rfl⟩⟩⟩
            · obtain ⟨g, rfl⟩ : ∃ g, lf = g + 1 := ⟨lf - 1, by omega⟩
              rw [if_neg (by omega), el, show ((g + 1 : Nat) : Int) - 1 = ((g : Nat) : Int) by omega]
              obtain ⟨v, v1, v2⟩ := ih k (l + 1) g fu (by omega) (by omega) (by rw [List.length_drop, List.length_drop]; omega) (by omega) (by omega)
              exact ⟨v, v1, fun z => v2 (by rw [List.length_cons] at z; omega)⟩
      · have eA : A.drop l = [] := List.drop_eq_nil_of_le (by omega)
        rw [if_neg (by omega), eA]
        have st := st_84a (r8 := c84_8 f fu) (f := f) (x := x) (y := y) (T := (S, G, m)) (k := (k : Int)) (l := (l : Int)) (lf := (lf : Int)) (c := -1) (by omega) (by omega) (by omega) (by omega)
        rw [st, if_neg (by decide), if_pos (show (-1 : Int) < 0 by decide), if_pos (show (-1 : Int) < 0 by decide)]
        show ∃ v, _ ∧ (lf < ((1, (R.getD k dRw).1) :: mgD n (R.drop (k + 1)) []).length → cEc R A v (((1, (R.getD k dRw).1) :: mgD n (R.drop (k + 1)) []).getD lf (0, [])))
        by_cases c4 : lf = 0
        · subst c4
          rw [if_pos (by omega)]
          exact ⟨_, rfl, fun _ => ⟨k, .inl ⟨rfl, by omega, c1, rfl⟩⟩⟩
        · obtain ⟨g, rfl⟩ : ∃ g, lf = g + 1 := ⟨lf - 1, by omega⟩
          rw [if_neg (by omega), ek, show ((g + 1 : Nat) : Int) - 1 = ((g : Nat) : Int) by omega]
          obtain ⟨v, v1, v2⟩ := ih (k + 1) l g fu (by omega) (by omega) (by rw [List.length_drop, List.length_drop]; omega) (by omega) (by omega)
          rw [eA] at v2
          exact ⟨v, v1, fun z => v2 (by rw [List.length_cons] at z; omega)⟩
    · have eR : R.drop k = [] := List.drop_eq_nil_of_le (by omega)
      rw [if_neg (by omega), eR]
      by_cases c2 : l < A.length
      · rw [if_neg (by omega), Option.bind_some, if_neg (by omega), drop_r c2]
        have st := st_84a (r8 := c84_8 f fu) (f := f) (x := x) (y := y) (T := (S, G, m)) (k := (k : Int)) (l := (l : Int)) (lf := (lf : Int)) (c := 1) (by omega) (by omega) (by omega) (by omega)
        rw [st, if_neg (by decide), if_neg (show ¬ (1 : Int) < 0 by decide), if_neg (show ¬ (1 : Int) < 0 by decide)]
        show ∃ v, _ ∧ (lf < ((0, (A.getD l dRw).1) :: mgD n [] (A.drop (l + 1))).length → cEc R A v (((0, (A.getD l dRw).1) :: mgD n [] (A.drop (l + 1))).getD lf (0, [])))
        by_cases c4 : lf = 0
        · subst c4
          rw [if_pos (by omega)]
          exact ⟨_, rfl, fun _ => ⟨l, .inr ⟨rfl, by omega, c2, rfl⟩⟩⟩
        · obtain ⟨g, rfl⟩ : ∃ g, lf = g + 1 := ⟨lf - 1, by omega⟩
          rw [if_neg (by omega), el, show ((g + 1 : Nat) : Int) - 1 = ((g : Nat) : Int) by omega]
          obtain ⟨v, v1, v2⟩ := ih k (l + 1) g fu (by omega) (by omega) (by rw [List.length_drop, List.length_drop]; omega) (by omega) (by omega)
          rw [eR] at v2
          exact ⟨v, v1, fun z => v2 (by rw [List.length_cons] at z; omega)⟩
      · have eA : A.drop l = [] := List.drop_eq_nil_of_le (by omega)
        rw [eA, Option.bind_some, if_pos (by omega)]
        exact ⟨-1, rfl, fun z => absurd z (Nat.not_lt_zero _)⟩
theorem k_84 {lf : Nat} (hf : 1100 < f) (h : cRw S G x W cap R) (h2 : cRw S G y W cap2 A) (hlf : lf < (mgD (R.length + A.length) R A).length) (hl2 : lf < 1000) : ∃ v, c84 f x y (lf : Int) (S, G, m) = some (v, (S, G, m)) ∧ cEc R A v ((mgD (R.length + A.length) R A).getD lf (0, [])) := by
  have hR := h.2.2.2.2.1
  have hA := h2.2.2.2.2.1
  have hcap := h.2.2.2.2.2.1
  have hcap2 := h2.2.2.2.2.2.1
  obtain ⟨v, v1, v2⟩ := k_84l (m := m) (f := f) (by omega) h h2 (R.length + A.length) 0 0 lf f (Nat.zero_le _) (Nat.zero_le _) (by rw [List.drop_zero, List.drop_zero]; omega) (by omega) hl2
  rw [List.drop_zero, List.drop_zero] at v2
  exact ⟨v, v1, v2 hlf⟩
end
end
section
/-! THE CLASS: differing, rowsAhead; the list of a round's edits -/
section
variable {f x y q qo nq nqo nx nxo ea eb rp ro p sl A0 : Nat} {S : Nat → Nat × Nat × Nat} {G : xG_} {m : Nat × Nat} {s so : pPg} {xr cr xo co : Nat → Nat} {M Mo A : Nat → List pRw} {F Fo : List pFc}
theorem dfN_nil {R : List pRw} : dfN R [] = R.length := by
  unfold dfN
  rw [List.countP_eq_length.mpr (fun r _ => by rfl)]
  rfl
theorem k_18 (hf : 700 < f) (hq : cPgm S G q nq s) (ho : cPgm S G qo nqo so) (hoks : qOk s) (hoko : qOk so) (hm : cMr S G nx eb q rp s xr cr M) (hmo : cMr S G nxo ea qo ro so xo co Mo) (hM : okM8 s M) (hMo : okM8 so Mo) (hA : isAh so s Mo A) (hp : p < s.1.length) : c18 f eb ea (p : Int) (S, G, m) = some ((dfN (M p) (A p) : Int), (S, G, m)) := by
  obtain ⟨v, v1, v2⟩ := k_21 (f := f) (m := m) (by omega) hq ho hoks hoko hp
  obtain ⟨b1, b2, b3⟩ := hm.2.2.2.2 p hp
  have i1 : cq_is 3 14 qo (S, G, m) = some () := if_pos ho.1.1
  have i2 : cq_is 5 4 (xr p) (S, G, m) = some () := if_pos b3.1
  unfold c18 c18_45
  rw [o_gr hmo.1 hmo.2.1, Option.bind_some, o_gr hm.1 hm.2.1, Option.bind_some, i1, Option.bind_some, v1, Option.bind_some]
  rcases v2 with ⟨r, rfl, r1, r2, r3⟩ | ⟨rfl, r1⟩
  · obtain ⟨d1, d2, d3⟩ := hmo.2.2.2.2 r r1
    have eA : A p = Mo r := by
      rcases hA p hp with ⟨r', a1, a2, a3, e⟩ | ⟨a1, e⟩
      · have : r' = r := nm_inj hoko a1 r1 (a2.trans r2.symm)
        rw [e, this]
      · exact absurd r3 (a1 r r1 r2)
    rw [r3] at d3
    have e83 := k_83 (f := f) (m := m) (by omega) b3 d3 (hM p hp).1 (hMo r r1).1
    rw [if_pos (show ¬ (((r : Nat) : Int) = -1) by omega), o_gr hm.1 hm.2.2.1, Option.bind_some, o_ar hm.2.2.2.1 (by decide) hp b1, Option.bind_some, o_gr hmo.1 hmo.2.2.1, Option.bind_some, o_ar hmo.2.2.2.1 (by decide) r1 d1, Option.bind_some, i2, Option.bind_some, e83, Option.bind_some, eA]
  · have eA : A p = [] := by
      rcases hA p hp with ⟨r', a1, a2, a3, e⟩ | ⟨a1, e⟩
      · exact absurd a3 (r1 r' a1 a2)
      · exact e
    rw [if_neg (fun z => z rfl), o_gr hm.1 hm.2.2.1, Option.bind_some, o_ar hm.2.2.2.1 (by decide) hp b1, Option.bind_some, o_gi b3.1, Option.bind_some, b3.2.2.2.1.2.1, eA, dfN_nil]
theorem k_17 (hf : 700 < f) (hA0 : 0 < A0) (hqA : q + 10 < A0) (hmA : eb < A0) (hq : cPgm S G q nq s) (ho : cPgm S G qo nqo so) (hoks : qOc s) (hoko : qOk so) (hm : cMr S G nx eb q rp s xr cr M) (hmo : cMr S G A0 ea qo ro so xo co Mo) (hA : isAh so s Mo A) (hp : p < s.1.length) : ∃ y S' G' m' c, c17 f eb ea (p : Int) (S, G, (A0, sl)) = some (y, (S', G', m')) ∧ A0 ≤ m'.1 ∧ m'.1 ≤ A0 + 3 ∧ sl ≤ m'.2 ∧ m'.2 ≤ sl + 4 ∧ (∀ a, a < A0 → S' a = S a) ∧ (∀ a j, a < A0 → G' a j = G a j) ∧ cRw S' G' y (qN s p) c (A p) := by
  obtain ⟨v, v1, v2⟩ := k_21 (f := f) (m := (A0, sl)) (by omega) hq ho hoks.1 hoko hp
  have i1 : cq_is 3 14 qo (S, G, (A0, sl)) = some () := if_pos ho.1.1
  have hw4 := (qN_pos hoks hp).2
  have h16 : s.1.length ≤ 16 := hq.2.2.1.2.1
  unfold c17
  rw [o_gr hmo.1 hmo.2.1, Option.bind_some, o_gr hm.1 hm.2.1, Option.bind_some, i1, Option.bind_some, v1, Option.bind_some]
  rcases v2 with ⟨r, rfl, r1, r2, r3⟩ | ⟨rfl, r1⟩
  · obtain ⟨d1, d2, d3⟩ := hmo.2.2.2.2 r r1
    have eA : A p = Mo r := by
      rcases hA p hp with ⟨r', a1, a2, a3, e⟩ | ⟨a1, e⟩
      · have : r' = r := nm_inj hoko a1 r1 (a2.trans r2.symm)
        rw [e, this]
      · exact absurd r3 (a1 r r1 r2)
    rw [r3] at d3
    rw [if_pos (show ¬ (((r : Nat) : Int) = -1) by omega), o_gr hmo.1 hmo.2.2.1, Option.bind_some, o_ar hmo.2.2.2.1 (by decide) r1 d1, Option.bind_some]
    exact ⟨xo r, S, G, (A0, sl), co r, rfl, Nat.le_refl _, Nat.le_add_right _ _, Nat.le_refl _, Nat.le_add_right _ _, fun _ _ => rfl, fun _ _ _ => rfl, by rw [eA]; exact d3⟩
  · have eA : A p = [] := by
      rcases hA p hp with ⟨r', a1, a2, a3, e⟩ | ⟨a1, e⟩
      · exact absurd a3 (r1 r' a1 a2)
      · exact e
    obtain ⟨S1, hS1⟩ : ∃ S1, S1 = xup1 S A0 (1, 5, 4) := ⟨_, rfl⟩
    obtain ⟨G1, hG1⟩ : ∃ G1, G1 = xz1 G A0 (fun _ => 0) := ⟨_, rfl⟩
    have sL1 : ∀ a, a < A0 → S1 a = S a := fun a ha => by rw [hS1, xup1_n (by omega)]
    have gL1 : ∀ a j, a < A0 → G1 a j = G a j := fun a j ha => by rw [hG1, xz1_n _ (by omega)]
    have sA1 : S1 A0 = (1, 5, 4) := by rw [hS1, xup1_s]
    have enw : cq_nw 5 4 (S, G, (A0, sl)) = some (A0, (S1, G1, (A0 + 1, sl + 4))) := by rw [hS1, hG1]; rfl
    have e1 := k_68 (f := f) (A := A0) (W := qN s p) (n := 0) (sl := sl + 4) (S := S1) (G := G1) hA0 (by omega) (by omega) sA1
    obtain ⟨S2, hS2⟩ : ∃ S2, S2 = xup1 (xup1 S1 (A0 + 1) (2, 4, qN s p * 0)) (A0 + 2) (2, 3, 0) := ⟨_, rfl⟩
    obtain ⟨G2, hG2⟩ : ∃ G2, G2 = xup2 (xz1 (xup2 (xz1 (xup2 G1 A0 0 (qN s p : Int)) (A0 + 1) (fun _ => 0)) A0 2 ((A0 + 1 : Nat) : Int)) (A0 + 2) (fun _ => 0)) A0 3 ((A0 + 2 : Nat) : Int) := ⟨_, rfl⟩
    rw [← hS2, ← hG2] at e1
    have sA : S2 A0 = (1, 5, 4) := by rw [hS2, xup1_n (by omega), xup1_n (by omega), sA1]
    have sA1' : S2 (A0 + 1) = (2, 4, qN s p * 0) := by rw [hS2, xup1_n (by omega), xup1_s]
    have sA2 : S2 (A0 + 2) = (2, 3, 0) := by rw [hS2, xup1_s]
    have sL : ∀ a, a < A0 → S2 a = S a := fun a ha => by rw [hS2, xup1_n (by omega), xup1_n (by omega), sL1 a ha]
    have gL : ∀ a j, a < A0 → G2 a j = G a j := fun a j ha => by rw [hG2, xup2_n (by omega), xz1_n _ (by omega), xup2_n (by omega), xz1_n _ (by omega), xup2_n (by omega), gL1 a j ha]
    have g0 : G2 A0 0 = (qN s p : Int) := by rw [hG2, xup2_n (by omega), xz1_n _ (by omega), xup2_n (by omega), xz1_n _ (by omega), xup2_s]
    have g1 : G2 A0 1 = 0 := by rw [hG2, xup2_n (by omega), xz1_n _ (by omega), xup2_n (by omega), xz1_n _ (by omega), xup2_n (by omega), hG1, xz1_s]
    have g2 : G2 A0 2 = ((A0 + 1 : Nat) : Int) := by rw [hG2, xup2_n (by omega), xz1_n _ (by omega), xup2_s]
    have g3 : G2 A0 3 = ((A0 + 2 : Nat) : Int) := by rw [hG2, xup2_s]
    have gw : G1 (q + 2) p = (qN s p : Int) := by
      rw [gL1 _ _ (by omega), (qN_c hoks.1.1 p).1]
      exact hq.2.2.2.1 p (by omega)
    have e2 : c68 f A0 (qN s p : Int) 0 (S1, G1, (A0 + 1, sl + 4)) = some (S2, G2, (A0 + 3, sl + 4 + qN s p * 0 + 0)) := e1
    rw [if_neg (fun z => z rfl), enw, Option.bind_some, o_gr (x := eb) (y := q) (by rw [sL1 _ hmA]; exact hm.1) (by rw [gL1 _ _ hmA]; exact hm.2.1), Option.bind_some, o_gr (x := q) (y := q + 2) (by rw [sL1 _ (by omega)]; exact hq.1.1) (by rw [gL1 _ _ (by omega)]; exact hq.2.1.2.1), Option.bind_some, o_a (L := 16) (by rw [sL1 _ (by omega)]; exact hq.1.2.2.1) (by omega), Option.bind_some, gw, e2, Option.bind_some]
    refine ⟨A0, S2, G2, (A0 + 3, sl + 4 + qN s p * 0 + 0), 0, rfl, by show A0 ≤ A0 + 3; omega, Nat.le_refl _, by show sl ≤ sl + 4 + qN s p * 0 + 0; omega, by show sl + 4 + qN s p * 0 + 0 ≤ sl + 4; omega, sL, gL, sA, ⟨_, sA1', by omega, by omega⟩, sA2, ⟨g0, by rw [eA]; exact g1, g2, g3⟩, by rw [eA]; exact Nat.le_refl _, by omega, by omega, fun i hi => by rw [eA] at hi; exact absurd hi (Nat.not_lt_zero _)⟩
/-- edits of one predicate, of those from p on -/
def eB (s : pPg) (M A : Nat → List pRw) (p : Nat) : List pEd := if pOu s.2.2.1 (p : Int) = true then (mgD ((M p).length + (A p).length) (M p) (A p)).map (fun e => (p, e.1, e.2)) else []
def eT (B : Nat → List pEd) : Nat → Nat → List pEd
  | _, 0 => []
  | p, d + 1 => B p ++ eT B (p + 1) d
theorem eT_m {B : Nat → List pEd} (hB : ∀ p e, e ∈ B p → e.1 = p) {e : pEd} : ∀ (d p : Nat), e ∈ eT B p d ↔ (p ≤ e.1 ∧ e.1 < p + d) ∧ e ∈ B e.1
  | 0, p => ⟨fun z => absurd z List.not_mem_nil, fun z => by have := z.1; omega⟩
  | d + 1, p => by
    show e ∈ B p ++ eT B (p + 1) d ↔ _
    rw [List.mem_append, eT_m hB d (p + 1)]
    constructor
    · rintro (z | ⟨z1, z2⟩)
      · have := hB p e z
        exact ⟨by omega, by rw [this]; exact z⟩
      · exact ⟨by omega, z2⟩
    · rintro ⟨z1, z2⟩
      by_cases c : e.1 = p
      · exact .inl (by rw [← c]; exact z2)
      · exact .inr ⟨by omega, z2⟩
def edL' (e e' : pEd) : Prop := e.1 < e'.1 ∨ e.1 = e'.1 ∧ vLt e.2.2 e'.2.2
theorem eT_s {B : Nat → List pEd} (hB : ∀ p e, e ∈ B p → e.1 = p) (hs : ∀ p, (B p).Pairwise edL') : ∀ (d p : Nat), (eT B p d).Pairwise edL'
  | 0, p => List.Pairwise.nil
  | d + 1, p => by
    show (B p ++ eT B (p + 1) d).Pairwise edL'
    refine List.pairwise_append.mpr ⟨hs p, eT_s hB hs d (p + 1), fun a ha b hb => .inl ?_⟩
    have h1 := hB p a ha
    have h2 := ((eT_m hB d (p + 1)).mp hb).1
    omega
theorem eB_1 {p : Nat} {e : pEd} (h : e ∈ eB s M A p) : e.1 = p := by
  unfold eB at h
  split at h
  · obtain ⟨x, _, rfl⟩ := List.mem_map.mp h
    rfl
  · cases h
/-- the edits of a round are these -/
theorem ed_is {E : List pEd} (hok : qOk s) (hoko : qOk so) (hR : qTb s M) (hM : qTb so Mo) (hF : qFa s M F) (hFo : qFa so Mo Fo) (hA : isAh so s Mo A) (hE : qEd s F Fo E) : E = eT (eB s (fun p => if p < s.1.length then M p else []) (fun p => if p < s.1.length then A p else [])) 0 s.1.length := by
  obtain ⟨M', hM'⟩ : ∃ M', M' = fun p => if p < s.1.length then M p else [] := ⟨_, rfl⟩
  obtain ⟨A', hA'⟩ : ∃ A', A' = fun p => if p < s.1.length then A p else [] := ⟨_, rfl⟩
  rw [← hM', ← hA']
  have hAs := hA.srt hM
  have eM : ∀ p, p < s.1.length → M' p = M p := fun p hp => by rw [hM']; exact if_pos hp
  have eA : ∀ p, p < s.1.length → A' p = A p := fun p hp => by rw [hA']; exact if_pos hp
  have nM : ∀ p, ¬ p < s.1.length → M' p = [] := fun p hp => by rw [hM']; exact if_neg hp
  have nA : ∀ p, ¬ p < s.1.length → A' p = [] := fun p hp => by rw [hA']; exact if_neg hp
  have key : ∀ p, (∀ e, e ∈ mgD ((M' p).length + (A' p).length) (M' p) (A' p) ↔ mgM (M' p) (A' p) e) ∧ (mgD ((M' p).length + (A' p).length) (M' p) (A' p)).Pairwise (fun e e' => vLt e.2 e'.2) := fun p => by
    by_cases hp : p < s.1.length
    · rw [eM p hp, eA p hp]
      exact mgD_i (qN s p) _ _ _ (Nat.le_refl _) (hR p hp).2.1 (hAs p hp).1 (fun r hr => ((hR p hp).2.2 r hr).1) (hAs p hp).2.2
    · rw [nM p hp, nA p hp]
      exact mgD_i 0 _ _ _ (Nat.le_refl _) List.Pairwise.nil List.Pairwise.nil (fun r hr => by cases hr) (fun r hr => by cases hr)
  have hB : ∀ p e, e ∈ eB s M' A' p → e.1 = p := fun p e h => eB_1 h
  have hBs : ∀ p, (eB s M' A' p).Pairwise edL' := fun p => by
    unfold eB
    split
    · exact List.pairwise_map.mpr ((key p).2.imp (fun {a b} h => .inr ⟨rfl, h⟩))
    · exact List.Pairwise.nil
  refine srt_ext (lt := edL') ?_ ?_ _ _ ?_ (eT_s hB hBs _ _) (fun e => ?_)
  · rintro a (h | ⟨_, h⟩)
    · omega
    · exact vLt_irr _ h
  · rintro a b c (h | ⟨h, h'⟩) (g | ⟨g, g'⟩)
    · exact .inl (by omega)
    · exact .inl (by omega)
    · exact .inl (by omega)
    · exact .inr ⟨h.trans g, vLt_tr h' g'⟩
  · refine hE.1.imp_of_mem (fun {a b} ha hb z => ?_)
    rcases z with z | ⟨z1, z2⟩
    · exact .inl z
    · have l1 := ((hE.2 a).mp ha).2.2.1
      have l2 := ((hE.2 b).mp hb).2.2.1
      exact .inr ⟨z1, (vLt_iff (by rw [l1, l2, z1])).mpr z2⟩
  · rw [hE.2 e, eT_m hB]
    unfold eB edQ
    constructor
    · rintro ⟨h1, h2, h3, h4⟩
      rw [if_pos h2]
      refine ⟨⟨Nat.zero_le _, by omega⟩, List.mem_map.mpr ⟨(e.2.1, e.2.2), ((key e.1).1 _).mpr ?_, rfl⟩⟩
      unfold mgM
      rw [eM _ h1, eA _ h1, ← inV_h, ← inV_h, ← fn_iff hok hF h1, ← fo_iff hoko hM hFo hA h1 h3]
      rcases h4 with ⟨z1, z2, z3⟩ | ⟨z1, z2, z3⟩
      · exact .inr ⟨z1, z2, z3⟩
      · exact .inl ⟨z1, z2, z3⟩
    · rintro ⟨⟨_, h1⟩, h2⟩
      have hp : e.1 < s.1.length := by omega
      by_cases c : pOu s.2.2.1 (e.1 : Int) = true
      · rw [if_pos c] at h2
        obtain ⟨x, x1, x2⟩ := List.mem_map.mp h2
        have x3 : x = e.2 := by rw [← x2]
        rw [x3] at x1
        have x4 := ((key e.1).1 _).mp x1
        unfold mgM at x4
        rw [eM _ hp, eA _ hp] at x4
        have hl : e.2.2.length = qN s e.1 := by
          rcases x4 with ⟨_, ⟨r, r1, r2⟩, _⟩ | ⟨_, ⟨r, r1, r2⟩, _⟩
          · rw [← r2]; exact ((hR _ hp).2.2 r r1).1
          · rw [← r2]; exact (hAs _ hp).2.2 r r1
        rw [← inV_h, ← inV_h, ← fn_iff hok hF hp, ← fo_iff hoko hM hFo hA hp hl] at x4
        refine ⟨hp, c, hl, ?_⟩
        rcases x4 with ⟨z1, z2, z3⟩ | ⟨z1, z2, z3⟩
        · exact .inr ⟨z1, z2, z3⟩
        · exact .inl ⟨z1, z2, z3⟩
      · rw [if_neg c] at h2; cases h2
end
end
section
/-! THE CLASS: edits(), edit(), predicate() -/
section
variable {f A0 hr n sl np p ea eb : Nat} {S S' : Nat → Nat × Nat × Nat} {G G' : xG_} {m : Nat × Nat} {s so : pPg} {M Mo A : Nat → List pRw} {T : List (List Int)} {P : Nat → Nat} {lns : Nat → sLn} {tx : List Int} {kp : Nat × List (List Int)} {mt : Int × List Int} {pl rf : Int} {B : Nat → List pEd}
/-- no call but one changes what stood -/
theorem cHs.al {A' n' : Nat} {H : sHs} (h : cHs S G A0 H n) (hn : n ≤ n') (hA : A0 ≤ A') (hS : ∀ a, a < A0 → S' a = S a) (hG : ∀ a j, a < A0 → G' a j = G a j) : cHs S' G' A' H n' := by
  obtain ⟨T, lns, hr, tx, kp, mt, pl, rf⟩ := H
  obtain ⟨⟨a1, a2, a3, a4⟩, ⟨P, d1, d2, d3⟩, ⟨c1, c2⟩, ⟨c3, c4⟩, c5', c6', c7', ⟨an, sp, k1, k2, k3, k4⟩, c9'⟩ := h
  have sf : xSf A0 G G' := fun a j y1 y2 => hG a j y1
  refine ⟨⟨fun k hk => by rw [hS _ (by omega)]; exact a1 k hk, a2.ge (fun a j hz => hG a j (by
      rcases hz with z | z | z | z | z | z | z | ⟨z, z1, z2, k, z3⟩ | z | z | z | ⟨k, z1, z2, z3⟩ <;> omega)), a3.ge (fun a j y1 y2 => hG a j (by omega)), by omega⟩, ⟨P, d1.ge hA hS sf (by rw [hG _ _ (by omega)]; exact Int.le_refl _), fun y hy => (d2 y hy).ge hA hS sf (fun a j y1 y2 => hG a j (by omega)), d3.ge hA hS sf ⟨hG _ _ (by omega), hG _ _ (by omega)⟩⟩, ⟨c1, by rw [hG _ _ (by omega)]; exact c2⟩, ⟨by rw [hG _ _ (by omega)]; exact c3, by rw [hG _ _ (by omega)]; omega⟩, by rw [hG _ _ (by omega)]; exact c5', by rw [hG _ _ (by omega)]; exact c6', c7'.ge (hG _ _ (by omega)) (fun p => hG _ _ (by omega)), ⟨an, sp, k1, by rw [hG _ _ (by omega)]; exact k2, by rw [hG _ _ (by omega)]; exact k3, k4.ge (fun a y1 y2 => hS a (by omega)) (fun j => hG _ _ (by omega)) (fun j => hG _ _ (by omega)) (fun j => hG _ _ (by omega))⟩, c9'.ge ⟨hG _ _ (by omega), hG _ _ (by omega)⟩ (fun j => hG _ _ (by omega))⟩
theorem cHs.ex {n' : Nat} {H : sHs} (h : cHs S G A0 H n) (hn : n ≤ n') : cHs (cq_ex (S, G, (A0, sl))).1 (cq_ex (S, G, (A0, sl))).2.1 (cq_ex (S, G, (A0, sl))).2.2.1 H n' := h.al hn (Nat.le_succ _) (fun a ha => xup1_n (Nat.ne_of_lt ha)) (fun a j ha => by
  show xz1 G A0 (fun _ => 0) a j = G a j
  exact xz1_n _ (by omega))
/-- both moments of the round whose edits are told -/
def cEx (S : Nat → Nat × Nat × Nat) (G : xG_) (A0 : Nat) (s so : pPg) (M Mo A : Nat → List pRw) (ea eb q : Nat) : Prop := ∃ (qo nq nqo rp ro : Nat) (xr cr xo co : Nat → Nat), cMr S G A0 eb q rp s xr cr M ∧ cMr S G A0 ea qo ro so xo co Mo ∧ cPgm S G q nq s ∧ cPgm S G qo nqo so ∧ (qOc s ∧ qOc so ∧ okM8 s M ∧ okM8 so Mo ∧ qTb s M ∧ qTb so Mo) ∧ isAh so s Mo A ∧ (q + 10 < A0 ∧ 555 < A0 ∧ ea < A0 ∧ eb < A0 ∧ ea ≠ 0 ∧ eb ≠ 0 ∧ rp < A0)
theorem ah_ex (so s : pPg) (Mo : Nat → List pRw) : ∃ A, isAh so s Mo A := by
  have : ∀ p, ∃ L, (∃ r, r < so.1.length ∧ qNm so r = qNm s p ∧ qN so r = qN s p ∧ L = Mo r) ∨ ((∀ r, r < so.1.length → qNm so r = qNm s p → qN so r ≠ qN s p) ∧ L = []) := fun p => by
    by_cases c : ∃ r, r < so.1.length ∧ qNm so r = qNm s p ∧ qN so r = qN s p
    · obtain ⟨r, r1, r2, r3⟩ := c
      exact ⟨_, .inl ⟨r, r1, r2, r3, rfl⟩⟩
    · exact ⟨_, .inr ⟨fun r r1 r2 r3 => c ⟨r, r1, r2, r3⟩, rfl⟩⟩
  obtain ⟨A, hA⟩ := Classical.skolem.mp this
  exact ⟨A, fun p _ => hA p⟩
theorem ed_cx (h : cHs S G A0 (T, lns, hr, tx, kp, mt, pl, rf) n) (im : isMo T (lMo (lns hr)) s M) (ht : (lns hr).2.2.1.2.2 = true) : ∃ (so : pPg) (Mo A : Nat → List pRw) (ea eb q : Nat), cEx S G A0 s so M Mo A ea eb q ∧ G 64 12 = (ea : Int) ∧ G 64 13 = (eb : Int) ∧ qFa s M (lMo (lns hr)).2.1 ∧ qFa so Mo ((lns hr).1 ((lns hr).2.1.1 + (lns hr).2.1.2.1 - 1)).2.1 := by
  obtain ⟨⟨a1, a2, a3, a4⟩, ⟨P, d1, d2, ⟨_, d3⟩⟩, _⟩ := h
  obtain ⟨ea, eb, g1, g2, g3, g4⟩ := d3 ht
  obtain ⟨so, Mo, _, _, _, _, _, _, imo, _⟩ := id g3
  obtain ⟨rp, xr, cr, nq, r1, r2, r3, r4, r5, r6, r7, r8, r9⟩ := g4.pm d1 im
  obtain ⟨ro, xo, co, nqo, o1, o2, o3, o4, o5, o6, o7, o8, o9⟩ := g3.pm d1 imo
  obtain ⟨A, hA⟩ := ah_ex so s Mo
  have hq := r2.2.2.2.2.2.2.2.2
  have t7 := r7.2
  have u7 := o7.2
  exact ⟨so, Mo, A, ea, eb, P (lMo (lns hr)).1, ⟨_, nq, nqo, rp, ro, xr, cr, xo, co, r1, o1, r2, o2, ⟨r4, o4, r5, o5, im.2.2.2.2.1.1.1, imo.2.2.2.2.1.1.1⟩, hA, Nat.lt_of_lt_of_le hq r3, a4, o7.1, r7.1, by omega, by omega, r8.1⟩, g1, g2, im.2.2.2.2.2.1, imo.2.2.2.2.2.1⟩
def eM0 (s : pPg) (M : Nat → List pRw) : Nat → List pRw := fun p => if p < s.1.length then M p else []
theorem eB_len (hR : qTb s M) (hM : qTb so Mo) (hA : isAh so s Mo A) (hp : p < s.1.length) : (eB s (eM0 s M) (eM0 s A) p).length = (if pOu s.2.2.1 (p : Int) = true then dfN (M p) (A p) else 0) ∧ dfN (M p) (A p) ≤ 200 := by
  have hAs := hA.srt hM
  have h1 := (hR p hp).1
  have h2 := (hAs p hp).2.1
  have h3 := dfN_le (R := M p) (R2 := A p)
  refine ⟨?_, by omega⟩
  unfold eB
  split
  · rw [List.length_map]
    have e1 : eM0 s M p = M p := if_pos hp
    have e2 : eM0 s A p = A p := if_pos hp
    rw [e1, e2]
    exact mgD_nd (Nat.le_refl _) (hR p hp).2.1 (hAs p hp).1 (fun r hr => ((hR p hp).2.2 r hr).1) (hAs p hp).2.2
  · rfl
/-- the sum over OUTPUTS -/
theorem k_177l (hf : 700 < f) (hs : cSs S) {q : Nat} (hx : cEx S G A0 s so M Mo A ea eb q) (h12 : G 64 12 = (ea : Int)) (h13 : G 64 13 = (eb : Int)) : ∀ (d p ac fu : Nat), p + d = s.1.length → d < fu → ac ≤ 200 * p → c177_19 f fu 64 (ac : Int) q (p : Int) (S, G, m) = some (((ac + (eT (eB s (eM0 s M) (eM0 s A)) p d).length : Nat) : Int), (S, G, m)) := by
  obtain ⟨qo, nq, nqo, rp, ro, xr, cr, xo, co, x1, x2, x3, x4, ⟨x5, x6, x7, x8, x9, y0⟩, y1, y2⟩ := hx
  have h16 : s.1.length ≤ 16 := x3.2.2.1.2.1
  intro d
  induction d with
  | zero =>
    intro p ac fu e1 e2 e3
    obtain ⟨fu, rfl⟩ : ∃ t, fu = t + 1 := ⟨fu - 1, by omega⟩
    show c177_19b (c177_19 f fu) f _ _ _ _ _ = _
    unfold c177_19b
    rw [o_gi x3.1.1, Option.bind_some, x3.2.2.1.1, if_pos (by omega)]
    rfl
  | succ d ih =>
    intro p ac fu e1 e2 e3
    obtain ⟨fu, rfl⟩ : ∃ t, fu = t + 1 := ⟨fu - 1, by omega⟩
    have hp : p < s.1.length := by omega
    obtain ⟨l1, l2⟩ := eB_len x9 y0 y1 hp
    have e18 := k_18 (f := f) (m := m) hf x3 x4 x5.1 x6.1 x1 x2 x7 x8 y1 hp
    have is : cq_is 2 8 eb (S, G, m) = some () := if_pos x1.1
    have go : G (q + 5) p = b01 (pOu s.2.2.1 (p : Int)) := (x3.2.2.2.2.1 p (by omega)).2.2
    have w1 : xwr ((p : Int) + 1) = ((p + 1 : Nat) : Int) := by rw [xwr_g _ (by omega) (by omega)]; omega
    have w2 : xwr ((ac : Int) + (dfN (M p) (A p) : Int)) = ((ac + dfN (M p) (A p) : Nat) : Int) := by rw [xwr_g _ (by omega) (by omega)]; omega
    show c177_19b (c177_19 f fu) f _ _ _ _ _ = some (((ac + (eB s (eM0 s M) (eM0 s A) p ++ eT (eB s (eM0 s M) (eM0 s A)) (p + 1) d).length : Nat) : Int), (S, G, m))
    rw [List.length_append, l1]
    unfold c177_19b c177_51
    rw [o_gi x3.1.1, Option.bind_some, x3.2.2.1.1, if_neg (by omega), o_gr x3.1.1 x3.2.1.2.2.2.2.1, Option.bind_some, o_ab x3.1.2.2.2.2.2.1 (by omega), Option.bind_some, go]
    cases hb : pOu s.2.2.1 (p : Int) with
    | false =>
      rw [if_pos (by decide), if_neg (by decide), w1, ih (p + 1) ac fu (by omega) (by omega) (by omega), Nat.zero_add]
    | true =>
      rw [if_neg (by decide), if_pos rfl, o_gr (s64 hs) h13, Option.bind_some, o_gr (s64 hs) h12, Option.bind_some, is, Option.bind_some, e18, Option.bind_some, w1, w2, ih (p + 1) _ fu (by omega) (by omega) (by omega), Nat.add_assoc]
/-- edits() -/
theorem k_177e {v : Int} (hf : 700 < f) (h : cHs S G A0 (T, lns, hr, tx, kp, mt, pl, rf) n) (hst : ∃ s M E, isMo T (lMo (lns hr)) s M ∧ lnEs (lns hr) s E ∧ v = (E.length : Int)) : c177 f 64 (S, G, m) = some (v, (S, G, m)) := by
  obtain ⟨s, M, E, im, ⟨e1, e2⟩, rfl⟩ := hst
  cases ht : (lns hr).2.2.1.2.2 with
  | false =>
    rw [e2 ht]
    obtain ⟨⟨a1, a2, a3, a4⟩, ⟨P, d1, d2, ⟨d3, _⟩⟩, _⟩ := h
    unfold c177
    rw [o_gr (y := 0) (s64 a1) (d3 ht), Option.bind_some, if_pos rfl]
    rfl
  | true =>
    obtain ⟨so, Mo, A, ea, eb, q, cx, g1, g2, f1, f2⟩ := ed_cx h im ht
    obtain ⟨⟨a1, a2, a3, a4⟩, _⟩ := h
    have k := k_177l (m := m) hf a1 cx g1 g2 s.1.length 0 0 f (by omega) (by obtain ⟨_, _, _, _, _, _, _, _, _, _, _, x3, _⟩ := cx; have := x3.2.2.1.2.1; omega) (Nat.zero_le _)
    obtain ⟨qo, nq, nqo, rp, ro, xr, cr, xo, co, x1, x2, x3, x4, ⟨x5, x6, x7, x8, x9, y0⟩, y1, y2⟩ := cx
    have eE := ed_is x5.1 x6.1 x9 y0 f1 f2 y1 (e1 ht)
    rw [Nat.zero_add] at k
    unfold c177
    rw [o_gr (s64 a1) g2, Option.bind_some, if_neg (by omega), Option.bind_some, o_gr x1.1 x1.2.1, Option.bind_some]
    refine Eq.trans k ?_
    rw [eE]
    rfl
end
end
section
/-! THE CLASS: edit(), predicate() -/
section
variable {f A0 hr n sl np p ea eb q : Nat} {S S' : Nat → Nat × Nat × Nat} {G G' : xG_} {m : Nat × Nat} {s so : pPg} {M Mo A : Nat → List pRw} {T : List (List Int)} {P : Nat → Nat} {lns : Nat → sLn} {tx : List Int} {kp : Nat × List (List Int)} {mt : Int × List Int} {pl rf : Int} {i w : Int}
theorem k_178l (hf : 700 < f) (hs : cSs S) (hx : cEx S G A0 s so M Mo A ea eb q) (h12 : G 64 12 = (ea : Int)) (h13 : G 64 13 = (eb : Int)) : ∀ (d p lf fu : Nat), p + d = s.1.length → d < fu → lf < 2147483648 → ∃ p' l' : Nat, c178_28 f fu 64 i w (lf : Int) (p : Int) (s.1.length : Int) (S, G, m) = c178_90 f 64 i w (l' : Int) (p' : Int) (s.1.length : Int) (S, G, m) ∧ ((p' = s.1.length ∧ (eT (eB s (eM0 s M) (eM0 s A)) p d).length ≤ lf) ∨ (p' < s.1.length ∧ l' < (eB s (eM0 s M) (eM0 s A) p').length ∧ lf < (eT (eB s (eM0 s M) (eM0 s A)) p d).length ∧ (eT (eB s (eM0 s M) (eM0 s A)) p d).getD lf dEd = (eB s (eM0 s M) (eM0 s A) p').getD l' dEd)) := by
  obtain ⟨qo, nq, nqo, rp, ro, xr, cr, xo, co, x1, x2, x3, x4, ⟨x5, x6, x7, x8, x9, y0⟩, y1, y2⟩ := hx
  have h16 : s.1.length ≤ 16 := x3.2.2.1.2.1
  intro d
  induction d with
  | zero =>
    intro p lf fu e1 e2 e3
    obtain ⟨fu, rfl⟩ : ∃ t, fu = t + 1 := ⟨fu - 1, by omega⟩
    have e : p = s.1.length := by omega
    refine ⟨p, lf, ?_, .inl ⟨e, Nat.zero_le _⟩⟩
    show c178_28b (c178_28 f fu) f _ _ _ _ _ _ _ = _
    unfold c178_28b
    rw [if_pos (by omega)]
  | succ d ih =>
    intro p lf fu e1 e2 e3
    obtain ⟨fu, rfl⟩ : ∃ t, fu = t + 1 := ⟨fu - 1, by omega⟩
    have hp : p < s.1.length := by omega
    obtain ⟨l1, l2⟩ := eB_len x9 y0 y1 hp
    have e18 := k_18 (f := f) (m := m) hf x3 x4 x5.1 x6.1 x1 x2 x7 x8 y1 hp
    have is : cq_is 2 8 eb (S, G, m) = some () := if_pos x1.1
    have go : G (q + 5) p = b01 (pOu s.2.2.1 (p : Int)) := (x3.2.2.2.2.1 p (by omega)).2.2
    have w1 : xwr ((p : Int) + 1) = ((p + 1 : Nat) : Int) := by rw [xwr_g _ (by omega) (by omega)]; omega
    obtain ⟨B, hB⟩ : ∃ B, B = eB s (eM0 s M) (eM0 s A) := ⟨_, rfl⟩
    rw [← hB] at l1 ih ⊢
    -- the number of p's edits
    have st : c178_28 f (fu + 1) 64 i w (lf : Int) (p : Int) (s.1.length : Int) (S, G, m) = c178_68 (c178_28 f fu) f 64 i w (lf : Int) (p : Int) (s.1.length : Int) (((B p).length : Nat) : Int) (S, G, m) := by
      show c178_28b (c178_28 f fu) f _ _ _ _ _ _ _ = _
      unfold c178_28b
      rw [if_neg (by omega), o_gr (s64 hs) h13, Option.bind_some, o_gr x1.1 x1.2.1, Option.bind_some, o_gr x3.1.1 x3.2.1.2.2.2.2.1, Option.bind_some, o_ab x3.1.2.2.2.2.2.1 (by omega), Option.bind_some, go, l1]
      cases hb : pOu s.2.2.1 (p : Int) with
      | false => rw [if_pos (by decide), if_neg (by decide)]; rfl
      | true => rw [if_neg (by decide), if_pos rfl, Option.bind_some, o_gr (s64 hs) h12, Option.bind_some, is, Option.bind_some, e18, Option.bind_some]
    rw [st]
    unfold c178_68
    show ∃ p' l' : Nat, _ ∧ ((p' = s.1.length ∧ (B p ++ eT B (p + 1) d).length ≤ lf) ∨ (p' < s.1.length ∧ l' < (B p').length ∧ lf < (B p ++ eT B (p + 1) d).length ∧ (B p ++ eT B (p + 1) d).getD lf dEd = (B p').getD l' dEd))
    rw [List.length_append]
    by_cases c : (B p).length ≤ lf
    · have w2 : xwr ((lf : Int) - ((B p).length : Int)) = ((lf - (B p).length : Nat) : Int) := by rw [xwr_g _ (by omega) (by omega)]; omega
      rw [if_pos (by omega), w1, w2]
      obtain ⟨p', l', i1, i2⟩ := ih (p + 1) (lf - (B p).length) fu (by omega) (by omega) (by omega)
      refine ⟨p', l', i1, ?_⟩
      rcases i2 with ⟨j1, j2⟩ | ⟨j1, j2, j3, j4⟩
      · exact .inl ⟨j1, by omega⟩
      · refine .inr ⟨j1, j2, by omega, ?_⟩
        rw [← j4]
        simp only [List.getD_eq_getElem?_getD]
        rw [List.getElem?_append_right c]
    · rw [if_neg (by omega)]
      refine ⟨p, lf, rfl, .inr ⟨hp, by omega, by omega, ?_⟩⟩
      simp only [List.getD_eq_getElem?_getD]
      rw [List.getElem?_append_left (by omega)]
theorem ec_xa {k : Nat} (h : k < 1000) : xand ((2 * k + 1 : Nat) : Int) 1 = 1 ∧ xand ((2 * k : Nat) : Int) 1 = 0 ∧ xshr ((2 * k + 1 : Nat) : Int) 1 = (k : Int) ∧ xshr ((2 * k : Nat) : Int) 1 = (k : Int) := by
  have a1 := xand_nat (a := 2 * k + 1) (b := 1) (by omega) (by decide)
  have a2 := xand_nat (a := 2 * k) (b := 1) (by omega) (by decide)
  have b1 := xshr_nat (a := 2 * k + 1) (m := 1) (by omega) (by decide)
  have b2 := xshr_nat (a := 2 * k) (m := 1) (by omega) (by decide)
  refine ⟨a1.trans ?_, a2.trans ?_, b1.trans ?_, b2.trans ?_⟩
  · rw [Nat.and_one_is_mod]; omega
  · rw [Nat.and_one_is_mod]; omega
  · rw [Nat.shiftRight_eq_div_pow]; omega
  · rw [Nat.shiftRight_eq_div_pow]; omega
/-- edit() -/
theorem k_178 {v t : Int} (hf : 1100 < f) (hi : i < 2147483648) (h : cHs S G A0 (T, lns, hr, tx, kp, mt, pl, rf) n) (hst : stEt T (lns hr) i w t v) : (t = 0 ∧ ∃ S' G' m', c178 f 64 i w (S, G, (A0, sl)) = some (.inr v, (S', G', m')) ∧ A0 ≤ m'.1 ∧ m'.1 ≤ A0 + 3 ∧ sl ≤ m'.2 ∧ m'.2 ≤ sl + 4 ∧ (∀ a, a < A0 → S' a = S a) ∧ (∀ a j, a < A0 → G' a j = G a j)) ∨ (t = 1 ∧ c178 f 64 i w (S, G, (A0, sl)) = some (.inl 1, cq_ex (S, G, (A0, sl)))) := by
  obtain ⟨s, M, E, im, ⟨e1, e2⟩, hv⟩ := hst
  have h124 : c178_124 f (S, G, (A0, sl)) = some (.inl 1, cq_ex (S, G, (A0, sl))) := rfl
  cases ht : (lns hr).2.2.1.2.2 with
  | false =>
    rw [e2 ht] at hv
    obtain ⟨⟨a1, a2, a3, a4⟩, ⟨P, d1, d2, ⟨d3, _⟩⟩, _⟩ := h
    rcases hv with ⟨⟨⟨z1, z2⟩, _⟩, _⟩ | ⟨_, z, _⟩
    · have : (([] : List pEd).length : Int) = 0 := rfl
      omega
    · refine .inr ⟨z, ?_⟩
      unfold c178
      rw [o_gr (y := 0) (s64 a1) (d3 ht), Option.bind_some, if_pos rfl]
      obtain ⟨fu, hfu⟩ : ∃ t, f = t + 1 := ⟨f - 1, by omega⟩
      have e : c178_26 f 64 i w i 0 0 (S, G, (A0, sl)) = c178_90 f 64 i w i 0 0 (S, G, (A0, sl)) := by
        have : c178_28 f (fu + 1) 64 i w i 0 0 (S, G, (A0, sl)) = c178_90 f 64 i w i 0 0 (S, G, (A0, sl)) := by
          show c178_28b (c178_28 f fu) f _ _ _ _ _ _ _ = _
          unfold c178_28b
          rw [if_pos (Int.le_refl _)]
        rw [← hfu] at this
        exact this
      rw [e]
      unfold c178_90
      rw [h124]
      by_cases c1 : i < 0
      · rw [if_pos c1]
      · rw [if_neg c1]
        by_cases c2 : w < 0
        · rw [if_pos c2]
        · rw [if_neg c2, if_pos (Int.le_refl _)]
  | true =>
    obtain ⟨so, Mo, A, ea, eb, q, cx, g1, g2, f1, f2⟩ := ed_cx h im ht
    obtain ⟨⟨a1, a2, a3, a4⟩, _⟩ := h
    have kl := k_178l (f := f) (i := i) (w := w) (m := (A0, sl)) (by omega) a1 cx g1 g2
    obtain ⟨qo, nq, nqo, rp, ro, xr, cr, xo, co, x1, x2, x3, x4, ⟨x5, x6, x7, x8, x9, y0⟩, y1, y2⟩ := cx
    have eE : E = eT (eB s (eM0 s M) (eM0 s A)) 0 s.1.length := ed_is x5.1 x6.1 x9 y0 f1 f2 y1 (e1 ht)
    have h16 : s.1.length ≤ 16 := x3.2.2.1.2.1
    have e0 : c178 f 64 i w (S, G, (A0, sl)) = c178_28 f f 64 i w i 0 (s.1.length : Int) (S, G, (A0, sl)) := by
      unfold c178
      rw [o_gr (s64 a1) g2, Option.bind_some, if_neg (by omega), Option.bind_some, o_gr x1.1 x1.2.1, Option.bind_some, o_gi x3.1.1, Option.bind_some, x3.2.2.1.1]
      rfl
    have bad : c178 f 64 i w (S, G, (A0, sl)) = some (.inl 1, cq_ex (S, G, (A0, sl))) → ¬ ((0 ≤ i ∧ i < E.length) ∧ 0 ≤ w ∧ w ≤ 1 + (qN s (E.getD i.toNat dEd).1 : Int)) → t = 1 ∧ c178 f 64 i w (S, G, (A0, sl)) = some (.inl 1, cq_ex (S, G, (A0, sl))) := fun he hn => by
      rcases hv with ⟨z, _⟩ | ⟨_, z, _⟩
      · exact absurd z hn
      · exact ⟨z, he⟩
    by_cases ci : i < 0
    · refine .inr (bad ?_ (fun z => by have := z.1.1; omega))
      obtain ⟨fu, hfu⟩ : ∃ t, f = t + 1 := ⟨f - 1, by omega⟩
      have e90 : ∀ p' : Int, c178_90 f 64 i w i p' (s.1.length : Int) (S, G, (A0, sl)) = some (.inl 1, cq_ex (S, G, (A0, sl))) := fun p' => by
        unfold c178_90
        rw [if_pos ci, h124]
      have : c178_28 f (fu + 1) 64 i w i 0 (s.1.length : Int) (S, G, (A0, sl)) = some (.inl 1, cq_ex (S, G, (A0, sl))) := by
        show c178_28b (c178_28 f fu) f _ _ _ _ _ _ _ = _
        unfold c178_28b
        by_cases c0 : s.1.length = 0
        · rw [if_pos (by omega), e90]
        · have hp : 0 < s.1.length := by omega
          have e18 := k_18 (f := f) (m := (A0, sl)) (p := 0) (by omega) x3 x4 x5.1 x6.1 x1 x2 x7 x8 y1 hp
          have is : cq_is 2 8 eb (S, G, (A0, sl)) = some () := if_pos x1.1
          have go : G (q + 5) 0 = b01 (pOu s.2.2.1 ((0 : Nat) : Int)) := (x3.2.2.2.2.1 0 (by omega)).2.2
          have ga : cq_ab (q + 5) 0 (S, G, (A0, sl)) = some (b01 (pOu s.2.2.1 ((0 : Nat) : Int))) := by rw [← go]; exact o_ab (z := 0) x3.1.2.2.2.2.2.1 (by omega)
          have e18' : c18 f eb ea 0 (S, G, (A0, sl)) = some ((dfN (M 0) (A 0) : Int), (S, G, (A0, sl))) := e18
          rw [if_neg (by omega), o_gr (s64 a1) g2, Option.bind_some, o_gr x1.1 x1.2.1, Option.bind_some, o_gr x3.1.1 x3.2.1.2.2.2.2.1, Option.bind_some, ga, Option.bind_some]
          cases hb : pOu s.2.2.1 ((0 : Nat) : Int) with
          | false =>
            rw [if_pos (by decide)]
            unfold c178_68
            rw [if_neg (by omega), e90]
          | true =>
            rw [if_neg (by decide), Option.bind_some, o_gr (s64 a1) g1, Option.bind_some, is, Option.bind_some, e18', Option.bind_some]
            unfold c178_68
            rw [if_neg (by omega), e90]
      rw [e0]
      rw [← hfu] at this
      exact this
    · obtain ⟨lf, rfl⟩ : ∃ lf : Nat, i = (lf : Int) := ⟨i.toNat, by omega⟩
      obtain ⟨p', l', k1, k2⟩ := kl s.1.length 0 lf f (by omega) (by omega) (by omega)
      rw [← eE] at k2
      have e3 : c178 f 64 (lf : Int) w (S, G, (A0, sl)) = c178_90 f 64 (lf : Int) w (l' : Int) (p' : Int) (s.1.length : Int) (S, G, (A0, sl)) := e0.trans k1
      have et : ((lf : Nat) : Int).toNat = lf := by omega
      rw [et] at hv bad
      by_cases cw : w < 0
      · refine .inr (bad ?_ (fun z => by have := z.2.1; omega))
        rw [e3]
        unfold c178_90
        rw [if_neg ci, if_pos cw, h124]
      · rcases k2 with ⟨j1, j2⟩ | ⟨j1, j2, j3, j4⟩
        · refine .inr (bad ?_ (fun z => by have := z.1.2; omega))
          rw [e3]
          unfold c178_90
          rw [if_neg ci, if_neg cw, if_pos (by omega), h124]
        · have hAs := y1.srt y0
          have eo : pOu s.2.2.1 (p' : Int) = true := by
            cases hb : pOu s.2.2.1 (p' : Int) with
            | true => rfl
            | false =>
              unfold eB at j2
              rw [hb, if_neg (by decide)] at j2
              exact absurd j2 (Nat.not_lt_zero _)
          have em1 : eM0 s M p' = M p' := if_pos j1
          have em2 : eM0 s A p' = A p' := if_pos j1
          have eb' : eB s (eM0 s M) (eM0 s A) p' = (mgD ((M p').length + (A p').length) (M p') (A p')).map (fun e => (p', e.1, e.2)) := by
            unfold eB
            rw [if_pos eo, em1, em2]
          rw [eb'] at j2 j4
          rw [List.length_map] at j2
          obtain ⟨e, he⟩ : ∃ e, e = (mgD ((M p').length + (A p').length) (M p') (A p')).getD l' (0, []) := ⟨_, rfl⟩
          have j5 : E.getD lf dEd = (p', e.1, e.2) := by
            rw [j4, he]
            simp only [List.getD_eq_getElem?_getD]
            rw [List.getElem?_map, List.getElem?_eq_getElem j2]
            rfl
          rw [j5] at hv bad
          have ll : (mgD ((M p').length + (A p').length) (M p') (A p')).length ≤ 200 := by
            rw [mgD_nd (W := qN s p') (Nat.le_refl _) (x9 p' j1).2.1 (hAs p' j1).1 (fun r hr => ((x9 p' j1).2.2 r hr).1) (hAs p' j1).2.2]
            exact (eB_len x9 y0 y1 j1).2
          have gw : G (q + 2) p' = (qN s p' : Int) := by
            rw [(qN_c x5.1.1 p').1]
            exact x3.2.2.2.1 p' (by omega)
          have hw4 := (qN_pos x5 j1).2
          have w2 : xwr (2 + (qN s p' : Int)) = 2 + (qN s p' : Int) := xwr_g _ (by omega) (by omega)
          have e4 := Eq.refl (c178_90 f 64 (lf : Int) w (l' : Int) (p' : Int) (s.1.length : Int) (S, G, (A0, sl)))
          conv at e4 => { rhs; unfold c178_90 }
          rw [if_neg ci, if_neg cw, if_neg (by omega), o_gr (s64 a1) g2, Option.bind_some, o_gr x1.1 x1.2.1, Option.bind_some, o_gr x3.1.1 x3.2.1.2.1, Option.bind_some, o_a x3.1.2.2.1 (by omega), Option.bind_some, gw, w2] at e4
          by_cases cq : w < 2 + (qN s p' : Int)
          · rw [if_pos cq] at e4
            have e4' := e3.trans e4
            refine .inl ?_
            have hv' := hv.resolve_right (fun z => z.1 ⟨⟨by omega, by omega⟩, by omega, by show w ≤ 1 + (qN s p' : Int); omega⟩)
            obtain ⟨_, rfl, hv2⟩ := hv'
            refine ⟨rfl, ?_⟩
            by_cases c0 : w = 0
            · rw [if_neg (fun z => z c0)] at e4'
              rw [if_pos c0] at hv2
              exact ⟨S, G, (A0, sl), by rw [e4', hv2], Nat.le_refl _, Nat.le_add_right _ _, Nat.le_refl _, Nat.le_add_right _ _, fun _ _ => rfl, fun _ _ _ => rfl⟩
            · rw [if_pos c0] at e4'
              rw [if_neg c0] at hv2
              obtain ⟨y, S2, G2, ⟨A2, sl2⟩, c, e17, b1, b2, b3, b4, b5, b6, b7⟩ := k_17 (f := f) (sl := sl) (p := p') (by omega) (by omega) y2.1 y2.2.2.2.1 x3 x4 x5 x6.1 x1 x2 y1 j1
              have hs2 : cSs S2 := fun k hk => by rw [b5 _ (by omega)]; exact a1 k hk
              obtain ⟨d1, d2, d3⟩ := x1.2.2.2.2 p' j1
              have rpA : rp < A0 := y2.2.2.2.2.2.2
              have is1 : cq_is 2 8 eb (S, G, (A0, sl)) = some () := if_pos x1.1
              have d3' : cRw S2 G2 (xr p') (qN s p') (cr p') (M p') := d3.ge (fun a y1 y2 => b5 a (by omega)) (fun j => b6 _ _ (by omega)) (fun j => b6 _ _ (by omega)) (fun j => b6 _ _ (by omega))
              obtain ⟨v', e84, cc⟩ := k_84 (f := f) (m := (A2, sl2)) (lf := l') hf d3' b7 j2 (by omega)
              rw [← he] at cc
              have is2 : cq_is 5 4 (xr p') (S2, G2, (A2, sl2)) = some () := if_pos d3'.1
              have is3 : cq_is 5 4 y (S2, G2, (A2, sl2)) = some () := if_pos b7.1
              rw [Option.bind_some, o_gr (s64 a1) g1, Option.bind_some, is1, Option.bind_some, e17, Option.bind_some, o_gr (x := 64) (y := eb) (s64 hs2) (by rw [b6 _ _ (by omega)]; exact g2), Option.bind_some, o_gr (x := eb) (y := rp) (by rw [b5 _ (by omega)]; exact x1.1) (by rw [b6 _ _ (by omega)]; exact x1.2.2.1), Option.bind_some, o_ar (x := rp) (y := xr p') (L := s.1.length) (by rw [b5 _ rpA]; exact x1.2.2.2.1) (by decide) j1 (by rw [b6 _ _ rpA]; exact d1), Option.bind_some, is2, Option.bind_some, e84, Option.bind_some] at e4'
              have b1' : A0 ≤ A2 := b1
              have b2' : A2 ≤ A0 + 3 := b2
              refine ⟨S2, G2, (A2, sl2), ?_, b1, b2, b3, b4, b5, b6⟩
              rw [e4']
              obtain ⟨k, ⟨c1, c2, c3, c4⟩ | ⟨c1, c2, c3, c4⟩⟩ := cc
              · have hk : k < 1000 := by have := (x9 p' j1).1; omega
                obtain ⟨t1, t2, t3, t4⟩ := ec_xa hk
                rw [c2, if_pos (by omega), t1, t3]
                by_cases cw1 : w = 1
                · rw [if_neg (fun z => z cw1), hv2, if_pos cw1, c1]
                · obtain ⟨cl, rfl⟩ : ∃ cl : Nat, w = ((cl + 2 : Nat) : Int) := ⟨(w - 2).toNat, by omega⟩
                  have w3 : xwr (((cl + 2 : Nat) : Int) - 2) = (cl : Int) := by rw [xwr_g _ (by omega) (by omega)]; omega
                  have w4 : (((cl + 2 : Nat) : Int) - 2).toNat = cl := by omega
                  rw [if_pos cw1, if_neg (fun z => z rfl), is2, Option.bind_some, w3, k_70 (f := f) d3' c3 (by omega), Option.bind_some, hv2, if_neg cw1, w4, c4]
                  rfl
              · have hk : k < 1000 := by have := (hAs p' j1).2.1; omega
                obtain ⟨t1, t2, t3, t4⟩ := ec_xa hk
                rw [c2, if_pos (by omega), t2, t4]
                by_cases cw1 : w = 1
                · rw [if_neg (fun z => z cw1), hv2, if_pos cw1, c1]
                · obtain ⟨cl, rfl⟩ : ∃ cl : Nat, w = ((cl + 2 : Nat) : Int) := ⟨(w - 2).toNat, by omega⟩
                  have w3 : xwr (((cl + 2 : Nat) : Int) - 2) = (cl : Int) := by rw [xwr_g _ (by omega) (by omega)]; omega
                  have w4 : (((cl + 2 : Nat) : Int) - 2).toNat = cl := by omega
                  rw [if_pos cw1, if_pos (by decide), is3, Option.bind_some, w3, k_70 (f := f) b7 c3 (by omega), Option.bind_some, hv2, if_neg cw1, w4, c4]
                  rfl
          · rw [if_neg cq, h124] at e4
            exact .inr (bad (e3.trans e4) (fun z => by
              have : w ≤ 1 + (qN s p' : Int) := z.2.2
              omega))
/-- predicate() -/
theorem k_175 {v t : Int} (hf : 700 < f) {pp : Int} (h : cHs S G A0 (T, lns, hr, tx, kp, mt, pl, rf) n) (hb : (lns hr).2.1.1 + (lns hr).2.1.2.1 < 520) (hst : stPd T (lns hr) pp w t v) : (t = 0 ∧ c175 f 64 pp w (S, G, m) = some (.inr v, (S, G, m))) ∨ (t = 1 ∧ c175 f 64 pp w (S, G, m) = some (.inl 1, cq_ex (S, G, m))) := by
  obtain ⟨P, mp, b1, b2, b3, b4, b5, b6, b7, b8, b9, b10⟩ := hs_ln h hb
  have hh := h
  obtain ⟨⟨a1, a2, a3, a4⟩, ⟨P', z1, z2, z3⟩, _⟩ := h
  obtain ⟨s, M, i1, i2⟩ := hst
  obtain ⟨rp, xr, cr, nq, r1, r2, r3, r4, r5, r6⟩ := b2.pm b1 i1
  have i3 : cq_is 1 14 (243 + 9 * hr) (S, G, m) = some () := if_pos b4.1
  have g6 : cq_gi 11 6 17 64 (S, G, m) = some (hr : Int) := by rw [o_gi (s64 a1), b9]
  have h16 : s.1.length ≤ 16 := r2.2.2.1.2.1
  have e0 := Eq.refl (c175 f 64 pp w (S, G, m))
  conv at e0 => { rhs; unfold c175 }
  rw [o_gr (y := 220) (s64 a1) (p64_5 a2), Option.bind_some, g6, Option.bind_some, o_ar (s220 a1) (by decide) b8 b6, Option.bind_some, i3, Option.bind_some, b7, Option.bind_some, o_gr r1.1 r1.2.1, Option.bind_some] at e0
  have h36 : c175_36 f (S, G, m) = some (.inl 1, cq_ex (S, G, m)) := rfl
  by_cases c1 : 0 ≤ pp ∧ pp < s.1.length
  · obtain ⟨p, rfl⟩ : ∃ p : Nat, pp = (p : Int) := ⟨pp.toNat, by omega⟩
    have hp : p < s.1.length := by omega
    rcases i2 with ⟨_, rfl, v0, v1, v2, v3, v4, v5, v6, v7, v8⟩ | ⟨z, _⟩
    · refine .inl ⟨rfl, ?_⟩
      have et : ((p : Nat) : Int).toNat = p := by omega
      rw [et] at v0 v4 v5 v6 v7
      rw [if_neg (by omega), o_gi r2.1.1, Option.bind_some, r2.2.2.1.1, if_pos c1.2] at e0
      rw [e0]
      clear e0
      by_cases c2 : w < 0 ∨ 7 < w
      · rw [if_pos c2, v8 c2]
      · rw [if_neg c2]
        have g1' := r2.2.2.2.2.1 p (by omega)
        obtain ⟨_, ⟨b31, _⟩, _⟩ := b3
        rcases (by omega : w = 0 ∨ w = 1 ∨ w = 2 ∨ w = 3 ∨ w = 4 ∨ w = 5 ∨ w = 6 ∨ w = 7) with rfl | rfl | rfl | rfl | rfl | rfl | rfl | rfl
        · simp only [Int.reduceEq, reduceIte]
          rw [o_gr r2.1.1 r2.2.1.2.1, Option.bind_some, o_a r2.1.2.2.1 (by omega), Option.bind_some, v0 rfl, (qN_c r4.1.1 p).1, r2.2.2.2.1 p (by omega)]
        · simp only [Int.reduceEq, reduceIte]
          rw [o_gr r2.1.1 r2.2.1.2.2.1, Option.bind_some, o_a r2.1.2.2.2.1 (by omega), Option.bind_some, v1 rfl, g1'.1, pKl_e r4.2.2.2.2.2.1]
        · simp only [Int.reduceEq, reduceIte]
          rw [o_gr r2.1.1 r2.2.1.2.2.2.1, Option.bind_some, o_ab r2.1.2.2.2.2.1 (by omega), Option.bind_some, v2 rfl, g1'.2.1]
          cases pIn s.2.1 (p : Int) <;> rfl
        · simp only [Int.reduceEq, reduceIte]
          rw [o_gr r2.1.1 r2.2.1.2.2.2.2.1, Option.bind_some, o_ab r2.1.2.2.2.2.2.1 (by omega), Option.bind_some, v3 rfl, g1'.2.2]
          cases pOu s.2.2.1 (p : Int) <;> rfl
        · simp only [Int.reduceEq, reduceIte]
          rw [o_gr r2.1.1 r2.2.1.2.2.2.2.2.2.2.1, Option.bind_some, o_a r2.1.2.2.2.2.2.2.2.2.1 (by omega), Option.bind_some, v4 rfl, r2.2.2.2.2.2.2.2.1.1 p hp]
          rfl
        · simp only [Int.reduceEq, reduceIte]
          rw [o_gr b4.1 b5.2.1, Option.bind_some, o_a b4.2.2.1 (by omega), Option.bind_some, v5 rfl, b31 p (by omega)]
        · simp only [Int.reduceEq, reduceIte]
          obtain ⟨d1, d2, d3⟩ := r1.2.2.2.2 p hp
          rw [o_gr r1.1 r1.2.2.1, Option.bind_some, o_ar r1.2.2.2.1 (by decide) hp d1, Option.bind_some, o_gi d3.1, Option.bind_some, v6 rfl, d3.2.2.2.1.2.1]
        · simp only [Int.reduceEq, reduceIte]
          obtain ⟨u1, u2⟩ := v7 rfl
          cases ht : (lns hr).2.2.1.2.2 with
          | false =>
            rw [o_gr (y := 0) (s64 a1) (z3.1 ht), Option.bind_some, if_pos rfl]
            have : v = 0 := u1.resolve_right (fun z => by
              have := (u2.mp z).1
              rw [ht] at this
              cases this)
            rw [this]
            rfl
          | true =>
            obtain ⟨so, Mo, A, ea, eb, q, cx, g1, g2, f1, f2⟩ := ed_cx hh i1 ht
            obtain ⟨qo, nq', nqo, rp', ro, xr', cr', xo, co, x1, x2, x3, x4, ⟨x5, x6, x7, x8, x9, y0⟩, y1, y2⟩ := cx
            have e18 := k_18 (f := f) (m := m) (by omega) x3 x4 x5.1 x6.1 x1 x2 x7 x8 y1 hp
            have is : cq_is 2 8 eb (S, G, m) = some () := if_pos x1.1
            have ci := chg_iff (rd := (((lns hr).2.1.1 + (lns hr).2.1.2.1 : Nat) : Int)) x5.1 x6.1 x9 y0 f1 f2 y1 p
            have cj := dfN_0 (x9 p hp).2.1 (y1.srt y0 p hp).1
            rw [o_gr (s64 a1) g2, Option.bind_some, if_neg (by omega), Option.bind_some, o_gr (s64 a1) g1, Option.bind_some, is, Option.bind_some, e18, Option.bind_some]
            by_cases cz : dfN (M p) (A p) = 0
            · rw [if_pos (by show (dfN (M p) (A p) : Int) ≤ 0; omega)]
              have : v = 0 := u1.resolve_right (fun z => (ci.mp (u2.mp z).2).2 (cj.mp cz))
              rw [this]
              rfl
            · rw [if_neg (by show ¬ (dfN (M p) (A p) : Int) ≤ 0; omega)]
              have : v = 1 := u2.mpr ⟨ht, ci.mpr ⟨hp, fun z => cz (cj.mpr z)⟩⟩
              rw [this]
              rfl
    · exact absurd c1 z
  · rcases i2 with ⟨z, _⟩ | ⟨_, z, _⟩
    · exact absurd z c1
    · refine .inr ⟨z, ?_⟩
      rw [e0]
      by_cases c2 : pp < 0
      · rw [if_pos c2, h36]
      · rw [if_neg c2, o_gi r2.1.1, Option.bind_some, r2.2.2.1.1, if_neg (by omega), h36]
end
end
section
/-! THE CLASS: merge: CHANGES that come of two moments -/
theorem lnPt_8 {G G' : xG_} {ln : Nat} (h : lnPt G ln) (hG : ∀ j, j ≠ 8 → G' ln j = G ln j) : lnPt G' ln := by
  obtain ⟨h1, h2, h3, h4, h5, h6, h7, h8⟩ := h
  exact ⟨by rw [hG _ (by omega)]; exact h1, by rw [hG _ (by omega)]; exact h2, by rw [hG _ (by omega)]; exact h3, by rw [hG _ (by omega)]; exact h4, by rw [hG _ (by omega)]; exact h5, by rw [hG _ (by omega)]; exact h6, by rw [hG _ (by omega)]; exact h7, by rw [hG _ (by omega)]; exact h8⟩
theorem fa_p {s : pPg} {M : Nat → List pRw} {F : List pFc} {p : Nat} (hok : qOk s) (hR : qTb s M) (hF : qFa s M F) (hp : p < s.1.length) : F.filter (fun y => decide (y.1 = qNm s p)) = (M p).map (fun r => (qNm s p, r.1)) := by
  refine srt_ext (lt := fLt) fLt_irr (fun a b c => fLt_tr) _ _ (hF.1.filter _) (List.pairwise_map.mpr ((hR p hp).2.1.imp (fun {a b} h => ?_))) (fun y => ?_)
  · have h' : fCmp (0, a.1) (0, b.1) < 0 := h
    show fCmp (qNm s p, a.1) (qNm s p, b.1) < 0
    unfold fCmp at h' ⊢
    rw [if_pos rfl] at h' ⊢
    exact h'
  · rw [List.mem_filter, List.mem_map, hF.2]
    constructor
    · rintro ⟨⟨p', p1, p2, w, w1, w2⟩, h⟩
      have e : y.1 = qNm s p := of_decide_eq_true h
      have : p' = p := nm_inj hok p1 hp (p2.symm.trans e)
      subst this
      exact ⟨w, w1, Prod.ext e.symm w2⟩
    · rintro ⟨w, w1, rfl⟩
      exact ⟨⟨p, hp, rfl, w, w1, rfl⟩, decide_eq_true rfl⟩
theorem dfC_e {s : pPg} {M M' : Nat → List pRw} {F F' : List pFc} {p : Nat} {sg : Int} (hok : qOk s) (hR : qTb s M) (hF : qFa s M F) (hF' : qFa s M' F') (hp : p < s.1.length) : dfC sg (qNm s p) F F' = ((M p).filter (fun r => ! hasV (M' p) r.1)).map (fun r => (sg, qNm s p, r.1)) := by
  unfold dfC
  have e1 : F.filter (fun y => decide (y.1 = qNm s p ∧ y ∉ F')) = (F.filter (fun y => decide (y.1 = qNm s p))).filter (fun y => decide (y ∉ F')) := by
    rw [List.filter_filter]
    refine List.filter_congr (fun y _ => ?_)
    by_cases c1 : y.1 = qNm s p <;> by_cases c2 : y ∈ F' <;> simp [c1, c2]
  rw [e1, fa_p hok hR hF hp, List.filter_map, List.map_map]
  have e2 : (M p).filter ((fun y => decide (y ∉ F')) ∘ fun r => (qNm s p, r.1)) = (M p).filter (fun r => ! hasV (M' p) r.1) := by
    refine List.filter_congr (fun r _ => ?_)
    show decide ((qNm s p, r.1) ∉ F') = ! hasV (M' p) r.1
    have := fn_iff hok hF' hp (xs := r.1)
    cases hb : hasV (M' p) r.1 with
    | true =>
      have z := this.mpr hb
      simp [z]
    | false =>
      have z : ¬ (qNm s p, r.1) ∈ F' := fun z => by rw [this.mp z] at hb; cases hb
      simp [z]
  rw [e2]
  rfl
section
variable {f ln x y a W cap cap2 A sl : Nat} {S : Nat → Nat × Nat × Nat} {G : xG_} {m : Nat × Nat} {s : pPg} {R R2 : List pRw} {E : List pPe} {tg ad sg nm : Int}
/-- addMissing's loop -/
theorem k_9l (hf : 700 < f) (ls : lnSt S ln) (hln : 242 < ln ∧ ln < 271) (ha : 555 < a) (hS : S a = (2, 4, 4)) (hx : x + 2 < a ∧ (x + 2 < 216 ∨ 555 < x)) (hy : y + 2 < a ∧ (y + 2 < 216 ∨ 555 < y)) (hW : W ≤ 4) (had : ad = (if sg < 0 then 0 else 1)) (hs : R.Pairwise rwLt) (hs2 : R2.Pairwise rwLt) (htg : ∀ v : List Int, v.length = W → (∃ p' : Nat, p' < s.1.length ∧ chT s (sg, nm, v) p' ∧ tg = (p' : Int)) ∨ ((∀ p', p' < s.1.length → ¬ chT s (sg, nm, v) p') ∧ tg = -1)) :
    ∀ (d i fu : Nat) (G : xG_) (E : List pPe), i + d = R.length → d < fu → lnPt G ln → cRw S G x W cap R → cRw S G y W cap2 R2 → cPn G ln s E → (∀ k, k < E.length → (E.getD k dPe).2.2.length ≤ 4) → E.length + ((R.drop i).filter (fun r => ! hasV R2 r.1)).length ≤ 400 →
      ∃ G', c9_8 f fu ln tg ad x y a (i : Int) (S, G, m) = some (S, G', m) ∧ cPn G' ln s (E ++ ((R.drop i).filter (fun r => ! hasV R2 r.1)).map (fun r => (sg, nm, r.1))) ∧ (∀ b j, b ≠ a → ¬ (b = ln ∧ j = 8) → ¬ (ln + 4 ≤ b ∧ b ≤ ln + 6) → G' b j = G b j) ∧ ∀ k, k < (E ++ ((R.drop i).filter (fun r => ! hasV R2 r.1)).map (fun r => (sg, nm, r.1))).length → ((E ++ ((R.drop i).filter (fun r => ! hasV R2 r.1)).map (fun r => (sg, nm, r.1))).getD k dPe).2.2.length ≤ 4 := by
  intro d
  induction d with
  | zero =>
    intro i fu G E e1 e2 lp h h2 hE hE4 h400
    obtain ⟨fu, rfl⟩ : ∃ t, fu = t + 1 := ⟨fu - 1, by omega⟩
    have eR : R.drop i = [] := List.drop_eq_nil_of_le (by omega)
    rw [eR]
    refine ⟨G, ?_, by rw [List.filter_nil, List.map_nil, List.append_nil]; exact hE, fun _ _ _ _ _ => rfl, by rw [List.filter_nil, List.map_nil, List.append_nil]; exact hE4⟩
    show c9_8b (c9_8 f fu) f _ _ _ _ _ _ _ _ = _
    unfold c9_8b
    rw [o_gi h.1, Option.bind_some, h.2.2.2.1.2.1, if_pos (by omega)]
  | succ d ih =>
    intro i fu G E e1 e2 lp h h2 hE hE4 h400
    obtain ⟨fu, rfl⟩ : ∃ t, fu = t + 1 := ⟨fu - 1, by omega⟩
    have hi : i < R.length := by omega
    have hcap := h.2.2.2.2.1
    have hcap2 := h.2.2.2.2.2.1
    obtain ⟨hl, _, _⟩ := h.2.2.2.2.2.2.2 i hi
    obtain ⟨G1, a1, a2, a3⟩ := k_78 (f := f) (m := m) h hi hS hW (by omega : a ≠ x + 1)
    have h1 : cRw S G1 x W cap R := h.ge (fun _ _ _ => rfl) (fun j => a2 _ _ (by omega)) (fun j => a2 _ _ (by omega)) (fun j => a2 _ _ (by omega))
    have h21 : cRw S G1 y W cap2 R2 := h2.ge (fun _ _ _ => rfl) (fun j => a2 _ _ (by omega)) (fun j => a2 _ _ (by omega)) (fun j => a2 _ _ (by omega))
    have lp1 : lnPt G1 ln := lnPt_of' lp (fun j => a2 _ _ (by omega))
    have hE1 : cPn G1 ln s E := hE.ge (fun b j _ _ => a2 _ _ (by omega))
    have hK : cKl S G1 a (R.getD i dRw).1 := ⟨⟨4, hS, by omega⟩, fun c hc => a3 c (by omega)⟩
    obtain ⟨v, b1, b2⟩ := k_74 (f := f) (m := m) (by omega) h21 hs2 hl hK
    have i1 : cq_is 5 4 x (S, G, m) = some () := if_pos h.1
    have i2 : cq_is 5 4 y (S, G1, m) = some () := if_pos h2.1
    have i3 : cq_is 1 14 ln (S, G1, m) = some () := if_pos ls.1
    have w1 : xwr ((i : Int) + 1) = ((i + 1 : Nat) : Int) := by rw [xwr_g _ (by omega) (by omega)]; omega
    rw [drop_r hi] at h400 ⊢
    have e0 := Eq.refl (c9_8 f (fu + 1) ln tg ad x y a (i : Int) (S, G, m))
    conv at e0 => { rhs; change c9_8b (c9_8 f fu) f ln tg ad x y a (i : Int) (S, G, m); unfold c9_8b c9_48 }
    rw [o_gi h.1, Option.bind_some, h.2.2.2.1.2.1, if_neg (by omega), i1, Option.bind_some, a1, Option.bind_some, i2, Option.bind_some, b1, Option.bind_some] at e0
    obtain ⟨lo, _, ⟨c1, c2, c3⟩ | ⟨c1, c2⟩⟩ := b2
    · have hv : hasV R2 (R.getD i dRw).1 = true := hasV_t.mpr ⟨_, mem_get.mpr ⟨lo, c2, rfl⟩, c3⟩
      have ef : (R.getD i dRw :: R.drop (i + 1)).filter (fun r => ! hasV R2 r.1) = (R.drop (i + 1)).filter (fun r => ! hasV R2 r.1) := by
        rw [List.filter_cons_of_neg (by rw [hv]; decide)]
      rw [ef] at h400 ⊢
      rw [if_pos (show 0 ≤ v by omega), w1] at e0
      obtain ⟨G', g1, g2, g3, g4⟩ := ih (i + 1) fu G1 E (by omega) (by omega) lp1 h1 h21 hE1 hE4 h400
      exact ⟨G', e0.trans g1, g2, fun b j y1 y2 y3 => by rw [g3 b j y1 y2 y3, a2 b j (by omega)], g4⟩
    · have hv : hasV R2 (R.getD i dRw).1 = false := by
        cases hb : hasV R2 (R.getD i dRw).1 with
        | false => rfl
        | true =>
          obtain ⟨r, r1, r2⟩ := hasV_t.mp hb
          exact absurd r2 (c2 r r1)
      have ef : (R.getD i dRw :: R.drop (i + 1)).filter (fun r => ! hasV R2 r.1) = R.getD i dRw :: (R.drop (i + 1)).filter (fun r => ! hasV R2 r.1) := by
        rw [List.filter_cons_of_pos (by rw [hv]; decide)]
      rw [ef] at h400 ⊢
      rw [List.length_cons] at h400
      obtain ⟨G2, k1, k2, k3, k4, k5, k6⟩ := k_8 (f := f) (m := m) (vp := a) (fm := 0) (w := W) (Lv := 4) (p := tg) (ad := ad) ls lp1 hE1.1 (by omega) hS (by omega) (by omega) hW (by rw [had]; split <;> omega) (by omega)
      have k1' : c8 f ln tg ad a 0 (W : Int) (S, G1, m) = some (S, G2, m) := k1
      have hw0 : G1 x 0 = (W : Int) := h1.2.2.2.1.1
      rw [if_neg (show ¬ 0 ≤ v by omega), o_gi h.1, Option.bind_some, hw0, i3, Option.bind_some, k1', Option.bind_some, w1] at e0
      have fr2 : ∀ b j, ¬ (b = ln ∧ j = 8) → ¬ (ln + 4 ≤ b ∧ b ≤ ln + 6) → G2 b j = G1 b j := fun b j y1 y2 => k2 b j y1 (by omega) (by omega) (by omega)
      have hP2 : cPn G2 ln s (E ++ [(sg, nm, (R.getD i dRw).1)]) := hE1.add (by omega) k2 k3 (by rw [k4]; exact htg _ hl) (by rw [k5, had]) (fun c hc => by
        have hc' : c < W := by
          have : c < (R.getD i dRw).1.length := hc
          omega
        rw [k6 c hc', Nat.zero_add, a3 c hc']) hE4
      have hE4' : ∀ k, k < (E ++ [(sg, nm, (R.getD i dRw).1)]).length → ((E ++ [(sg, nm, (R.getD i dRw).1)]).getD k dPe).2.2.length ≤ 4 := fun k hk => by
        rw [List.length_append, List.length_singleton] at hk
        by_cases ck : k < E.length
        · rw [getD_app _ ck]; exact hE4 k ck
        · have : k = E.length := by omega
          rw [this]
          simp only [List.getD_eq_getElem?_getD]
          rw [List.getElem?_append_right (Nat.le_refl _), Nat.sub_self]
          show (R.getD i dRw).1.length ≤ 4
          omega
      obtain ⟨G', g1, g2, g3, g4⟩ := ih (i + 1) fu G2 (E ++ [(sg, nm, (R.getD i dRw).1)]) (by omega) (by omega) (lnPt_8 lp1 (fun j hj => fr2 _ _ (by omega) (by omega))) (h1.ge (fun _ _ _ => rfl) (fun j => fr2 _ _ (by omega) (by omega)) (fun j => fr2 _ _ (by omega) (by omega)) (fun j => fr2 _ _ (by omega) (by omega))) (h21.ge (fun _ _ _ => rfl) (fun j => fr2 _ _ (by omega) (by omega)) (fun j => fr2 _ _ (by omega) (by omega)) (fun j => fr2 _ _ (by omega) (by omega))) hP2 hE4' (by rw [List.length_append, List.length_singleton]; omega)
      rw [List.map_cons]
      rw [List.append_assoc, List.singleton_append] at g2 g4
      exact ⟨G', e0.trans g1, g2, fun b j y1 y2 y3 => by rw [g3 b j y1 y2 y3, fr2 b j y2 y3, a2 b j (by omega)], g4⟩
/-- addMissing() -/
theorem k_9 (hf : 700 < f) (hA : 555 < A) (ls : lnSt S ln) (lp : lnPt G ln) (hln : 242 < ln ∧ ln < 271) (hx : x + 2 < A ∧ (x + 2 < 216 ∨ 555 < x)) (hy : y + 2 < A ∧ (y + 2 < 216 ∨ 555 < y)) (hW : W ≤ 4) (had : ad = (if sg < 0 then 0 else 1)) (hs : R.Pairwise rwLt) (hs2 : R2.Pairwise rwLt) (htg : ∀ v : List Int, v.length = W → (∃ p' : Nat, p' < s.1.length ∧ chT s (sg, nm, v) p' ∧ tg = (p' : Int)) ∨ ((∀ p', p' < s.1.length → ¬ chT s (sg, nm, v) p') ∧ tg = -1)) (h : cRw S G x W cap R) (h2 : cRw S G y W cap2 R2) (hE : cPn G ln s E) (hE4 : ∀ k, k < E.length → (E.getD k dPe).2.2.length ≤ 4) (h400 : E.length + (R.filter (fun r => ! hasV R2 r.1)).length ≤ 400) :
    ∃ S' G', c9 f ln tg ad x y (S, G, (A, sl)) = some (S', G', (A + 1, sl + 4)) ∧ (∀ b, b < A → S' b = S b) ∧ cPn G' ln s (E ++ (R.filter (fun r => ! hasV R2 r.1)).map (fun r => (sg, nm, r.1))) ∧ (∀ b j, b < A → ¬ (b = ln ∧ j = 8) → ¬ (ln + 4 ≤ b ∧ b ≤ ln + 6) → G' b j = G b j) ∧ ∀ k, k < (E ++ (R.filter (fun r => ! hasV R2 r.1)).map (fun r => (sg, nm, r.1))).length → ((E ++ (R.filter (fun r => ! hasV R2 r.1)).map (fun r => (sg, nm, r.1))).getD k dPe).2.2.length ≤ 4 := by
  obtain ⟨S1, hS1⟩ : ∃ S1, S1 = xup1 S A (2, 4, 4) := ⟨_, rfl⟩
  obtain ⟨G1, hG1⟩ : ∃ G1, G1 = xz1 G A (fun _ => 0) := ⟨_, rfl⟩
  have sL : ∀ b, b < A → S1 b = S b := fun b hb => by rw [hS1, xup1_n (by omega)]
  have gL : ∀ b j, b < A → G1 b j = G b j := fun b j hb => by rw [hG1, xz1_n _ (by omega)]
  have en : cq_na 4 4 (S, G, (A, sl)) = some (A, (S1, G1, (A + 1, sl + 4))) := by
    rw [cq_na_ok (by decide) (by decide) (by decide), hS1, hG1]
    rfl
  have hR := h.2.2.2.2.1
  have hR2 := h.2.2.2.2.2.1
  obtain ⟨G2, g1, g2, g3, g4⟩ := k_9l (f := f) (m := (A + 1, sl + 4)) (x := x) (y := y) (a := A) (ad := ad) (sg := sg) (nm := nm) (tg := tg) (s := s) hf (lnSt_of' ls (fun b _ y2 => sL b (by omega))) hln hA (by rw [hS1, xup1_s]) hx hy hW had hs hs2 htg R.length 0 f G1 E (by omega) (by omega) (lnPt_of' lp (fun j => gL _ _ (by omega))) (h.ge (fun b y1 y2 => sL b (by omega)) (fun j => gL _ _ (by omega)) (fun j => gL _ _ (by omega)) (fun j => gL _ _ (by omega))) (h2.ge (fun b y1 y2 => sL b (by omega)) (fun j => gL _ _ (by omega)) (fun j => gL _ _ (by omega)) (fun j => gL _ _ (by omega))) (hE.ge (fun b j y1 y2 => gL _ _ (by omega))) hE4 (by rw [List.drop_zero]; exact h400)
  rw [List.drop_zero] at g2 g4
  refine ⟨S1, G2, ?_, sL, g2, fun b j y1 y2 y3 => by rw [g3 b j (by omega) y2 y3, gL b j y1], g4⟩
  unfold c9
  rw [en, Option.bind_some]
  exact g1
end
end
section
/-! THE CLASS: merge: where two lines meet -/
def eqR (R R2 : List pRw) (k : Nat) (κ : List Int) : Prop := ∀ v : List Int, v.take k = κ → (inV R v ↔ inV R2 v)
def lkR (R : List pRw) (k : Nat) (κ : List Int) (i : Int) : Prop := (i = -1 ∧ ∀ r ∈ R, r.1.take k ≠ κ) ∨ ∃ t : Nat, i = (t : Int) ∧ t < R.length ∧ (R.getD t dRw).1.take k = κ
def uK (R : List pRw) (k : Nat) : Prop := ∀ r ∈ R, ∀ r' ∈ R, r.1.take k = r'.1.take k → r.1 = r'.1
def mtR (B A Z : List pRw) (k : Nat) (κ : List Int) : Prop := ¬ eqR B Z k κ ∧ ¬ eqR A Z k κ ∧ ¬ eqR B A k κ
section
variable {f x y z a W cap cap2 cap3 k A0 sl : Nat} {S : Nat → Nat × Nat × Nat} {G : xG_} {m : Nat × Nat} {R R2 B A Z : List pRw} {κ : List Int} {i j : Int}
theorem get_in {R : List pRw} {t : Nat} (h : t < R.length) : R.getD t dRw ∈ R := mem_get.mpr ⟨t, h, rfl⟩
theorem k_86 (hf : 20 < f) (h : cRw S G x W cap R) (h2 : cRw S G y W cap2 R2) (hi : lkR R k κ i) (hj : lkR R2 k κ j) (u1 : uK R k) (u2 : uK R2 k) : ∃ v, c86 f x i y j (S, G, m) = some (v, (S, G, m)) ∧ (v = 0 ∧ ¬ eqR R R2 k κ ∨ v = 1 ∧ eqR R R2 k κ) := by
  have e20 : ∀ v : Int, v = 0 ∨ v = 1 → c86_20 f v (S, G, m) = some (v, (S, G, m)) := fun v hv => if_pos hv
  have e40 : ∀ v : Int, v = 0 ∨ v = 1 → c86_40 f v (S, G, m) = some (v, (S, G, m)) := fun v hv => if_pos hv
  unfold c86 c86_10
  rcases hi with ⟨rfl, hi⟩ | ⟨t, rfl, t1, t2⟩
  · rw [if_pos rfl]
    rcases hj with ⟨rfl, hj⟩ | ⟨t', rfl, r1, r2⟩
    · rw [if_neg (fun z => z rfl), e20 1 (.inr rfl)]
      refine ⟨1, rfl, .inr ⟨rfl, fun v hv => ⟨fun ⟨r, q1, q2⟩ => ?_, fun ⟨r, q1, q2⟩ => ?_⟩⟩⟩
      · exact absurd (by rw [q2]; exact hv) (hi r q1)
      · exact absurd (by rw [q2]; exact hv) (hj r q1)
    · rw [if_pos (by omega), e20 0 (.inl rfl)]
      refine ⟨0, rfl, .inl ⟨rfl, fun e => ?_⟩⟩
      obtain ⟨r, q1, q2⟩ := (e _ r2).mpr ⟨_, get_in r1, rfl⟩
      exact hi r q1 (by rw [q2]; exact r2)
  · rw [if_neg (by omega)]
    rcases hj with ⟨rfl, hj⟩ | ⟨t', rfl, r1, r2⟩
    · rw [if_neg (fun z => z rfl), if_pos (by omega), e20 0 (.inl rfl)]
      refine ⟨0, rfl, .inl ⟨rfl, fun e => ?_⟩⟩
      obtain ⟨r, q1, q2⟩ := (e _ t2).mp ⟨_, get_in t1, rfl⟩
      exact hj r q1 (by rw [q2]; exact t2)
    · have l1 := (h.2.2.2.2.2.2.2 t t1).1
      have l2 := (h2.2.2.2.2.2.2.2 t' r1).1
      have e72 := k_72 (m := m) (k := W) hf h h2 t1 r1 (Nat.le_refl _) (Nat.le_refl _)
      rw [List.take_of_length_le (by omega), List.take_of_length_le (by omega)] at e72
      have is : cq_is 5 4 x (S, G, m) = some () := if_pos h.1
      rw [if_pos (by omega), o_gi h.1, Option.bind_some, h.2.2.2.1.1, is, Option.bind_some, e72, Option.bind_some]
      by_cases c : vCmp (R.getD t dRw).1 (R2.getD t' dRw).1 = 0
      · have e := vCmp_eq (by omega) c
        rw [if_neg (fun z => z c), e40 1 (.inr rfl)]
        refine ⟨1, rfl, .inr ⟨rfl, fun v hv => ⟨fun ⟨r, q1, q2⟩ => ?_, fun ⟨r, q1, q2⟩ => ?_⟩⟩⟩
        · have := u1 r q1 _ (get_in t1) (by rw [q2, hv, t2])
          exact ⟨_, get_in r1, by rw [← e, ← this, q2]⟩
        · have := u2 r q1 _ (get_in r1) (by rw [q2, hv, r2])
          exact ⟨_, get_in t1, by rw [e, ← this, q2]⟩
      · rw [if_pos c, e40 0 (.inl rfl)]
        refine ⟨0, rfl, .inl ⟨rfl, fun e => ?_⟩⟩
        obtain ⟨r, q1, q2⟩ := (e _ t2).mp ⟨_, get_in t1, rfl⟩
        have := u2 r q1 _ (get_in r1) (by rw [q2, t2, r2])
        rw [q2] at this
        exact c (by rw [this]; exact vCmp_self _)
/-- KEYS grow -/
theorem ks_lt {t t' : Nat} (hs : R.Pairwise rwLt) (hl : ∀ r ∈ R, r.1.length = W) (u : uK R k) (h1 : t < t') (h2 : t' < R.length) : vCmp ((R.getD t dRw).1.take k) ((R.getD t' dRw).1.take k) < 0 := by
  have l1 := hl _ (get_in (by omega : t < R.length))
  have l2 := hl _ (get_in h2)
  have hlt : vLt (R.getD t dRw).1 (R.getD t' dRw).1 := srt_get (d := dRw) hs h1 h2
  have c1 := vCmp_tk k _ _ ((vLt_iff (by omega)).mp hlt)
  have c2 : vCmp ((R.getD t dRw).1.take k) ((R.getD t' dRw).1.take k) ≠ 0 := fun e => by
    have e2 := vCmp_eq (by rw [List.length_take, List.length_take]; omega) e
    have e3 := u _ (get_in (by omega : t < R.length)) _ (get_in h2) e2
    rw [e3] at hlt
    exact vLt_irr _ hlt
  omega
/-- meeting's step: where the next KEY stands -/
theorem st_85 {r11 : Nat → Nat → Nat → Int → Nat → Int → Int → xT_ → Option (Int × xT_)} {i j : Nat} (h : cRw S G x W cap B) (h3 : cRw S G z W cap3 Z) (hf : 20 < f) (hk : k ≤ W) (hij : i < B.length ∨ j < Z.length) : ∃ c : Int, (-1 ≤ c ∧ c ≤ 1) ∧ (c ≤ 0 → i < B.length) ∧ (0 ≤ c → j < Z.length) ∧ (i < B.length → j < Z.length → c = vCmp ((B.getD i dRw).1.take k) ((Z.getD j dRw).1.take k)) ∧ c85_11b r11 f x y z (k : Int) a (i : Int) (j : Int) (S, G, m) = c85_65 r11 f x y z (k : Int) a (i : Int) (j : Int) c (S, G, m) := by
  unfold c85_11b c85_29
  rw [o_gi h.1, Option.bind_some, h.2.2.2.1.2.1, o_gi h3.1, Option.bind_some, h3.2.2.2.1.2.1]
  have is : cq_is 5 4 x (S, G, m) = some () := if_pos h.1
  by_cases c1 : i < B.length
  · rw [if_pos (by omega), if_pos (by omega), Option.bind_some]
    by_cases c2 : j < Z.length
    · have e72 := k_72 (m := m) (k := k) hf h h3 c1 c2 hk hk
      have cin := vCmp_in ((B.getD i dRw).1.take k) ((Z.getD j dRw).1.take k)
      rw [if_pos (by omega), is, Option.bind_some, e72, Option.bind_some]
      exact ⟨_, by omega, fun _ => c1, fun _ => c2, fun _ _ => rfl, rfl⟩
    · rw [if_neg (by omega)]
      exact ⟨-1, by omega, fun _ => c1, fun z => absurd z (by decide), fun _ z => absurd z c2, rfl⟩
  · have c2 : j < Z.length := by omega
    rw [if_neg (by omega), Option.bind_some, if_neg (by omega), if_neg (by omega)]
    exact ⟨1, by omega, fun z => absurd z (by decide), fun _ => c2, fun z => absurd z c1, rfl⟩
end
end
section
/-! THE CLASS: merge: meeting() -/
section
variable {f x y z a W cap cap2 cap3 k A0 sl i j : Nat} {S : Nat → Nat × Nat × Nat} {G : xG_} {m : Nat × Nat} {R R2 B A Z : List pRw} {κ : List Int} {own old c : Int} {r11 : Nat → Nat → Nat → Int → Nat → Int → Int → xT_ → Option (Int × xT_)}
theorem st_85b (hf : 700 < f) (h : cRw S G x W cap B) (h2 : cRw S G y W cap2 A) (h3 : cRw S G z W cap3 Z) (sA : A.Pairwise rwLt) (hS : S a = (2, 4, 4)) (hW : W ≤ 4) (hk : k ≤ W) (hx : x + 2 < a) (hy : y + 2 < a) (hz : z + 2 < a) (uB : uK B k) (uA : uK A k) (uZ : uK Z k) (ho : lkR B k κ own) (hol : lkR Z k κ old) (hne : own ≠ -1 ∨ old ≠ -1) (hκ : κ.length = k) : ∃ G1, (∀ b q, b ≠ a → G1 b q = G b q) ∧ ((¬ mtR B A Z k κ ∧ c85_91 r11 f x y z (k : Int) a (i : Int) (j : Int) c own old (S, G, m) = c85_183 r11 f x y z (k : Int) a (i : Int) (j : Int) c (S, G1, m)) ∨ (mtR B A Z k κ ∧ c85_91 r11 f x y z (k : Int) a (i : Int) (j : Int) c own old (S, G, m) = some ((if own = -1 then xwr (2 * old) else xwr (xwr (2 * own) + 1)), (S, G1, m)))) := by
  have rd : ∃ G1, (∀ b q, b ≠ a → G1 b q = G b q) ∧ (∀ q, q < k → G1 a q = κ.getD q 0) ∧ c85_91 r11 f x y z (k : Int) a (i : Int) (j : Int) c own old (S, G, m) = c85_118 r11 f x y z (k : Int) a (i : Int) (j : Int) c own old (S, G1, m) := by
    have tk : ∀ {L : List pRw} {t : Nat} {g : Nat → Int}, (L.getD t dRw).1.take k = κ → (L.getD t dRw).1.length = W → (∀ q, q < W → g q = (L.getD t dRw).1.getD q 0) → ∀ q, q < k → g q = κ.getD q 0 := fun {L t g} e1 e2 e3 q hq => by
      rw [e3 q (by omega), ← e1]
      simp only [List.getD_eq_getElem?_getD]
      rw [List.getElem?_take_of_lt hq]
    unfold c85_91
    rcases ho with ⟨rfl, _⟩ | ⟨t, rfl, t1, t2⟩
    · rcases hol with ⟨e, _⟩ | ⟨t, rfl, t1, t2⟩
      · omega
      · obtain ⟨G1, a1, a2, a3⟩ := k_78 (f := f) (m := m) h3 t1 hS hW (by omega)
        have is : cq_is 5 4 z (S, G, m) = some () := if_pos h3.1
        refine ⟨G1, fun b q hb => a2 b q (by omega), tk t2 (h3.2.2.2.2.2.2.2 t t1).1 a3, ?_⟩
        rw [if_pos rfl, is, Option.bind_some, a1, Option.bind_some]
    · obtain ⟨G1, a1, a2, a3⟩ := k_78 (f := f) (m := m) h t1 hS hW (by omega)
      have is : cq_is 5 4 x (S, G, m) = some () := if_pos h.1
      refine ⟨G1, fun b q hb => a2 b q (by omega), tk t2 (h.2.2.2.2.2.2.2 t t1).1 a3, ?_⟩
      rw [if_neg (by omega), is, Option.bind_some, a1, Option.bind_some]
  obtain ⟨G1, g1, g2, g3⟩ := rd
  have h' : cRw S G1 x W cap B := h.ge (fun _ _ _ => rfl) (fun j => g1 _ _ (by omega)) (fun j => g1 _ _ (by omega)) (fun j => g1 _ _ (by omega))
  have h2' : cRw S G1 y W cap2 A := h2.ge (fun _ _ _ => rfl) (fun j => g1 _ _ (by omega)) (fun j => g1 _ _ (by omega)) (fun j => g1 _ _ (by omega))
  have h3' : cRw S G1 z W cap3 Z := h3.ge (fun _ _ _ => rfl) (fun j => g1 _ _ (by omega)) (fun j => g1 _ _ (by omega)) (fun j => g1 _ _ (by omega))
  refine ⟨G1, g1, ?_⟩
  rw [g3]
  obtain ⟨ot, o1, o2⟩ := k_75 (f := f) (m := m) (a := a) (kl := κ) (by omega) h2' sA (by omega) ⟨⟨4, hS, by omega⟩, fun q hq => g2 q (by omega)⟩
  rw [hκ] at o1 o2
  have lA : lkR A k κ ot := by
    rcases o2 with ⟨e, q⟩ | ⟨lo, e, q1, q2, _⟩
    · exact .inl ⟨e, q⟩
    · exact .inr ⟨lo, e, q1, q2⟩
  obtain ⟨v1, p1, p2⟩ := k_86 (f := f) (m := m) (by omega) h' h3' ho hol uB uZ
  obtain ⟨v2, p3, p4⟩ := k_86 (f := f) (m := m) (by omega) h2' h3' lA hol uA uZ
  obtain ⟨v3, p5, p6⟩ := k_86 (f := f) (m := m) (by omega) h' h2' ho lA uB uA
  have iy : cq_is 5 4 y (S, G1, m) = some () := if_pos h2.1
  have ix : cq_is 5 4 x (S, G1, m) = some () := if_pos h.1
  unfold c85_118
  rw [iy, Option.bind_some, o1, Option.bind_some, ix, Option.bind_some, p1, Option.bind_some]
  rcases p2 with ⟨rfl, q1⟩ | ⟨rfl, q1⟩
  · rw [if_neg (fun z => z rfl)]
    dsimp only
    rw [iy, Option.bind_some, p3, Option.bind_some]
    rcases p4 with ⟨rfl, q2⟩ | ⟨rfl, q2⟩
    · rw [if_neg (fun z => z rfl)]
      dsimp only
      rw [ix, Option.bind_some, p5, Option.bind_some]
      rcases p6 with ⟨rfl, q3⟩ | ⟨rfl, q3⟩
      · rw [if_neg (fun z => z rfl)]
        refine .inr ⟨⟨q1, q2, q3⟩, ?_⟩
        by_cases co : own = -1
        · rw [if_pos co, if_pos co]
          rfl
        · rw [if_neg co, if_neg co]
          rfl
      · rw [if_pos (show ¬ (1 : Int) = 0 by decide)]
        exact .inl ⟨fun z => z.2.2 q3, rfl⟩
    · rw [if_pos (show ¬ (1 : Int) = 0 by decide)]
      exact .inl ⟨fun z => z.2.1 q2, rfl⟩
  · rw [if_pos (show ¬ (1 : Int) = 0 by decide)]
    exact .inl ⟨fun z => z.1 q1, rfl⟩
theorem st_85c (hc : -1 ≤ c ∧ c ≤ 1) (hi : i < 1000) (hj : j < 1000) {T : xT_} : c85_183 r11 f x y z (k : Int) a (i : Int) (j : Int) c T = r11 x y z (k : Int) a (((if 0 < c then i else i + 1) : Nat) : Int) (((if c < 0 then j else j + 1) : Nat) : Int) T := by
  have w3 : xwr (i : Int) = (i : Int) := xwr_g _ (by omega) (by omega)
  have w4 : xwr ((i : Int) + 1) = ((i + 1 : Nat) : Int) := by rw [xwr_g _ (by omega) (by omega)]; omega
  have w5 : xwr (j : Int) = (j : Int) := xwr_g _ (by omega) (by omega)
  have w6 : xwr ((j : Int) + 1) = ((j + 1 : Nat) : Int) := by rw [xwr_g _ (by omega) (by omega)]; omega
  unfold c85_183 c85_195 c85_210
  rw [Int.add_zero, Int.add_zero, w3, w4, w5, w6]
  rcases (by omega : c = -1 ∨ c = 0 ∨ c = 1) with rfl | rfl | rfl
  · simp
  · simp
  · simp
theorem st_85d {T : xT_} : c85_65 r11 f x y z (k : Int) a (i : Int) (j : Int) c T = c85_91 r11 f x y z (k : Int) a (i : Int) (j : Int) c (if 0 < c then -1 else (i : Int)) (if c < 0 then -1 else (j : Int)) T := by
  unfold c85_65 c85_78
  by_cases c1 : 0 < c
  · rw [if_pos c1, if_pos c1, if_neg (by omega), if_neg (by omega)]
  · rw [if_neg c1, if_neg c1]
    by_cases c2 : c < 0
    · rw [if_pos c2, if_pos c2]
    · rw [if_neg c2, if_neg c2]
/-- meeting's loop -/
theorem k_85l (hf : 700 < f) (sB : B.Pairwise rwLt) (sA : A.Pairwise rwLt) (sZ : Z.Pairwise rwLt) (hS : S a = (2, 4, 4)) (hW : W ≤ 4) (hk : k ≤ W) (hx : x + 2 < a) (hy : y + 2 < a) (hz : z + 2 < a) (uB : uK B k) (uA : uK A k) (uZ : uK Z k) : ∀ (n i j fu : Nat) (G : xG_), (B.length - i) + (Z.length - j) ≤ n → n < fu → i ≤ B.length → j ≤ Z.length → cRw S G x W cap B → cRw S G y W cap2 A → cRw S G z W cap3 Z →
    (∀ t, t < i → j < Z.length → vCmp ((B.getD t dRw).1.take k) ((Z.getD j dRw).1.take k) < 0) → (∀ t, t < j → i < B.length → vCmp ((Z.getD t dRw).1.take k) ((B.getD i dRw).1.take k) < 0) →
    (∀ κ', mtR B A Z k κ' → (∃ t, i ≤ t ∧ t < B.length ∧ (B.getD t dRw).1.take k = κ') ∨ (∃ t, j ≤ t ∧ t < Z.length ∧ (Z.getD t dRw).1.take k = κ')) →
    ∃ v G', c85_11 f fu x y z (k : Int) a (i : Int) (j : Int) (S, G, m) = some (v, (S, G', m)) ∧ (∀ b q, b ≠ a → G' b q = G b q) ∧ ((v = -1 ∧ ∀ κ', ¬ mtR B A Z k κ') ∨ ∃ κ, mtR B A Z k κ ∧ (∀ κ', mtR B A Z k κ' → vCmp κ κ' ≤ 0) ∧ ∃ t : Nat, (v = ((2 * t + 1 : Nat) : Int) ∧ t < B.length ∧ (B.getD t dRw).1.take k = κ) ∨ (v = ((2 * t : Nat) : Int) ∧ t < Z.length ∧ (Z.getD t dRw).1.take k = κ)) := by
  intro n
  induction n with
  | zero =>
    intro i j fu G hn hfu hi hj h h2 h3 i1 i2 i3
    obtain ⟨fu, rfl⟩ : ∃ t, fu = t + 1 := ⟨fu - 1, by omega⟩
    refine ⟨-1, G, ?_, fun _ _ _ => rfl, .inl ⟨rfl, fun κ' hm => ?_⟩⟩
    · show c85_11b (c85_11 f fu) f _ _ _ _ _ _ _ _ = _
      unfold c85_11b
      rw [o_gi h.1, Option.bind_some, h.2.2.2.1.2.1, if_neg (by omega), o_gi h3.1, Option.bind_some, h3.2.2.2.1.2.1, if_pos (by omega)]
    · rcases i3 κ' hm with ⟨t, t1, t2, _⟩ | ⟨t, t1, t2, _⟩ <;> omega
  | succ n ih =>
    intro i j fu G hn hfu hi hj h h2 h3 i1 i2 i3
    by_cases c0 : i = B.length ∧ j = Z.length
    · obtain ⟨fu, rfl⟩ : ∃ t, fu = t + 1 := ⟨fu - 1, by omega⟩
      refine ⟨-1, G, ?_, fun _ _ _ => rfl, .inl ⟨rfl, fun κ' hm => ?_⟩⟩
      · show c85_11b (c85_11 f fu) f _ _ _ _ _ _ _ _ = _
        unfold c85_11b
        rw [o_gi h.1, Option.bind_some, h.2.2.2.1.2.1, if_neg (by omega), o_gi h3.1, Option.bind_some, h3.2.2.2.1.2.1, if_pos (by omega)]
      · rcases i3 κ' hm with ⟨t, t1, t2, _⟩ | ⟨t, t1, t2, _⟩ <;> omega
    obtain ⟨fu, rfl⟩ : ∃ t, fu = t + 1 := ⟨fu - 1, by omega⟩
    have lB : ∀ r ∈ B, r.1.length = W := fun r hr => by
      obtain ⟨t, t1, rfl⟩ := mem_get.mp hr
      exact (h.2.2.2.2.2.2.2 t t1).1
    have lZ : ∀ r ∈ Z, r.1.length = W := fun r hr => by
      obtain ⟨t, t1, rfl⟩ := mem_get.mp hr
      exact (h3.2.2.2.2.2.2.2 t t1).1
    have hB5 := h.2.2.2.2.1
    have hB6 := h.2.2.2.2.2.1
    have hZ5 := h3.2.2.2.2.1
    have hZ6 := h3.2.2.2.2.2.1
    have kl : ∀ {L : List pRw} {t : Nat}, (∀ r ∈ L, r.1.length = W) → t < L.length → ((L.getD t dRw).1.take k).length = k := fun {L t} hl ht => by
      rw [List.length_take, hl _ (get_in ht)]; omega
    have ne : ∀ {u v : List Int}, vCmp u v < 0 → u ≠ v := fun {u v} hc e => by rw [e, vCmp_self] at hc; omega
    obtain ⟨c, c1, c2, c3, c4, c5⟩ := st_85 (f := f) (r11 := c85_11 f fu) (m := m) (y := y) (a := a) (i := i) (j := j) h h3 (by omega) hk (by omega)
    have e0 : c85_11 f (fu + 1) x y z (k : Int) a (i : Int) (j : Int) (S, G, m) = _ := c5.trans st_85d
    -- the next KEY
    obtain ⟨κ, hκl, hoB, hoZ, hB', hZ'⟩ : ∃ κ : List Int, κ.length = k ∧ lkR B k κ (if 0 < c then -1 else (i : Int)) ∧ lkR Z k κ (if c < 0 then -1 else (j : Int)) ∧ (∀ t, i ≤ t → t < B.length → vCmp κ ((B.getD t dRw).1.take k) ≤ 0 ∧ (¬ 0 < c ∧ t = i ∨ vCmp κ ((B.getD t dRw).1.take k) < 0)) ∧ (∀ t, j ≤ t → t < Z.length → vCmp κ ((Z.getD t dRw).1.take k) ≤ 0 ∧ (¬ c < 0 ∧ t = j ∨ vCmp κ ((Z.getD t dRw).1.take k) < 0)) := by
      by_cases cp : 0 < c
      · have hj' := c3 (by omega)
        have zt : ∀ t, j ≤ t → t < Z.length → t = j ∨ vCmp ((Z.getD j dRw).1.take k) ((Z.getD t dRw).1.take k) < 0 := fun t t1 t2 => by
          by_cases e : t = j
          · exact .inl e
          · exact .inr (ks_lt sZ lZ uZ (by omega) t2)
        have bt : ∀ t, i ≤ t → t < B.length → vCmp ((Z.getD j dRw).1.take k) ((B.getD t dRw).1.take k) < 0 := fun t t1 t2 => by
          have q := c4 (by omega) hj'
          have q2 : vCmp ((Z.getD j dRw).1.take k) ((B.getD i dRw).1.take k) < 0 := by
            have := vCmp_anti ((B.getD i dRw).1.take k) ((Z.getD j dRw).1.take k)
            omega
          by_cases e : t = i
          · rw [e]; exact q2
          · exact vCmp_tr (by rw [kl lZ hj', kl lB (by omega)]) (by rw [kl lB (by omega), kl lB t2]) q2 (ks_lt sB lB uB (by omega) t2)
        refine ⟨(Z.getD j dRw).1.take k, kl lZ hj', .inl ⟨if_pos cp, fun r hr => ?_⟩, .inr ⟨j, if_neg (by omega), hj', rfl⟩, fun t t1 t2 => ⟨by have := bt t t1 t2; omega, .inr (bt t t1 t2)⟩, fun t t1 t2 => ?_⟩
        · obtain ⟨t, t1, rfl⟩ := mem_get.mp hr
          by_cases e : t < i
          · exact ne (i1 t e hj')
          · exact (ne (bt t (by omega) t1)).symm
        · rcases zt t t1 t2 with e | e
          · rw [e]; exact ⟨by rw [vCmp_self]; omega, .inl ⟨by omega, rfl⟩⟩
          · exact ⟨by omega, .inr e⟩
      · have hi' := c2 (by omega)
        have bt : ∀ t, i ≤ t → t < B.length → t = i ∨ vCmp ((B.getD i dRw).1.take k) ((B.getD t dRw).1.take k) < 0 := fun t t1 t2 => by
          by_cases e : t = i
          · exact .inl e
          · exact .inr (ks_lt sB lB uB (by omega) t2)
        by_cases cn : c < 0
        · have zt : ∀ t, j ≤ t → t < Z.length → vCmp ((B.getD i dRw).1.take k) ((Z.getD t dRw).1.take k) < 0 := fun t t1 t2 => by
            have q := c4 hi' (by omega)
            have q2 : vCmp ((B.getD i dRw).1.take k) ((Z.getD j dRw).1.take k) < 0 := by omega
            by_cases e : t = j
            · rw [e]; exact q2
            · exact vCmp_tr (by rw [kl lB hi', kl lZ (by omega)]) (by rw [kl lZ (by omega), kl lZ t2]) q2 (ks_lt sZ lZ uZ (by omega) t2)
          refine ⟨(B.getD i dRw).1.take k, kl lB hi', .inr ⟨i, if_neg cp, hi', rfl⟩, .inl ⟨if_pos cn, fun r hr => ?_⟩, fun t t1 t2 => ?_, fun t t1 t2 => ⟨by have := zt t t1 t2; omega, .inr (zt t t1 t2)⟩⟩
          · obtain ⟨t, t1, rfl⟩ := mem_get.mp hr
            by_cases e : t < j
            · exact ne (i2 t e hi')
            · exact (ne (zt t (by omega) t1)).symm
          · rcases bt t t1 t2 with e | e
            · rw [e]; exact ⟨by rw [vCmp_self]; omega, .inl ⟨cp, rfl⟩⟩
            · exact ⟨by omega, .inr e⟩
        · have hj' := c3 (by omega)
          have q := c4 hi' hj'
          have eq : (B.getD i dRw).1.take k = (Z.getD j dRw).1.take k := vCmp_eq (by rw [kl lB hi', kl lZ hj']) (by omega)
          refine ⟨(B.getD i dRw).1.take k, kl lB hi', .inr ⟨i, if_neg cp, hi', rfl⟩, .inr ⟨j, if_neg cn, hj', eq.symm⟩, fun t t1 t2 => ?_, fun t t1 t2 => ?_⟩
          · rcases bt t t1 t2 with e | e
            · rw [e]; exact ⟨by rw [vCmp_self]; omega, .inl ⟨cp, rfl⟩⟩
            · exact ⟨by omega, .inr e⟩
          · by_cases e : t = j
            · rw [e, eq]; exact ⟨by rw [vCmp_self]; omega, .inl ⟨cn, rfl⟩⟩
            · have := ks_lt sZ lZ uZ (show j < t by omega) t2
              rw [← eq] at this
              exact ⟨by omega, .inr this⟩
    obtain ⟨G1, g1, g2⟩ := st_85b (r11 := c85_11 f fu) (m := m) (i := i) (j := j) (c := c) hf h h2 h3 sA hS hW hk hx hy hz uB uA uZ hoB hoZ (by
      by_cases cp : 0 < c
      · right; rw [if_neg (by omega)]; omega
      · left; rw [if_neg cp]; omega) hκl
    rcases g2 with ⟨nm, g2⟩ | ⟨im, g2⟩
    · rw [g2, st_85c c1 (by omega) (by omega)] at e0
      have A1 : ∀ t, t < (if 0 < c then i else i + 1) → (if c < 0 then j else j + 1) < Z.length → vCmp ((B.getD t dRw).1.take k) ((Z.getD (if c < 0 then j else j + 1) dRw).1.take k) < 0 := by
        intro t t1 t2
        by_cases cp : 0 < c
        · rw [if_pos cp] at t1
          rw [if_neg (show ¬ c < 0 by omega)] at t2 ⊢
          have hj' := c3 (by omega)
          exact vCmp_tr (by rw [kl lB (by omega), kl lZ hj']) (by rw [kl lZ hj', kl lZ t2]) (i1 t t1 hj') (ks_lt sZ lZ uZ (by omega) t2)
        · rw [if_neg cp] at t1
          have hi' := c2 (by omega)
          by_cases cn : c < 0
          · rw [if_pos cn] at t2 ⊢
            by_cases e : t = i
            · rw [e]
              have := c4 hi' t2
              omega
            · exact i1 t (by omega) t2
          · rw [if_neg cn] at t2 ⊢
            have hj' := c3 (by omega)
            have q := c4 hi' hj'
            have l := ks_lt sZ lZ uZ (show j < j + 1 by omega) t2
            by_cases e : t = i
            · rw [e, vCmp_eq (by rw [kl lB hi', kl lZ hj']) (show vCmp ((B.getD i dRw).1.take k) ((Z.getD j dRw).1.take k) = 0 by omega)]
              exact l
            · exact vCmp_tr (by rw [kl lB (by omega), kl lZ hj']) (by rw [kl lZ hj', kl lZ t2]) (i1 t (by omega) hj') l
      have A2 : ∀ t, t < (if c < 0 then j else j + 1) → (if 0 < c then i else i + 1) < B.length → vCmp ((Z.getD t dRw).1.take k) ((B.getD (if 0 < c then i else i + 1) dRw).1.take k) < 0 := by
        intro t t1 t2
        by_cases cn : c < 0
        · rw [if_pos cn] at t1
          rw [if_neg (show ¬ 0 < c by omega)] at t2 ⊢
          have hi' := c2 (by omega)
          exact vCmp_tr (by rw [kl lZ (by omega), kl lB hi']) (by rw [kl lB hi', kl lB t2]) (i2 t t1 hi') (ks_lt sB lB uB (by omega) t2)
        · rw [if_neg cn] at t1
          have hj' := c3 (by omega)
          by_cases cp : 0 < c
          · rw [if_pos cp] at t2 ⊢
            by_cases e : t = j
            · rw [e]
              have q := c4 t2 hj'
              have := vCmp_anti ((B.getD i dRw).1.take k) ((Z.getD j dRw).1.take k)
              omega
            · exact i2 t (by omega) t2
          · rw [if_neg cp] at t2 ⊢
            have hi' := c2 (by omega)
            have q := c4 hi' hj'
            have l := ks_lt sB lB uB (show i < i + 1 by omega) t2
            by_cases e : t = j
            · rw [e, ← vCmp_eq (by rw [kl lB hi', kl lZ hj']) (show vCmp ((B.getD i dRw).1.take k) ((Z.getD j dRw).1.take k) = 0 by omega)]
              exact l
            · exact vCmp_tr (by rw [kl lZ (by omega), kl lB hi']) (by rw [kl lB hi', kl lB t2]) (i2 t (by omega) hi') l
      have A3 : ∀ κ', mtR B A Z k κ' → (∃ t, (if 0 < c then i else i + 1) ≤ t ∧ t < B.length ∧ (B.getD t dRw).1.take k = κ') ∨ (∃ t, (if c < 0 then j else j + 1) ≤ t ∧ t < Z.length ∧ (Z.getD t dRw).1.take k = κ') := by
        intro κ' hm
        have hne : κ' ≠ κ := fun e => nm (e ▸ hm)
        rcases i3 κ' hm with ⟨t, t1, t2, t3⟩ | ⟨t, t1, t2, t3⟩
        · refine .inl ⟨t, ?_, t2, t3⟩
          by_cases cp : 0 < c
          · rw [if_pos cp]; exact t1
          · rw [if_neg cp]
            by_cases e : t = i
            · exfalso
              rcases hoB with ⟨q, _⟩ | ⟨t', q, _, q2⟩
              · rw [if_neg cp] at q; omega
              · rw [if_neg cp] at q
                have : t' = i := by omega
                rw [this, ← e, t3] at q2
                exact hne q2
            · omega
        · refine .inr ⟨t, ?_, t2, t3⟩
          by_cases cn : c < 0
          · rw [if_pos cn]; exact t1
          · rw [if_neg cn]
            by_cases e : t = j
            · exfalso
              rcases hoZ with ⟨q, _⟩ | ⟨t', q, _, q2⟩
              · rw [if_neg cn] at q; omega
              · rw [if_neg cn] at q
                have : t' = j := by omega
                rw [this, ← e, t3] at q2
                exact hne q2
            · omega
      obtain ⟨v, G', r1, r2, r3⟩ := ih (if 0 < c then i else i + 1) (if c < 0 then j else j + 1) fu G1 (by
        by_cases cp : 0 < c
        · have := c3 (by omega)
          rw [if_pos cp, if_neg (by omega)]; omega
        · have := c2 (by omega)
          rw [if_neg cp]
          by_cases cn : c < 0
          · rw [if_pos cn]; omega
          · rw [if_neg cn]; omega) (by omega) (by
        by_cases cp : 0 < c
        · rw [if_pos cp]; exact hi
        · have := c2 (by omega)
          rw [if_neg cp]; omega) (by
        by_cases cn : c < 0
        · rw [if_pos cn]; exact hj
        · have := c3 (by omega)
          rw [if_neg cn]; omega) (h.ge (fun _ _ _ => rfl) (fun j => g1 _ _ (by omega)) (fun j => g1 _ _ (by omega)) (fun j => g1 _ _ (by omega))) (h2.ge (fun _ _ _ => rfl) (fun j => g1 _ _ (by omega)) (fun j => g1 _ _ (by omega)) (fun j => g1 _ _ (by omega))) (h3.ge (fun _ _ _ => rfl) (fun j => g1 _ _ (by omega)) (fun j => g1 _ _ (by omega)) (fun j => g1 _ _ (by omega))) A1 A2 A3
      exact ⟨v, G', e0.trans r1, fun b q hb => by rw [r2 b q hb, g1 b q hb], r3⟩
    · rw [g2] at e0
      refine ⟨_, G1, e0, g1, .inr ⟨κ, im, fun κ' hm => ?_, ?_⟩⟩
      · rcases i3 κ' hm with ⟨t, t1, t2, t3⟩ | ⟨t, t1, t2, t3⟩
        · rw [← t3]; exact (hB' t t1 t2).1
        · rw [← t3]; exact (hZ' t t1 t2).1
      · by_cases cp : 0 < c
        · have hj' := c3 (by omega)
          rw [if_pos cp, if_pos rfl, if_neg (show ¬ c < 0 by omega)]
          rw [if_neg (show ¬ c < 0 by omega)] at hoZ
          rcases hoZ with ⟨q, _⟩ | ⟨t', q, q1, q2⟩
          · omega
          · refine ⟨t', .inr ⟨?_, q1, q2⟩⟩
            rw [xwr_g _ (by omega) (by omega)]; omega
        · have hi' := c2 (by omega)
          rw [if_neg cp, if_neg (by omega)]
          rw [if_neg cp] at hoB
          rcases hoB with ⟨q, _⟩ | ⟨t', q, q1, q2⟩
          · omega
          · refine ⟨t', .inl ⟨?_, q1, q2⟩⟩
            rw [xwr_g (2 * (i : Int)) (by omega) (by omega), xwr_g _ (by omega) (by omega)]; omega
end
end
section
/-! THE CLASS: merge: meet() -/
section
variable {f x y z W cap cap2 cap3 k A0 sl q ma mb mz ra rb rz nq : Nat} {S : Nat → Nat × Nat × Nat} {G : xG_} {m : Nat × Nat} {B A Z : List pRw} {s : pPg} {xa ca xb cb xz cz : Nat → Nat} {Ma Mb Mz : Nat → List pRw} {FA FB FZ : List pFc}
theorem k_85 (hf : 1100 < f) (sB : B.Pairwise rwLt) (sA : A.Pairwise rwLt) (sZ : Z.Pairwise rwLt) (hW : W ≤ 4) (hk : k ≤ W) (hx : x + 2 < A0) (hy : y + 2 < A0) (hz : z + 2 < A0) (uB : uK B k) (uA : uK A k) (uZ : uK Z k) (h : cRw S G x W cap B) (h2 : cRw S G y W cap2 A) (h3 : cRw S G z W cap3 Z) : ∃ v S' G', c85 f x y z (k : Int) (S, G, (A0, sl)) = some (v, (S', G', (A0 + 1, sl + 4))) ∧ (∀ b, b < A0 → S' b = S b) ∧ (∀ b j, b < A0 → G' b j = G b j) ∧ ((v = -1 ∧ ∀ κ', ¬ mtR B A Z k κ') ∨ ∃ κ, mtR B A Z k κ ∧ κ.length = k ∧ (∀ κ', mtR B A Z k κ' → vCmp κ κ' ≤ 0) ∧ ∃ t : Nat, (v = ((2 * t + 1 : Nat) : Int) ∧ t < B.length ∧ (B.getD t dRw).1.take k = κ) ∨ (v = ((2 * t : Nat) : Int) ∧ t < Z.length ∧ (Z.getD t dRw).1.take k = κ)) := by
  obtain ⟨S1, hS1⟩ : ∃ S1, S1 = xup1 S A0 (2, 4, 4) := ⟨_, rfl⟩
  obtain ⟨G1, hG1⟩ : ∃ G1, G1 = xz1 G A0 (fun _ => 0) := ⟨_, rfl⟩
  have sL : ∀ b, b < A0 → S1 b = S b := fun b hb => by rw [hS1, xup1_n (by omega)]
  have gL : ∀ b j, b < A0 → G1 b j = G b j := fun b j hb => by rw [hG1, xz1_n _ (by omega)]
  have en : cq_na 4 4 (S, G, (A0, sl)) = some (A0, (S1, G1, (A0 + 1, sl + 4))) := by
    rw [cq_na_ok (by decide) (by decide) (by decide), hS1, hG1]
    rfl
  have b1 := h.2.2.2.2.1
  have b2 := h.2.2.2.2.2.1
  have b3 := h3.2.2.2.2.1
  have b4 := h3.2.2.2.2.2.1
  have up : ∀ {x cap : Nat} {R : List pRw}, x + 2 < A0 → cRw S G x W cap R → cRw S1 G1 x W cap R := fun {x cap R} hx h => h.ge (fun b _ _ => sL b (by omega)) (fun j => gL _ _ (by omega)) (fun j => gL _ _ (by omega)) (fun j => gL _ _ (by omega))
  obtain ⟨v, G2, r1, r2, r3⟩ := k_85l (f := f) (m := (A0 + 1, sl + 4)) (S := S1) (a := A0) (x := x) (y := y) (z := z) (B := B) (A := A) (Z := Z) (k := k) (cap := cap) (cap2 := cap2) (cap3 := cap3) (by omega) sB sA sZ (by rw [hS1, xup1_s]) hW hk hx hy hz uB uA uZ (B.length + Z.length) 0 0 f G1 (by omega) (by omega) (Nat.zero_le _) (Nat.zero_le _) (up hx h) (up hy h2) (up hz h3) (fun t ht => absurd ht (Nat.not_lt_zero _)) (fun t ht => absurd ht (Nat.not_lt_zero _)) (fun κ' hm => by
    have h1 : ¬ ∀ v : List Int, v.take k = κ' → (inV B v ↔ inV Z v) := hm.1
    by_cases c1 : ∃ t, t < B.length ∧ (B.getD t dRw).1.take k = κ'
    · obtain ⟨t, t1, t2⟩ := c1
      exact .inl ⟨t, Nat.zero_le _, t1, t2⟩
    · by_cases c2 : ∃ t, t < Z.length ∧ (Z.getD t dRw).1.take k = κ'
      · obtain ⟨t, t1, t2⟩ := c2
        exact .inr ⟨t, Nat.zero_le _, t1, t2⟩
      · refine absurd (fun v hv => ⟨fun ⟨r, q1, q2⟩ => ?_, fun ⟨r, q1, q2⟩ => ?_⟩) h1
        · obtain ⟨t, t1, rfl⟩ := mem_get.mp q1
          exact absurd ⟨t, t1, by rw [q2]; exact hv⟩ c1
        · obtain ⟨t, t1, rfl⟩ := mem_get.mp q1
          exact absurd ⟨t, t1, by rw [q2]; exact hv⟩ c2)
  refine ⟨v, S1, G2, ?_, sL, fun b j hb => by rw [r2 b j (by omega), gL b j hb], ?_⟩
  · unfold c85
    rw [en, Option.bind_some]
    exact r1
  · rcases r3 with q | ⟨κ, q1, q2, q3⟩
    · exact .inl q
    · refine .inr ⟨κ, q1, ?_, q2, q3⟩
      obtain ⟨t, ⟨_, t1, t2⟩ | ⟨_, t1, t2⟩⟩ := q3
      · have := (h.2.2.2.2.2.2.2 t t1).1
        rw [← t2, List.length_take]; omega
      · have := (h3.2.2.2.2.2.2.2 t t1).1
        rw [← t2, List.length_take]; omega
theorem k_190l (hf : 1100 < f) (hs : cSs S) (hp : cPs G) (hA : 555 < A0) (hP : cPgm S G q nq s) (hqA : q + 10 < A0) (hok : qOc s) (h1 : cMr S G A0 ma q ra s xa ca Ma) (h2 : cMr S G A0 mb q rb s xb cb Mb) (h3 : cMr S G A0 mz q rz s xz cz Mz) (hm : ma < A0 ∧ mb < A0 ∧ mz < A0 ∧ ra < A0 ∧ rb < A0 ∧ rz < A0) (hxz : ∀ p, p < s.1.length → (xz p + 2 < 216 ∨ 555 < xz p) ∧ (xb p + 2 < 216 ∨ 555 < xb p)) (oa : okM8 s Ma) (ob : okM8 s Mb) (oz : okM8 s Mz) (hkl : ∀ p, p < s.1.length → 0 < qKy s p → qKy s p ≤ qN s p ∧ uK (Ma p) (qKy s p) ∧ uK (Mb p) (qKy s p) ∧ uK (Mz p) (qKy s p)) :
    ∀ (d p fu : Nat) (S1 : Nat → Nat × Nat × Nat) (G1 : xG_) (A1 sl1 : Nat), p + d = s.1.length → d < fu → A0 ≤ A1 → (∀ a, a < A0 → S1 a = S a) → (∀ a j, a < A0 → G1 a j = G a j) → (∀ p', p' < p → 0 < qKy s p' → ∀ κ, ¬ mtR (Mb p') (Ma p') (Mz p') (qKy s p') κ) →
      ∃ v S' G' A' sl', c190_9 f fu 64 ma mb mz q (p : Int) (S1, G1, (A1, sl1)) = some (v, (S', G', (A', sl'))) ∧ A1 ≤ A' ∧ A' ≤ A1 + d ∧ sl1 ≤ sl' ∧ sl' ≤ sl1 + 4 * d ∧ (∀ a, a < A0 → S' a = S a) ∧ ((v = 0 ∧ (∀ a j, a < A0 → G' a j = G a j) ∧ ∀ p', p' < s.1.length → 0 < qKy s p' → ∀ κ, ¬ mtR (Mb p') (Ma p') (Mz p') (qKy s p') κ) ∨ (v = 1 ∧ ∃ (t : Nat) (κ : List Int), t < s.1.length ∧ 0 < qKy s t ∧ mtR (Mb t) (Ma t) (Mz t) (qKy s t) κ ∧ κ.length = qKy s t ∧ (∀ κ', mtR (Mb t) (Ma t) (Mz t) (qKy s t) κ' → vCmp κ κ' ≤ 0) ∧ (∀ p', p' < t → 0 < qKy s p' → ∀ κ, ¬ mtR (Mb p') (Ma p') (Mz p') (qKy s p') κ) ∧ G' 64 15 = (t : Int) ∧ G' 64 16 = (κ.length : Int) ∧ (∀ j, j < κ.length → G' 227 j = κ.getD j 0) ∧ ∀ a j, a < A0 → ¬ (a = 64 ∧ (j = 15 ∨ j = 16)) → a ≠ 227 → G' a j = G a j)) := by
  have h16 : s.1.length ≤ 16 := hP.2.2.1.2.1
  intro d
  induction d with
  | zero =>
    intro p fu S1 G1 A1 sl1 e1 e2 e3 e4 e5 e6
    obtain ⟨fu, rfl⟩ : ∃ t, fu = t + 1 := ⟨fu - 1, by omega⟩
    refine ⟨0, S1, G1, A1, sl1, ?_, Nat.le_refl _, Nat.le_refl _, Nat.le_refl _, Nat.le_refl _, e4, .inl ⟨rfl, e5, fun p' hp' => e6 p' (by omega)⟩⟩
    show c190_9b (c190_9 f fu) f _ _ _ _ _ _ _ = _
    unfold c190_9b
    rw [o_gi (by rw [e4 _ (by omega)]; exact hP.1.1), Option.bind_some, e5 _ _ (by omega), hP.2.2.1.1, if_pos (by omega)]
  | succ d ih =>
    intro p fu S1 G1 A1 sl1 e1 e2 e3 e4 e5 e6
    obtain ⟨fu, rfl⟩ : ∃ t, fu = t + 1 := ⟨fu - 1, by omega⟩
    have hp' : p < s.1.length := by omega
    have gk : G1 (q + 3) p = pKy s.2.1 (p : Int) := by rw [e5 _ _ (by omega), (hP.2.2.2.2.1 p (by omega)).1, pKl_e hok.2.2.2.2.2.1]
    have w1 : xwr ((p : Int) + 1) = ((p + 1 : Nat) : Int) := by rw [xwr_g _ (by omega) (by omega)]; omega
    have e0 := Eq.refl (c190_9 f (fu + 1) 64 ma mb mz q (p : Int) (S1, G1, (A1, sl1)))
    conv at e0 => { rhs; change c190_9b (c190_9 f fu) f 64 ma mb mz q (p : Int) (S1, G1, (A1, sl1)); unfold c190_9b }
    rw [o_gi (by rw [e4 _ (by omega)]; exact hP.1.1), Option.bind_some, e5 _ _ (by omega), hP.2.2.1.1, if_neg (by omega), o_gr (x := q) (y := q + 3) (by rw [e4 _ (by omega)]; exact hP.1.1) (by rw [e5 _ _ (by omega)]; exact hP.2.1.2.2.1), Option.bind_some, o_a (x := q + 3) (L := 16) (by rw [e4 _ (by omega)]; exact hP.1.2.2.2.1) (by omega), Option.bind_some, gk] at e0
    by_cases ck : pKy s.2.1 (p : Int) ≤ 0
    · rw [if_pos ck] at e0
      unfold c190_64 at e0
      rw [if_pos rfl, w1] at e0
      obtain ⟨v, S', G', A', sl', r1, r2, r3, r4, r5, r6, r7⟩ := ih (p + 1) fu S1 G1 A1 sl1 (by omega) (by omega) e3 e4 e5 (fun p' hp' hk => by
        by_cases e : p' = p
        · subst e
          unfold qKy at hk
          omega
        · exact e6 p' (by omega) hk)
      exact ⟨v, S', G', A', sl', e0.trans r1, r2, by omega, r4, by omega, r6, r7⟩
    · have hkk : pKy s.2.1 (p : Int) = ((qKy s p : Nat) : Int) := by unfold qKy; omega
      have hk0 : 0 < qKy s p := by omega
      obtain ⟨k1, k2, k3, k4⟩ := hkl p hp' hk0
      obtain ⟨a1, a2, a3⟩ := h1.2.2.2.2 p hp'
      obtain ⟨b1, b2, b3⟩ := h2.2.2.2.2 p hp'
      obtain ⟨z1, z2, z3⟩ := h3.2.2.2.2 p hp'
      have up : ∀ {x cap W : Nat} {R : List pRw}, x + 2 < A0 → cRw S G x W cap R → cRw S1 G1 x W cap R := fun {x cap W R} hx h => h.ge (fun b _ _ => e4 b (by omega)) (fun j => e5 _ _ (by omega)) (fun j => e5 _ _ (by omega)) (fun j => e5 _ _ (by omega))
      have hw4 := (qN_pos hok hp').2
      obtain ⟨v, S2, G2, r1, r2, r3, r4⟩ := k_85 (f := f) (sl := sl1) hf (ob p hp').1 (oa p hp').1 (oz p hp').1 hw4 k1 (show xb p + 2 < A1 by omega) (show xa p + 2 < A1 by omega) (show xz p + 2 < A1 by omega) k3 k2 k4 (up b2.2 b3) (up a2.2 a3) (up z2.2 z3)
      have is : cq_is 5 4 (xb p) (S1, G1, (A1, sl1)) = some () := if_pos (up b2.2 b3).1
      rw [if_neg ck, hkk, o_gr (x := mb) (y := rb) (by rw [e4 _ (by omega)]; exact h2.1) (by rw [e5 _ _ (by omega)]; exact h2.2.2.1), Option.bind_some, o_ar (x := rb) (y := xb p) (L := s.1.length) (by rw [e4 _ (by omega)]; exact h2.2.2.2.1) (by decide) hp' (by rw [e5 _ _ (by omega)]; exact b1), Option.bind_some, o_gr (x := ma) (y := ra) (by rw [e4 _ (by omega)]; exact h1.1) (by rw [e5 _ _ (by omega)]; exact h1.2.2.1), Option.bind_some, o_ar (x := ra) (y := xa p) (L := s.1.length) (by rw [e4 _ (by omega)]; exact h1.2.2.2.1) (by decide) hp' (by rw [e5 _ _ (by omega)]; exact a1), Option.bind_some, o_gr (x := mz) (y := rz) (by rw [e4 _ (by omega)]; exact h3.1) (by rw [e5 _ _ (by omega)]; exact h3.2.2.1), Option.bind_some, o_ar (x := rz) (y := xz p) (L := s.1.length) (by rw [e4 _ (by omega)]; exact h3.2.2.2.1) (by decide) hp' (by rw [e5 _ _ (by omega)]; exact z1), Option.bind_some, is, Option.bind_some, r1, Option.bind_some] at e0
      have s2 : ∀ a, a < A0 → S2 a = S a := fun a ha => by rw [r2 a (by omega), e4 a ha]
      have g2 : ∀ a j, a < A0 → G2 a j = G a j := fun a j ha => by rw [r3 a j (by omega), e5 a j ha]
      unfold c190_64 at e0
      rcases r4 with ⟨rfl, nm⟩ | ⟨κ, m1, m2, m3, m4⟩
      · rw [if_pos rfl, w1] at e0
        obtain ⟨v, S', G', A', sl', q1, q2, q3, q4, q5, q6, q7⟩ := ih (p + 1) fu S2 G2 (A1 + 1) (sl1 + 4) (by omega) (by omega) (by omega) s2 g2 (fun p' hp' hk => by
          by_cases e : p' = p
          · subst e; exact nm
          · exact e6 p' (by omega) hk)
        exact ⟨v, S', G', A', sl', e0.trans q1, by omega, by omega, by omega, by omega, q6, q7⟩
      · -- a KEY that meets
        have tell : ∀ (x t cap : Nat) (R : List pRw), x + 2 < A0 → (x + 2 < 216 ∨ 555 < x) → t < R.length → R.length ≤ 100 → cRw S2 G2 x (qN s p) cap R → (R.getD t dRw).1.take (qKy s p) = κ → ∃ G3, c190_97 f 64 (p : Int) ((qKy s p : Nat) : Int) (((2 * t + 1 : Nat) : Int)) x (S2, G2, (A1 + 1, sl1 + 4)) = some (1, (S2, G3, (A1 + 1, sl1 + 4))) ∧ c190_97 f 64 (p : Int) ((qKy s p : Nat) : Int) (((2 * t : Nat) : Int)) x (S2, G2, (A1 + 1, sl1 + 4)) = some (1, (S2, G3, (A1 + 1, sl1 + 4))) ∧ G3 64 15 = (p : Int) ∧ G3 64 16 = (κ.length : Int) ∧ (∀ j, j < κ.length → G3 227 j = κ.getD j 0) ∧ ∀ a j, a < A0 → ¬ (a = 64 ∧ (j = 15 ∨ j = 16)) → a ≠ 227 → G3 a j = G a j := fun x t cap R hx hx2 ht h100 hR hκ => by
          obtain ⟨t1, t2, t3, t4⟩ := ec_xa (k := t) (by omega)
          have hs2 : cSs S2 := fun k hk => by rw [s2 _ (by omega)]; exact hs k hk
          have hlr := (hR.2.2.2.2.2.2.2 t ht).1
          obtain ⟨G3, u1, u2, u3⟩ := k_78 (f := f) (m := (A1 + 1, sl1 + 4)) hR ht (s227 hs2) hw4 (by omega : 227 ≠ x + 1)
          have i1 : cq_is 5 4 x (S2, G2, (A1 + 1, sl1 + 4)) = some () := if_pos hR.1
          have g14 : G2 64 14 = ((227 : Nat) : Int) := by rw [g2 _ _ (by omega)]; exact p64_14 hp
          have run : ∀ w : Int, xshr w 1 = (t : Int) → c190_97 f 64 (p : Int) ((qKy s p : Nat) : Int) w x (S2, G2, (A1 + 1, sl1 + 4)) = some (1, (S2, xup2 (xup2 G3 64 15 (p : Int)) 64 16 ((qKy s p : Nat) : Int), (A1 + 1, sl1 + 4))) := fun w hw => by
            unfold c190_97
            rw [o_gr (y := 227) (s64 hs2) g14, Option.bind_some, i1, Option.bind_some, hw, u1, Option.bind_some, o_p (s64 hs2), Option.bind_some, o_p (s64 hs2), Option.bind_some]
          refine ⟨_, run _ t3, run _ t4, by rw [xup2_n (by omega), xup2_s], by rw [xup2_s, m2], fun j hj => ?_, fun a j y1 y2 y3 => ?_⟩
          · rw [xup2_n (by omega), xup2_n (by omega), u3 j (by omega), ← hκ]
            simp only [List.getD_eq_getElem?_getD]
            rw [List.getElem?_take_of_lt (by omega)]
          · rw [xup2_n (by omega), xup2_n (by omega), u2 a j (by omega), g2 a j y1]
        have bz : (Mz p).length ≤ 100 := (oz p hp').2.1
        have bb : (Mb p).length ≤ 100 := (ob p hp').2.1
        have up2 : ∀ {x cap W : Nat} {R : List pRw}, x + 2 < A0 → cRw S G x W cap R → cRw S2 G2 x W cap R := fun {x cap W R} hx h => h.ge (fun b _ _ => s2 b (by omega)) (fun j => g2 _ _ (by omega)) (fun j => g2 _ _ (by omega)) (fun j => g2 _ _ (by omega))
        obtain ⟨t, ⟨rfl, t1, t2⟩ | ⟨rfl, t1, t2⟩⟩ := m4
        · obtain ⟨x1, x2, x3, x4⟩ := ec_xa (k := t) (by omega)
          obtain ⟨G3, u1, _, u3, u4, u5, u6⟩ := tell (xb p) t (cb p) (Mb p) b2.2 (hxz p hp').2 t1 bb (up2 b2.2 b3) t2
          rw [if_neg (by omega), if_neg (fun z => z x1), o_gr (x := mb) (y := rb) (by rw [s2 _ (by omega)]; exact h2.1) (by rw [g2 _ _ (by omega)]; exact h2.2.2.1), Option.bind_some, o_ar (x := rb) (y := xb p) (L := s.1.length) (by rw [s2 _ (by omega)]; exact h2.2.2.2.1) (by decide) hp' (by rw [g2 _ _ (by omega)]; exact b1), Option.bind_some, u1] at e0
          exact ⟨1, S2, G3, A1 + 1, sl1 + 4, e0, by omega, by omega, by omega, by omega, s2, .inr ⟨rfl, p, κ, hp', hk0, m1, m2, m3, e6, u3, u4, u5, u6⟩⟩
        · obtain ⟨x1, x2, x3, x4⟩ := ec_xa (k := t) (by omega)
          obtain ⟨G3, _, u1, u3, u4, u5, u6⟩ := tell (xz p) t (cz p) (Mz p) z2.2 (hxz p hp').1 t1 bz (up2 z2.2 z3) t2
          rw [if_neg (by omega), if_pos (by rw [x2]; decide), o_gr (x := mz) (y := rz) (by rw [s2 _ (by omega)]; exact h3.1) (by rw [g2 _ _ (by omega)]; exact h3.2.2.1), Option.bind_some, o_ar (x := rz) (y := xz p) (L := s.1.length) (by rw [s2 _ (by omega)]; exact h3.2.2.2.1) (by decide) hp' (by rw [g2 _ _ (by omega)]; exact z1), Option.bind_some, u1] at e0
          exact ⟨1, S2, G3, A1 + 1, sl1 + 4, e0, by omega, by omega, by omega, by omega, s2, .inr ⟨rfl, p, κ, hp', hk0, m1, m2, m3, e6, u3, u4, u5, u6⟩⟩
/-- rows and facts -/
theorem eq_rf (hok : qOk s) {p : Nat} {κ : List Int} (hp : p < s.1.length) (fA : qFa s Ma FA) (fB : qFa s Mb FB) : eqF FA FB (qNm s p) k κ ↔ eqR (Ma p) (Mb p) k κ := by
  unfold eqF eqR
  constructor
  · intro h v hv
    rw [← inV_h, ← inV_h, ← fn_iff hok fA hp, ← fn_iff hok fB hp]
    exact h v hv
  · intro h v hv
    rw [fn_iff hok fA hp, fn_iff hok fB hp, inV_h, inV_h]
    exact h v hv
theorem mt_rf (hok : qOk s) {p : Nat} {κ : List Int} (hp : p < s.1.length) (fA : qFa s Ma FA) (fB : qFa s Mb FB) (fZ : qFa s Mz FZ) : mtF FA FB FZ (qNm s p) k κ ↔ mtR (Mb p) (Ma p) (Mz p) k κ := by
  unfold mtF mtR
  rw [eq_rf hok hp fA fZ, eq_rf hok hp fB fZ, eq_rf hok hp fA fB]
  have sy : eqR (Ma p) (Mb p) k κ ↔ eqR (Mb p) (Ma p) k κ := ⟨fun h v hv => (h v hv).symm, fun h v hv => (h v hv).symm⟩
  rw [sy]
  exact ⟨fun ⟨a, b, c⟩ => ⟨b, a, c⟩, fun ⟨a, b, c⟩ => ⟨b, a, c⟩⟩
theorem uk_of (hok : qOk s) {p : Nat} (hp : p < s.1.length) (fA : qFa s Ma FA) (h : wKf FA (qNm s p) (qKy s p) (qN s p)) : uK (Ma p) (qKy s p) := fun r hr r' hr' e => h.2.2 r.1 r'.1 ((fn_iff hok fA hp).mpr (hasV_t.mpr ⟨r, hr, rfl⟩)) ((fn_iff hok fA hp).mpr (hasV_t.mpr ⟨r', hr', rfl⟩)) e
end
end
