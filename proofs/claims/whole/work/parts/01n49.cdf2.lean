section
/-! THE CLASS: the edits of a round, one by one -/
def inV (R : List pRw) (z : List Int) : Prop := ∃ r ∈ R, r.1 = z
theorem inV_h {R : List pRw} {z : List Int} : hasV R z = true ↔ inV R z := hasV_t
theorem inV_c {r : pRw} {R : List pRw} {z : List Int} : inV (r :: R) z ↔ r.1 = z ∨ inV R z := by
  constructor
  · rintro ⟨x, x1, x2⟩
    rcases List.mem_cons.mp x1 with rfl | h
    · exact .inl x2
    · exact .inr ⟨x, h, x2⟩
  · rintro (h | ⟨x, x1, x2⟩)
    · exact ⟨r, List.mem_cons_self, h⟩
    · exact ⟨x, List.mem_cons_of_mem _ x1, x2⟩
theorem inV_n {z : List Int} : ¬ inV [] z := fun ⟨x, h, _⟩ => absurd h List.not_mem_nil
/-- rows that came (1) and went (0), in their order -/
def mgD : Nat → List pRw → List pRw → List (Int × List Int)
  | 0, _, _ => []
  | _ + 1, [], [] => []
  | n + 1, a :: as, [] => (1, a.1) :: mgD n as []
  | n + 1, [], b :: bs => (0, b.1) :: mgD n [] bs
  | n + 1, a :: as, b :: bs => if vCmp a.1 b.1 = 0 then mgD n as bs else if vCmp a.1 b.1 < 0 then (1, a.1) :: mgD n as (b :: bs) else (0, b.1) :: mgD n (a :: as) bs
def mgM (R A : List pRw) (e : Int × List Int) : Prop := e.1 = 1 ∧ inV R e.2 ∧ ¬ inV A e.2 ∨ e.1 = 0 ∧ inV A e.2 ∧ ¬ inV R e.2
theorem mgD_i : ∀ (W n : Nat) (R A : List pRw), R.length + A.length ≤ n → R.Pairwise rwLt → A.Pairwise rwLt → (∀ r ∈ R, r.1.length = W) → (∀ r ∈ A, r.1.length = W) → (∀ e, e ∈ mgD n R A ↔ mgM R A e) ∧ (mgD n R A).Pairwise (fun e e' => vLt e.2 e'.2)
  | W, 0, R, A, h, _, _, _, _ => by
    have e1 : R = [] := List.eq_nil_of_length_eq_zero (by omega)
    have e2 : A = [] := List.eq_nil_of_length_eq_zero (by omega)
    subst e1 e2
    refine ⟨fun e => ⟨fun z => absurd z List.not_mem_nil, ?_⟩, List.Pairwise.nil⟩
    rintro (⟨_, z, _⟩ | ⟨_, z, _⟩) <;> exact (inV_n z).elim
  | W, n + 1, [], [], h, _, _, _, _ => by
    refine ⟨fun e => ⟨fun z => absurd z List.not_mem_nil, ?_⟩, List.Pairwise.nil⟩
    rintro (⟨_, z, _⟩ | ⟨_, z, _⟩) <;> exact (inV_n z).elim
  | W, n + 1, a :: as, [], h, h1, h2, h3, h4 => by
    obtain ⟨x1, x2⟩ := List.pairwise_cons.mp h1
    obtain ⟨i1, i2⟩ := mgD_i W n as [] (by simp only [List.length_cons] at h; omega) x2 h2 (fun r hr => h3 r (List.mem_cons_of_mem _ hr)) h4
    have la : ∀ z, inV as z → vLt a.1 z := fun z ⟨r, r1, r2⟩ => r2 ▸ x1 r r1
    constructor
    · intro e
      show e ∈ (1, a.1) :: mgD n as [] ↔ _
      rw [List.mem_cons, i1 e]
      unfold mgM
      rw [inV_c]
      constructor
      · rintro (rfl | ⟨z1, z2, z3⟩ | ⟨z1, z2, z3⟩)
        · exact .inl ⟨rfl, .inl rfl, inV_n⟩
        · exact .inl ⟨z1, .inr z2, z3⟩
        · exact (inV_n z2).elim
      · rintro (⟨z1, z2 | z2, z3⟩ | ⟨z1, z2, z3⟩)
        · exact .inl (Prod.ext z1 z2.symm)
        · exact .inr (.inl ⟨z1, z2, z3⟩)
        · exact (inV_n z2).elim
    · show ((1, a.1) :: mgD n as []).Pairwise _
      refine List.pairwise_cons.mpr ⟨fun e he => ?_, i2⟩
      rcases (i1 e).mp he with ⟨_, z, _⟩ | ⟨_, z, _⟩
      · exact la _ z
      · exact (inV_n z).elim
  | W, n + 1, [], b :: bs, h, h1, h2, h3, h4 => by
    obtain ⟨x1, x2⟩ := List.pairwise_cons.mp h2
    obtain ⟨i1, i2⟩ := mgD_i W n [] bs (by simp only [List.length_cons] at h; omega) h1 x2 h3 (fun r hr => h4 r (List.mem_cons_of_mem _ hr))
    have la : ∀ z, inV bs z → vLt b.1 z := fun z ⟨r, r1, r2⟩ => r2 ▸ x1 r r1
    constructor
    · intro e
      show e ∈ (0, b.1) :: mgD n [] bs ↔ _
      rw [List.mem_cons, i1 e]
      unfold mgM
      rw [inV_c]
      constructor
      · rintro (rfl | ⟨z1, z2, z3⟩ | ⟨z1, z2, z3⟩)
        · exact .inr ⟨rfl, .inl rfl, inV_n⟩
        · exact (inV_n z2).elim
        · exact .inr ⟨z1, .inr z2, z3⟩
      · rintro (⟨z1, z2, z3⟩ | ⟨z1, z2 | z2, z3⟩)
        · exact (inV_n z2).elim
        · exact .inl (Prod.ext z1 z2.symm)
        · exact .inr (.inr ⟨z1, z2, z3⟩)
    · show ((0, b.1) :: mgD n [] bs).Pairwise _
      refine List.pairwise_cons.mpr ⟨fun e he => ?_, i2⟩
      rcases (i1 e).mp he with ⟨_, z, _⟩ | ⟨_, z, _⟩
      · exact (inV_n z).elim
      · exact la _ z
  | W, n + 1, a :: as, b :: bs, h, h1, h2, h3, h4 => by
    obtain ⟨x1, x2⟩ := List.pairwise_cons.mp h1
    obtain ⟨y1, y2⟩ := List.pairwise_cons.mp h2
    have la : ∀ z, inV as z → vLt a.1 z := fun z ⟨r, r1, r2⟩ => r2 ▸ x1 r r1
    have lb : ∀ z, inV bs z → vLt b.1 z := fun z ⟨r, r1, r2⟩ => r2 ▸ y1 r r1
    have wa := h3 a List.mem_cons_self
    have wb := h4 b List.mem_cons_self
    have ha' : ∀ r ∈ as, r.1.length = W := fun r hr => h3 r (List.mem_cons_of_mem _ hr)
    have hb' : ∀ r ∈ bs, r.1.length = W := fun r hr => h4 r (List.mem_cons_of_mem _ hr)
    simp only [List.length_cons] at h
    have na : ¬ inV as a.1 := fun z => vLt_irr _ (la _ z)
    have nb : ¬ inV bs b.1 := fun z => vLt_irr _ (lb _ z)
    by_cases c0 : vCmp a.1 b.1 = 0
    · have e0 : a.1 = b.1 := vCmp_eq (by omega) c0
      obtain ⟨i1, i2⟩ := mgD_i W n as bs (by omega) x2 y2 ha' hb'
      have eD : mgD (n + 1) (a :: as) (b :: bs) = mgD n as bs := by
        show (if _ then _ else _) = _
        rw [if_pos c0]
      rw [eD]
      refine ⟨fun e => ?_, i2⟩
      rw [i1 e]
      unfold mgM
      rw [inV_c, inV_c]
      constructor
      · rintro (⟨z1, z2, z3⟩ | ⟨z1, z2, z3⟩)
        · exact .inl ⟨z1, .inr z2, fun w => w.elim (fun u => na (by rw [e0, u]; exact z2)) z3⟩
        · exact .inr ⟨z1, .inr z2, fun w => w.elim (fun u => nb (by rw [← e0, u]; exact z2)) z3⟩
      · rintro (⟨z1, z2 | z2, z3⟩ | ⟨z1, z2 | z2, z3⟩)
        · exact (z3 (.inl (e0 ▸ z2))).elim
        · exact .inl ⟨z1, z2, fun w => z3 (.inr w)⟩
        · exact (z3 (.inl (by rw [e0]; exact z2))).elim
        · exact .inr ⟨z1, z2, fun w => z3 (.inr w)⟩
    · by_cases c1 : vCmp a.1 b.1 < 0
      · have lt : vLt a.1 b.1 := (vLt_iff (by omega)).mpr c1
        have nab : ¬ inV (b :: bs) a.1 := fun z => by
          rcases inV_c.mp z with z | z
          · rw [z] at lt; exact vLt_irr _ lt
          · exact vLt_irr _ (vLt_tr lt (lb _ z))
        obtain ⟨i1, i2⟩ := mgD_i W n as (b :: bs) (by simp only [List.length_cons]; omega) x2 h2 ha' h4
        have eD : mgD (n + 1) (a :: as) (b :: bs) = (1, a.1) :: mgD n as (b :: bs) := by
          show (if _ then _ else if _ then _ else _) = _
          rw [if_neg c0, if_pos c1]
        rw [eD]
        constructor
        · intro e
          rw [List.mem_cons, i1 e]
          unfold mgM
          rw [inV_c (r := a)]
          constructor
          · rintro (rfl | ⟨z1, z2, z3⟩ | ⟨z1, z2, z3⟩)
            · exact .inl ⟨rfl, .inl rfl, nab⟩
            · exact .inl ⟨z1, .inr z2, z3⟩
            · exact .inr ⟨z1, z2, fun w => w.elim (fun u => nab (by rw [u]; exact z2)) z3⟩
          · rintro (⟨z1, z2 | z2, z3⟩ | ⟨z1, z2, z3⟩)
            · exact .inl (Prod.ext z1 z2.symm)
            · exact .inr (.inl ⟨z1, z2, z3⟩)
            · exact .inr (.inr ⟨z1, z2, fun w => z3 (.inr w)⟩)
        · refine List.pairwise_cons.mpr ⟨fun e he => ?_, i2⟩
          rcases (i1 e).mp he with ⟨_, z, _⟩ | ⟨_, z, _⟩
          · exact la _ z
          · rcases inV_c.mp z with z | z
            · rw [← z]; exact lt
            · exact vLt_tr lt (lb _ z)
      · have c2 : vCmp b.1 a.1 < 0 := by
          have := vCmp_anti a.1 b.1
          omega
        have lt : vLt b.1 a.1 := (vLt_iff (by omega)).mpr c2
        have nab : ¬ inV (a :: as) b.1 := fun z => by
          rcases inV_c.mp z with z | z
          · rw [z] at lt; exact vLt_irr _ lt
          · exact vLt_irr _ (vLt_tr lt (la _ z))
        obtain ⟨i1, i2⟩ := mgD_i W n (a :: as) bs (by simp only [List.length_cons]; omega) h1 y2 h3 hb'
        have eD : mgD (n + 1) (a :: as) (b :: bs) = (0, b.1) :: mgD n (a :: as) bs := by
          show (if _ then _ else if _ then _ else _) = _
          rw [if_neg c0, if_neg c1]
        rw [eD]
        constructor
        · intro e
          rw [List.mem_cons, i1 e]
          unfold mgM
          rw [inV_c (r := b)]
          constructor
          · rintro (rfl | ⟨z1, z2, z3⟩ | ⟨z1, z2, z3⟩)
            · exact .inr ⟨rfl, .inl rfl, nab⟩
            · exact .inl ⟨z1, z2, fun w => w.elim (fun u => nab (by rw [u]; exact z2)) z3⟩
            · exact .inr ⟨z1, .inr z2, z3⟩
          · rintro (⟨z1, z2, z3⟩ | ⟨z1, z2 | z2, z3⟩)
            · exact .inr (.inl ⟨z1, z2, fun w => z3 (.inr w)⟩)
            · exact .inl (Prod.ext z1 z2.symm)
            · exact .inr (.inr ⟨z1, z2, z3⟩)
        · refine List.pairwise_cons.mpr ⟨fun e he => ?_, i2⟩
          rcases (i1 e).mp he with ⟨_, z, _⟩ | ⟨_, z, _⟩
          · rcases inV_c.mp z with z | z
            · rw [← z]; exact lt
            · exact vLt_tr lt (la _ z)
          · exact lb _ z
theorem mgD_nd {W n : Nat} {R A : List pRw} (h : R.length + A.length ≤ n) (h1 : R.Pairwise rwLt) (h2 : A.Pairwise rwLt) (h3 : ∀ r ∈ R, r.1.length = W) (h4 : ∀ r ∈ A, r.1.length = W) : (mgD n R A).length = dfN R A := by
  obtain ⟨i1, i2⟩ := mgD_i W n R A h h1 h2 h3 h4
  have nd : ∀ {L : List pRw} (k : Int) (p : pRw → Bool), L.Pairwise rwLt → ((L.filter p).map (fun r => (k, r.1))).Nodup := fun {L} k p hL => by
    rw [List.nodup_iff_pairwise_ne]
    refine List.pairwise_map.mpr ((hL.filter p).imp (fun {a b} hab e => ?_))
    have : a.1 = b.1 := (Prod.mk.inj e).2
    unfold rwLt at hab
    rw [this] at hab
    exact vLt_irr _ hab
  have key : (mgD n R A).Perm ((R.filter (fun r => ! hasV A r.1)).map (fun r => ((1 : Int), r.1)) ++ (A.filter (fun r => ! hasV R r.1)).map (fun r => ((0 : Int), r.1))) := by
    refine (List.perm_ext_iff_of_nodup ?_ ?_).mpr (fun e => ?_)
    · rw [List.nodup_iff_pairwise_ne]
      exact i2.imp (fun {a b} hab e => by rw [e] at hab; exact vLt_irr _ hab)
    · rw [List.nodup_append]
      refine ⟨nd _ _ h1, nd _ _ h2, fun a ha b hb e => ?_⟩
      obtain ⟨x, _, x2⟩ := List.mem_map.mp ha
      obtain ⟨y, _, y2⟩ := List.mem_map.mp hb
      rw [← x2, ← y2] at e
      exact absurd (Prod.mk.inj e).1 (by decide)
    · rw [i1 e, List.mem_append, List.mem_map, List.mem_map]
      have ng : ∀ {L : List pRw} {z : List Int}, (! hasV L z) = true ↔ ¬ inV L z := fun {L z} => by
        rw [← inV_h]
        cases hasV L z <;> decide
      constructor
      · rintro (⟨z1, ⟨r, r1, r2⟩, z3⟩ | ⟨z1, ⟨r, r1, r2⟩, z3⟩)
        · exact .inl ⟨r, List.mem_filter.mpr ⟨r1, ng.mpr (by rw [r2]; exact z3)⟩, Prod.ext z1.symm r2⟩
        · exact .inr ⟨r, List.mem_filter.mpr ⟨r1, ng.mpr (by rw [r2]; exact z3)⟩, Prod.ext z1.symm r2⟩
      · rintro (⟨r, r1, rfl⟩ | ⟨r, r1, rfl⟩)
        · obtain ⟨r2, r3⟩ := List.mem_filter.mp r1
          exact .inl ⟨rfl, ⟨r, r2, rfl⟩, ng.mp r3⟩
        · obtain ⟨r2, r3⟩ := List.mem_filter.mp r1
          exact .inr ⟨rfl, ⟨r, r2, rfl⟩, ng.mp r3⟩
  rw [key.length_eq, List.length_append, List.length_map, List.length_map]
  unfold dfN
  rw [List.countP_eq_length_filter, List.countP_eq_length_filter]
theorem dfN_0 {R A : List pRw} (h1 : R.Pairwise rwLt) (h2 : A.Pairwise rwLt) : dfN R A = 0 ↔ vEq R A := by
  have nd : ∀ {L : List pRw}, L.Pairwise rwLt → (L.map (·.1)).Pairwise vLt := fun {L} hL => List.pairwise_map.mpr hL
  unfold dfN
  constructor
  · intro h
    refine srt_ext (lt := vLt) vLt_irr (fun a b c => vLt_tr) _ _ (nd h1) (nd h2) (fun y => ?_)
    have z : ∀ {L L' : List pRw}, L.countP (fun r => ! hasV L' r.1) = 0 → ∀ r ∈ L, hasV L' r.1 = true := fun {L L'} h r hr => by
      have := List.countP_eq_zero.mp h r hr
      cases hb : hasV L' r.1 with
      | true => rfl
      | false => rw [hb] at this; exact absurd rfl this
    rw [List.mem_map, List.mem_map]
    constructor
    · rintro ⟨r, r1, rfl⟩; exact hasV_t.mp (z (by omega) r r1)
    · rintro ⟨r, r1, rfl⟩; exact hasV_t.mp (z (by omega) r r1)
  · intro h
    have z : ∀ {L L' : List pRw}, vEq L L' → L.countP (fun r => ! hasV L' r.1) = 0 := fun {L L'} h => List.countP_eq_zero.mpr (fun r hr => by
      obtain ⟨r', a, b⟩ := h.mem hr
      rw [hasV_t.mpr ⟨r', a, b⟩]
      decide)
    rw [z h, z h.symm]
section
variable {f x y W cap cap2 : Nat} {S : Nat → Nat × Nat × Nat} {G : xG_} {m : Nat × Nat} {R A : List pRw} {r8 : Nat → Nat → Int → Int → Int → xT_ → Option (Int × xT_)}
def cEc (R A : List pRw) (v : Int) (e : Int × List Int) : Prop := ∃ k : Nat, (e.1 = 1 ∧ v = ((2 * k + 1 : Nat) : Int) ∧ k < R.length ∧ (R.getD k dRw).1 = e.2) ∨ (e.1 = 0 ∧ v = ((2 * k : Nat) : Int) ∧ k < A.length ∧ (A.getD k dRw).1 = e.2)
theorem drop_r {L : List pRw} {k : Nat} (h : k < L.length) : L.drop k = L.getD k dRw :: L.drop (k + 1) := by
  rw [List.drop_eq_getElem_cons h]
  rw [show L.getD k dRw = L[k] from by simp [List.getD, h]]
theorem st_84a {T : xT_} {k l lf : Int} {c : Int} (hc : -1 ≤ c ∧ c ≤ 1) (hk : 0 ≤ k ∧ k < 1000) (hl : 0 ≤ l ∧ l < 1000) (hlf : 0 ≤ lf ∧ lf < 100000) : c84_65 r8 f x y lf k l c T = if c = 0 then r8 x y lf (k + 1) (l + 1) T else if lf = 0 then (if c < 0 then some (2 * k + 1, T) else some (2 * l, T)) else if c < 0 then r8 x y (lf - 1) (k + 1) l T else r8 x y (lf - 1) k (l + 1) T := by
  have w1 : xwr lf = lf := xwr_g _ (by omega) (by omega)
  have w2 : xwr (lf - 1) = lf - 1 ∨ lf = 0 := by
    by_cases c : lf = 0
    · exact .inr c
    · exact .inl (xwr_g _ (by omega) (by omega))
  have w3 : xwr k = k := xwr_g _ (by omega) (by omega)
  have w4 : xwr (k + 1) = k + 1 := xwr_g _ (by omega) (by omega)
  have w5 : xwr l = l := xwr_g _ (by omega) (by omega)
  have w6 : xwr (l + 1) = l + 1 := xwr_g _ (by omega) (by omega)
  have w7 : xwr (2 * l) = 2 * l := xwr_g _ (by omega) (by omega)
  have w8 : xwr (xwr (2 * k) + 1) = 2 * k + 1 := by rw [xwr_g (2 * k) (by omega) (by omega), xwr_g _ (by omega) (by omega)]
  unfold c84_65 c84_94 c84_95 c84_106 c84_120 c84_135
  rcases (by omega : c = -1 ∨ c = 0 ∨ c = 1) with rfl | rfl | rfl
  · by_cases z : lf = 0
    · subst z
      simp [w7, w8]
    · have w2' := w2.resolve_right z
      simp [z, w2', w4, w5]
  · simp [w1, w4, w6]
  · by_cases z : lf = 0
    · subst z
      simp [w7, w8]
    · have w2' := w2.resolve_right z
      simp [z, w2', w3, w6]
theorem k_84l (hf : 20 < f) (h : cRw S G x W cap R) (h2 : cRw S G y W cap2 A) : ∀ (n k l lf fu : Nat), k ≤ R.length → l ≤ A.length → (R.drop k).length + (A.drop l).length ≤ n → n < fu → lf < 1000 → ∃ v, c84_8 f fu x y (lf : Int) (k : Int) (l : Int) (S, G, m) = some (v, (S, G, m)) ∧ (lf < (mgD n (R.drop k) (A.drop l)).length → cEc R A v ((mgD n (R.drop k) (A.drop l)).getD lf (0, []))) := by
  have hR := h.2.2.2.2.1
  have hA := h2.2.2.2.2.1
  have hcap := h.2.2.2.2.2.1
  have hcap2 := h2.2.2.2.2.2.1
  intro n
  induction n with
  | zero =>
    intro k l lf fu hk hl hn hfu hlf
    obtain ⟨fu, rfl⟩ : ∃ t, fu = t + 1 := ⟨fu - 1, by omega⟩
    rw [List.length_drop, List.length_drop] at hn
    refine ⟨-1, ?_, fun z => absurd z (Nat.not_lt_zero _)⟩
    show c84_8b (c84_8 f fu) f _ _ _ _ _ _ = _
    unfold c84_8b
    rw [o_gi h.1, Option.bind_some, h.2.2.2.1.2.1, if_neg (by omega), o_gi h2.1, Option.bind_some, h2.2.2.2.1.2.1, if_pos (by omega)]
  | succ n ih =>
    intro k l lf fu hk hl hn hfu hlf
    obtain ⟨fu, rfl⟩ : ∃ t, fu = t + 1 := ⟨fu - 1, by omega⟩
    rw [List.length_drop, List.length_drop] at hn
    have ee : c84_8 f (fu + 1) x y (lf : Int) (k : Int) (l : Int) (S, G, m) = c84_8b (c84_8 f fu) f x y (lf : Int) (k : Int) (l : Int) (S, G, m) := rfl
    have ek : ((k : Nat) : Int) + 1 = ((k + 1 : Nat) : Int) := by omega
    have el : ((l : Nat) : Int) + 1 = ((l + 1 : Nat) : Int) := by omega
    rw [ee]
    unfold c84_8b c84_26
    rw [o_gi h.1, Option.bind_some, h.2.2.2.1.2.1, o_gi h2.1, Option.bind_some, h2.2.2.2.1.2.1]
    by_cases c1 : k < R.length
    · rw [if_pos (by omega), if_pos (by omega), Option.bind_some, drop_r c1]
      by_cases c2 : l < A.length
      · have hj := (h.2.2.2.2.2.2.2 k c1).1
        have hj2 := (h2.2.2.2.2.2.2.2 l c2).1
        have e72 := k_72 (m := m) (k := W) hf h h2 c1 c2 (Nat.le_refl _) (Nat.le_refl _)
        rw [List.take_of_length_le (by omega), List.take_of_length_le (by omega)] at e72
        have is : cq_is 5 4 x (S, G, m) = some () := if_pos h.1
        rw [if_pos (by omega), o_gi h.1, Option.bind_some, h.2.2.2.1.1, is, Option.bind_some, e72, Option.bind_some, drop_r c2]
        have cin := vCmp_in (R.getD k dRw).1 (A.getD l dRw).1
        have st := st_84a (r8 := c84_8 f fu) (f := f) (x := x) (y := y) (T := (S, G, m)) (k := (k : Int)) (l := (l : Int)) (lf := (lf : Int)) (c := vCmp (R.getD k dRw).1 (A.getD l dRw).1) (by omega) (by omega) (by omega) (by omega)
        show ∃ v, c84_65 (c84_8 f fu) f x y (lf : Int) (k : Int) (l : Int) (vCmp (R.getD k dRw).1 (A.getD l dRw).1) (S, G, m) = some (v, (S, G, m)) ∧ _
        rw [st]
        by_cases c0 : vCmp (R.getD k dRw).1 (A.getD l dRw).1 = 0
        · have eD : mgD (n + 1) (R.getD k dRw :: R.drop (k + 1)) (A.getD l dRw :: A.drop (l + 1)) = mgD n (R.drop (k + 1)) (A.drop (l + 1)) := by
            show (if _ then _ else _) = _
            rw [if_pos c0]
          rw [eD, if_pos c0, ek, el]
          exact ih (k + 1) (l + 1) lf fu (by omega) (by omega) (by rw [List.length_drop, List.length_drop]; omega) (by omega) hlf
        · rw [if_neg c0]
          by_cases c3 : vCmp (R.getD k dRw).1 (A.getD l dRw).1 < 0
          · have eD : mgD (n + 1) (R.getD k dRw :: R.drop (k + 1)) (A.getD l dRw :: A.drop (l + 1)) = (1, (R.getD k dRw).1) :: mgD n (R.drop (k + 1)) (A.drop l) := by
              show (if _ then _ else if _ then _ else _) = _
              rw [if_neg c0, if_pos c3, drop_r c2]
            rw [eD, if_pos c3, if_pos c3]
            by_cases c4 : lf = 0
            · subst c4
              rw [if_pos (by omega)]
              exact ⟨_, rfl, fun _ => ⟨k, .inl ⟨rfl, by omega, c1, rfl⟩⟩⟩
            · obtain ⟨g, rfl⟩ : ∃ g, lf = g + 1 := ⟨lf - 1, by omega⟩
              rw [if_neg (by omega), ek, show ((g + 1 : Nat) : Int) - 1 = ((g : Nat) : Int) by omega]
              obtain ⟨v, v1, v2⟩ := ih (k + 1) l g fu (by omega) (by omega) (by rw [List.length_drop, List.length_drop]; omega) (by omega) (by omega)
              exact ⟨v, v1, fun z => v2 (by rw [List.length_cons] at z; omega)⟩
          · have eD : mgD (n + 1) (R.getD k dRw :: R.drop (k + 1)) (A.getD l dRw :: A.drop (l + 1)) = (0, (A.getD l dRw).1) :: mgD n (R.drop k) (A.drop (l + 1)) := by
              show (if _ then _ else if _ then _ else _) = _
              rw [if_neg c0, if_neg c3, drop_r c1]
            rw [eD, if_neg c3, if_neg c3]
            by_cases c4 : lf = 0
            · subst c4
              rw [if_pos (by omega)]
              exact ⟨_, rfl, fun _ => ⟨l, .inr ⟨rfl, by omega, c2, rfl⟩⟩⟩
            · obtain ⟨g, rfl⟩ : ∃ g, lf = g + 1 := ⟨lf - 1, by omega⟩
              rw [if_neg (by omega), el, show ((g + 1 : Nat) : Int) - 1 = ((g : Nat) : Int) by omega]
              obtain ⟨v, v1, v2⟩ := ih k (l + 1) g fu (by omega) (by omega) (by rw [List.length_drop, List.length_drop]; omega) (by omega) (by omega)
              exact ⟨v, v1, fun z => v2 (by rw [List.length_cons] at z; omega)⟩
      · have eA : A.drop l = [] := List.drop_eq_nil_of_le (by omega)
        rw [if_neg (by omega), eA]
        have st := st_84a (r8 := c84_8 f fu) (f := f) (x := x) (y := y) (T := (S, G, m)) (k := (k : Int)) (l := (l : Int)) (lf := (lf : Int)) (c := -1) (by omega) (by omega) (by omega) (by omega)
        rw [st, if_neg (by decide), if_pos (show (-1 : Int) < 0 by decide), if_pos (show (-1 : Int) < 0 by decide)]
        show ∃ v, _ ∧ (lf < ((1, (R.getD k dRw).1) :: mgD n (R.drop (k + 1)) []).length → cEc R A v (((1, (R.getD k dRw).1) :: mgD n (R.drop (k + 1)) []).getD lf (0, [])))
        by_cases c4 : lf = 0
        · subst c4
          rw [if_pos (by omega)]
          exact ⟨_, rfl, fun _ => ⟨k, .inl ⟨rfl, by omega, c1, rfl⟩⟩⟩
        · obtain ⟨g, rfl⟩ : ∃ g, lf = g + 1 := ⟨lf - 1, by omega⟩
          rw [if_neg (by omega), ek, show ((g + 1 : Nat) : Int) - 1 = ((g : Nat) : Int) by omega]
          obtain ⟨v, v1, v2⟩ := ih (k + 1) l g fu (by omega) (by omega) (by rw [List.length_drop, List.length_drop]; omega) (by omega) (by omega)
          rw [eA] at v2
          exact ⟨v, v1, fun z => v2 (by rw [List.length_cons] at z; omega)⟩
    · have eR : R.drop k = [] := List.drop_eq_nil_of_le (by omega)
      rw [if_neg (by omega), eR]
      by_cases c2 : l < A.length
      · rw [if_neg (by omega), Option.bind_some, if_neg (by omega), drop_r c2]
        have st := st_84a (r8 := c84_8 f fu) (f := f) (x := x) (y := y) (T := (S, G, m)) (k := (k : Int)) (l := (l : Int)) (lf := (lf : Int)) (c := 1) (by omega) (by omega) (by omega) (by omega)
        rw [st, if_neg (by decide), if_neg (show ¬ (1 : Int) < 0 by decide), if_neg (show ¬ (1 : Int) < 0 by decide)]
        show ∃ v, _ ∧ (lf < ((0, (A.getD l dRw).1) :: mgD n [] (A.drop (l + 1))).length → cEc R A v (((0, (A.getD l dRw).1) :: mgD n [] (A.drop (l + 1))).getD lf (0, [])))
        by_cases c4 : lf = 0
        · subst c4
          rw [if_pos (by omega)]
          exact ⟨_, rfl, fun _ => ⟨l, .inr ⟨rfl, by omega, c2, rfl⟩⟩⟩
        · obtain ⟨g, rfl⟩ : ∃ g, lf = g + 1 := ⟨lf - 1, by omega⟩
          rw [if_neg (by omega), el, show ((g + 1 : Nat) : Int) - 1 = ((g : Nat) : Int) by omega]
          obtain ⟨v, v1, v2⟩ := ih k (l + 1) g fu (by omega) (by omega) (by rw [List.length_drop, List.length_drop]; omega) (by omega) (by omega)
          rw [eR] at v2
          exact ⟨v, v1, fun z => v2 (by rw [List.length_cons] at z; omega)⟩
      · have eA : A.drop l = [] := List.drop_eq_nil_of_le (by omega)
        rw [eA, Option.bind_some, if_pos (by omega)]
        exact ⟨-1, rfl, fun z => absurd z (Nat.not_lt_zero _)⟩
theorem k_84 {lf : Nat} (hf : 1100 < f) (h : cRw S G x W cap R) (h2 : cRw S G y W cap2 A) (hlf : lf < (mgD (R.length + A.length) R A).length) (hl2 : lf < 1000) : ∃ v, c84 f x y (lf : Int) (S, G, m) = some (v, (S, G, m)) ∧ cEc R A v ((mgD (R.length + A.length) R A).getD lf (0, [])) := by
  have hR := h.2.2.2.2.1
  have hA := h2.2.2.2.2.1
  have hcap := h.2.2.2.2.2.1
  have hcap2 := h2.2.2.2.2.2.1
  obtain ⟨v, v1, v2⟩ := k_84l (m := m) (f := f) (by omega) h h2 (R.length + A.length) 0 0 lf f (Nat.zero_le _) (Nat.zero_le _) (by rw [List.drop_zero, List.drop_zero]; omega) (by omega) hl2
  rw [List.drop_zero, List.drop_zero] at v2
  exact ⟨v, v1, v2 hlf⟩
end
end
section
/-! THE CLASS: differing, rowsAhead; the list of a round's edits -/
section
variable {f x y q qo nq nqo nx nxo ea eb rp ro p sl A0 : Nat} {S : Nat → Nat × Nat × Nat} {G : xG_} {m : Nat × Nat} {s so : pPg} {xr cr xo co : Nat → Nat} {M Mo A : Nat → List pRw} {F Fo : List pFc}
theorem dfN_nil {R : List pRw} : dfN R [] = R.length := by
  unfold dfN
  rw [List.countP_eq_length.mpr (fun r _ => by rfl)]
  rfl
theorem k_18 (hf : 700 < f) (hq : cPgm S G q nq s) (ho : cPgm S G qo nqo so) (hoks : qOk s) (hoko : qOk so) (hm : cMr S G nx eb q rp s xr cr M) (hmo : cMr S G nxo ea qo ro so xo co Mo) (hM : okM8 s M) (hMo : okM8 so Mo) (hA : isAh so s Mo A) (hp : p < s.1.length) : c18 f eb ea (p : Int) (S, G, m) = some ((dfN (M p) (A p) : Int), (S, G, m)) := by
  obtain ⟨v, v1, v2⟩ := k_21 (f := f) (m := m) (by omega) hq ho hoks hoko hp
  obtain ⟨b1, b2, b3⟩ := hm.2.2.2.2 p hp
  have i1 : cq_is 3 14 qo (S, G, m) = some () := if_pos ho.1.1
  have i2 : cq_is 5 4 (xr p) (S, G, m) = some () := if_pos b3.1
  unfold c18 c18_45
  rw [o_gr hmo.1 hmo.2.1, Option.bind_some, o_gr hm.1 hm.2.1, Option.bind_some, i1, Option.bind_some, v1, Option.bind_some]
  rcases v2 with ⟨r, rfl, r1, r2, r3⟩ | ⟨rfl, r1⟩
  · obtain ⟨d1, d2, d3⟩ := hmo.2.2.2.2 r r1
    have eA : A p = Mo r := by
      rcases hA p hp with ⟨r', a1, a2, a3, e⟩ | ⟨a1, e⟩
      · have : r' = r := nm_inj hoko a1 r1 (a2.trans r2.symm)
        rw [e, this]
      · exact absurd r3 (a1 r r1 r2)
    rw [r3] at d3
    have e83 := k_83 (f := f) (m := m) (by omega) b3 d3 (hM p hp).1 (hMo r r1).1
    rw [if_pos (show ¬ (((r : Nat) : Int) = -1) by omega), o_gr hm.1 hm.2.2.1, Option.bind_some, o_ar hm.2.2.2.1 (by decide) hp b1, Option.bind_some, o_gr hmo.1 hmo.2.2.1, Option.bind_some, o_ar hmo.2.2.2.1 (by decide) r1 d1, Option.bind_some, i2, Option.bind_some, e83, Option.bind_some, eA]
  · have eA : A p = [] := by
      rcases hA p hp with ⟨r', a1, a2, a3, e⟩ | ⟨a1, e⟩
      · exact absurd a3 (r1 r' a1 a2)
      · exact e
    rw [if_neg (fun z => z rfl), o_gr hm.1 hm.2.2.1, Option.bind_some, o_ar hm.2.2.2.1 (by decide) hp b1, Option.bind_some, o_gi b3.1, Option.bind_some, b3.2.2.2.1.2.1, eA, dfN_nil]
theorem k_17 (hf : 700 < f) (hA0 : 0 < A0) (hqA : q + 10 < A0) (hmA : eb < A0) (hq : cPgm S G q nq s) (ho : cPgm S G qo nqo so) (hoks : qOc s) (hoko : qOk so) (hm : cMr S G nx eb q rp s xr cr M) (hmo : cMr S G A0 ea qo ro so xo co Mo) (hA : isAh so s Mo A) (hp : p < s.1.length) : ∃ y S' G' m' c, c17 f eb ea (p : Int) (S, G, (A0, sl)) = some (y, (S', G', m')) ∧ A0 ≤ m'.1 ∧ m'.1 ≤ A0 + 3 ∧ sl ≤ m'.2 ∧ m'.2 ≤ sl + 4 ∧ (∀ a, a < A0 → S' a = S a) ∧ (∀ a j, a < A0 → G' a j = G a j) ∧ cRw S' G' y (qN s p) c (A p) := by
  obtain ⟨v, v1, v2⟩ := k_21 (f := f) (m := (A0, sl)) (by omega) hq ho hoks.1 hoko hp
  have i1 : cq_is 3 14 qo (S, G, (A0, sl)) = some () := if_pos ho.1.1
  have hw4 := (qN_pos hoks hp).2
  have h16 : s.1.length ≤ 16 := hq.2.2.1.2.1
  unfold c17
  rw [o_gr hmo.1 hmo.2.1, Option.bind_some, o_gr hm.1 hm.2.1, Option.bind_some, i1, Option.bind_some, v1, Option.bind_some]
  rcases v2 with ⟨r, rfl, r1, r2, r3⟩ | ⟨rfl, r1⟩
  · obtain ⟨d1, d2, d3⟩ := hmo.2.2.2.2 r r1
    have eA : A p = Mo r := by
      rcases hA p hp with ⟨r', a1, a2, a3, e⟩ | ⟨a1, e⟩
      · have : r' = r := nm_inj hoko a1 r1 (a2.trans r2.symm)
        rw [e, this]
      · exact absurd r3 (a1 r r1 r2)
    rw [r3] at d3
    rw [if_pos (show ¬ (((r : Nat) : Int) = -1) by omega), o_gr hmo.1 hmo.2.2.1, Option.bind_some, o_ar hmo.2.2.2.1 (by decide) r1 d1, Option.bind_some]
    exact ⟨xo r, S, G, (A0, sl), co r, rfl, Nat.le_refl _, Nat.le_add_right _ _, Nat.le_refl _, Nat.le_add_right _ _, fun _ _ => rfl, fun _ _ _ => rfl, by rw [eA]; exact d3⟩
  · have eA : A p = [] := by
      rcases hA p hp with ⟨r', a1, a2, a3, e⟩ | ⟨a1, e⟩
      · exact absurd a3 (r1 r' a1 a2)
      · exact e
    obtain ⟨S1, hS1⟩ : ∃ S1, S1 = xup1 S A0 (1, 5, 4) := ⟨_, rfl⟩
    obtain ⟨G1, hG1⟩ : ∃ G1, G1 = xz1 G A0 (fun _ => 0) := ⟨_, rfl⟩
    have sL1 : ∀ a, a < A0 → S1 a = S a := fun a ha => by rw [hS1, xup1_n (by omega)]
    have gL1 : ∀ a j, a < A0 → G1 a j = G a j := fun a j ha => by rw [hG1, xz1_n _ (by omega)]
    have sA1 : S1 A0 = (1, 5, 4) := by rw [hS1, xup1_s]
    have enw : cq_nw 5 4 (S, G, (A0, sl)) = some (A0, (S1, G1, (A0 + 1, sl + 4))) := by rw [hS1, hG1]; rfl
    have e1 := k_68 (f := f) (A := A0) (W := qN s p) (n := 0) (sl := sl + 4) (S := S1) (G := G1) hA0 (by omega) (by omega) sA1
    obtain ⟨S2, hS2⟩ : ∃ S2, S2 = xup1 (xup1 S1 (A0 + 1) (2, 4, qN s p * 0)) (A0 + 2) (2, 3, 0) := ⟨_, rfl⟩
    obtain ⟨G2, hG2⟩ : ∃ G2, G2 = xup2 (xz1 (xup2 (xz1 (xup2 G1 A0 0 (qN s p : Int)) (A0 + 1) (fun _ => 0)) A0 2 ((A0 + 1 : Nat) : Int)) (A0 + 2) (fun _ => 0)) A0 3 ((A0 + 2 : Nat) : Int) := ⟨_, rfl⟩
    rw [← hS2, ← hG2] at e1
    have sA : S2 A0 = (1, 5, 4) := by rw [hS2, xup1_n (by omega), xup1_n (by omega), sA1]
    have sA1' : S2 (A0 + 1) = (2, 4, qN s p * 0) := by rw [hS2, xup1_n (by omega), xup1_s]
    have sA2 : S2 (A0 + 2) = (2, 3, 0) := by rw [hS2, xup1_s]
    have sL : ∀ a, a < A0 → S2 a = S a := fun a ha => by rw [hS2, xup1_n (by omega), xup1_n (by omega), sL1 a ha]
    have gL : ∀ a j, a < A0 → G2 a j = G a j := fun a j ha => by rw [hG2, xup2_n (by omega), xz1_n _ (by omega), xup2_n (by omega), xz1_n _ (by omega), xup2_n (by omega), gL1 a j ha]
    have g0 : G2 A0 0 = (qN s p : Int) := by rw [hG2, xup2_n (by omega), xz1_n _ (by omega), xup2_n (by omega), xz1_n _ (by omega), xup2_s]
    have g1 : G2 A0 1 = 0 := by rw [hG2, xup2_n (by omega), xz1_n _ (by omega), xup2_n (by omega), xz1_n _ (by omega), xup2_n (by omega), hG1, xz1_s]
    have g2 : G2 A0 2 = ((A0 + 1 : Nat) : Int) := by rw [hG2, xup2_n (by omega), xz1_n _ (by omega), xup2_s]
    have g3 : G2 A0 3 = ((A0 + 2 : Nat) : Int) := by rw [hG2, xup2_s]
    have gw : G1 (q + 2) p = (qN s p : Int) := by
      rw [gL1 _ _ (by omega), (qN_c hoks.1.1 p).1]
      exact hq.2.2.2.1 p (by omega)
    have e2 : c68 f A0 (qN s p : Int) 0 (S1, G1, (A0 + 1, sl + 4)) = some (S2, G2, (A0 + 3, sl + 4 + qN s p * 0 + 0)) := e1
    rw [if_neg (fun z => z rfl), enw, Option.bind_some, o_gr (x := eb) (y := q) (by rw [sL1 _ hmA]; exact hm.1) (by rw [gL1 _ _ hmA]; exact hm.2.1), Option.bind_some, o_gr (x := q) (y := q + 2) (by rw [sL1 _ (by omega)]; exact hq.1.1) (by rw [gL1 _ _ (by omega)]; exact hq.2.1.2.1), Option.bind_some, o_a (L := 16) (by rw [sL1 _ (by omega)]; exact hq.1.2.2.1) (by omega), Option.bind_some, gw, e2, Option.bind_some]
    refine ⟨A0, S2, G2, (A0 + 3, sl + 4 + qN s p * 0 + 0), 0, rfl, by show A0 ≤ A0 + 3; omega, Nat.le_refl _, by show sl ≤ sl + 4 + qN s p * 0 + 0; omega, by show sl + 4 + qN s p * 0 + 0 ≤ sl + 4; omega, sL, gL, sA, ⟨_, sA1', by omega, by omega⟩, sA2, ⟨g0, by rw [eA]; exact g1, g2, g3⟩, by rw [eA]; exact Nat.le_refl _, by omega, by omega, fun i hi => by rw [eA] at hi; exact absurd hi (Nat.not_lt_zero _)⟩
/-- edits of one predicate, of those from p on -/
def eB (s : pPg) (M A : Nat → List pRw) (p : Nat) : List pEd := if pOu s.2.2.1 (p : Int) = true then (mgD ((M p).length + (A p).length) (M p) (A p)).map (fun e => (p, e.1, e.2)) else []
def eT (B : Nat → List pEd) : Nat → Nat → List pEd
  | _, 0 => []
  | p, d + 1 => B p ++ eT B (p + 1) d
theorem eT_m {B : Nat → List pEd} (hB : ∀ p e, e ∈ B p → e.1 = p) {e : pEd} : ∀ (d p : Nat), e ∈ eT B p d ↔ (p ≤ e.1 ∧ e.1 < p + d) ∧ e ∈ B e.1
  | 0, p => ⟨fun z => absurd z List.not_mem_nil, fun z => by have := z.1; omega⟩
  | d + 1, p => by
    show e ∈ B p ++ eT B (p + 1) d ↔ _
    rw [List.mem_append, eT_m hB d (p + 1)]
    constructor
    · rintro (z | ⟨z1, z2⟩)
      · have := hB p e z
        exact ⟨by omega, by rw [this]; exact z⟩
      · exact ⟨by omega, z2⟩
    · rintro ⟨z1, z2⟩
      by_cases c : e.1 = p
      · exact .inl (by rw [← c]; exact z2)
      · exact .inr ⟨by omega, z2⟩
def edL' (e e' : pEd) : Prop := e.1 < e'.1 ∨ e.1 = e'.1 ∧ vLt e.2.2 e'.2.2
theorem eT_s {B : Nat → List pEd} (hB : ∀ p e, e ∈ B p → e.1 = p) (hs : ∀ p, (B p).Pairwise edL') : ∀ (d p : Nat), (eT B p d).Pairwise edL'
  | 0, p => List.Pairwise.nil
  | d + 1, p => by
    show (B p ++ eT B (p + 1) d).Pairwise edL'
    refine List.pairwise_append.mpr ⟨hs p, eT_s hB hs d (p + 1), fun a ha b hb => .inl ?_⟩
    have h1 := hB p a ha
    have h2 := ((eT_m hB d (p + 1)).mp hb).1
    omega
theorem eB_1 {p : Nat} {e : pEd} (h : e ∈ eB s M A p) : e.1 = p := by
  unfold eB at h
  split at h
  · obtain ⟨x, _, rfl⟩ := List.mem_map.mp h
    rfl
  · cases h
/-- the edits of a round are these -/
theorem ed_is {E : List pEd} (hok : qOk s) (hoko : qOk so) (hR : qTb s M) (hM : qTb so Mo) (hF : qFa s M F) (hFo : qFa so Mo Fo) (hA : isAh so s Mo A) (hE : qEd s F Fo E) : E = eT (eB s (fun p => if p < s.1.length then M p else []) (fun p => if p < s.1.length then A p else [])) 0 s.1.length := by
  obtain ⟨M', hM'⟩ : ∃ M', M' = fun p => if p < s.1.length then M p else [] := ⟨_, rfl⟩
  obtain ⟨A', hA'⟩ : ∃ A', A' = fun p => if p < s.1.length then A p else [] := ⟨_, rfl⟩
  rw [← hM', ← hA']
  have hAs := hA.srt hM
  have eM : ∀ p, p < s.1.length → M' p = M p := fun p hp => by rw [hM']; exact if_pos hp
  have eA : ∀ p, p < s.1.length → A' p = A p := fun p hp => by rw [hA']; exact if_pos hp
  have nM : ∀ p, ¬ p < s.1.length → M' p = [] := fun p hp => by rw [hM']; exact if_neg hp
  have nA : ∀ p, ¬ p < s.1.length → A' p = [] := fun p hp => by rw [hA']; exact if_neg hp
  have key : ∀ p, (∀ e, e ∈ mgD ((M' p).length + (A' p).length) (M' p) (A' p) ↔ mgM (M' p) (A' p) e) ∧ (mgD ((M' p).length + (A' p).length) (M' p) (A' p)).Pairwise (fun e e' => vLt e.2 e'.2) := fun p => by
    by_cases hp : p < s.1.length
    · rw [eM p hp, eA p hp]
      exact mgD_i (qN s p) _ _ _ (Nat.le_refl _) (hR p hp).2.1 (hAs p hp).1 (fun r hr => ((hR p hp).2.2 r hr).1) (hAs p hp).2.2
    · rw [nM p hp, nA p hp]
      exact mgD_i 0 _ _ _ (Nat.le_refl _) List.Pairwise.nil List.Pairwise.nil (fun r hr => by cases hr) (fun r hr => by cases hr)
  have hB : ∀ p e, e ∈ eB s M' A' p → e.1 = p := fun p e h => eB_1 h
  have hBs : ∀ p, (eB s M' A' p).Pairwise edL' := fun p => by
    unfold eB
    split
    · exact List.pairwise_map.mpr ((key p).2.imp (fun {a b} h => .inr ⟨rfl, h⟩))
    · exact List.Pairwise.nil
  refine srt_ext (lt := edL') ?_ ?_ _ _ ?_ (eT_s hB hBs _ _) (fun e => ?_)
  · rintro a (h | ⟨_, h⟩)
    · omega
    · exact vLt_irr _ h
  · rintro a b c (h | ⟨h, h'⟩) (g | ⟨g, g'⟩)
    · exact .inl (by omega)
    · exact .inl (by omega)
    · exact .inl (by omega)
    · exact .inr ⟨h.trans g, vLt_tr h' g'⟩
  · refine hE.1.imp_of_mem (fun {a b} ha hb z => ?_)
    rcases z with z | ⟨z1, z2⟩
    · exact .inl z
    · have l1 := ((hE.2 a).mp ha).2.2.1
      have l2 := ((hE.2 b).mp hb).2.2.1
      exact .inr ⟨z1, (vLt_iff (by rw [l1, l2, z1])).mpr z2⟩
  · rw [hE.2 e, eT_m hB]
    unfold eB edQ
    constructor
    · rintro ⟨h1, h2, h3, h4⟩
      rw [if_pos h2]
      refine ⟨⟨Nat.zero_le _, by omega⟩, List.mem_map.mpr ⟨(e.2.1, e.2.2), ((key e.1).1 _).mpr ?_, rfl⟩⟩
      unfold mgM
      rw [eM _ h1, eA _ h1, ← inV_h, ← inV_h, ← fn_iff hok hF h1, ← fo_iff hoko hM hFo hA h1 h3]
      rcases h4 with ⟨z1, z2, z3⟩ | ⟨z1, z2, z3⟩
      · exact .inr ⟨z1, z2, z3⟩
      · exact .inl ⟨z1, z2, z3⟩
    · rintro ⟨⟨_, h1⟩, h2⟩
      have hp : e.1 < s.1.length := by omega
      by_cases c : pOu s.2.2.1 (e.1 : Int) = true
      · rw [if_pos c] at h2
        obtain ⟨x, x1, x2⟩ := List.mem_map.mp h2
        have x3 : x = e.2 := by rw [← x2]
        rw [x3] at x1
        have x4 := ((key e.1).1 _).mp x1
        unfold mgM at x4
        rw [eM _ hp, eA _ hp] at x4
        have hl : e.2.2.length = qN s e.1 := by
          rcases x4 with ⟨_, ⟨r, r1, r2⟩, _⟩ | ⟨_, ⟨r, r1, r2⟩, _⟩
          · rw [← r2]; exact ((hR _ hp).2.2 r r1).1
          · rw [← r2]; exact (hAs _ hp).2.2 r r1
        rw [← inV_h, ← inV_h, ← fn_iff hok hF hp, ← fo_iff hoko hM hFo hA hp hl] at x4
        refine ⟨hp, c, hl, ?_⟩
        rcases x4 with ⟨z1, z2, z3⟩ | ⟨z1, z2, z3⟩
        · exact .inr ⟨z1, z2, z3⟩
        · exact .inl ⟨z1, z2, z3⟩
      · rw [if_neg c] at h2; cases h2
end
end
