/-! THE CLASS: the edits of a round, one by one -/
def inV (R : List pRw) (z : List Int) : Prop := ∃ r ∈ R, r.1 = z
theorem inV_h {R : List pRw} {z : List Int} : hasV R z = true ↔ inV R z := hasV_t
theorem inV_c {r : pRw} {R : List pRw} {z : List Int} : inV (r :: R) z ↔ r.1 = z ∨ inV R z := by
  constructor
  · rintro ⟨x, x1, x2⟩
    rcases List.mem_cons.mp x1 with rfl | h
    · exact .inl x2
    · exact .inr ⟨x, h, x2⟩
  · rintro (h | ⟨x, x1, x2⟩)
    · exact ⟨r, List.mem_cons_self, h⟩
    · exact ⟨x, List.mem_cons_of_mem _ x1, x2⟩
theorem inV_n {z : List Int} : ¬ inV [] z := fun ⟨x, h, _⟩ => absurd h List.not_mem_nil
/-- rows that came (1) and went (0), in their order -/
def mgD : Nat → List pRw → List pRw → List (Int × List Int)
  | 0, _, _ => []
  | _ + 1, [], [] => []
  | n + 1, a :: as, [] => (1, a.1) :: mgD n as []
  | n + 1, [], b :: bs => (0, b.1) :: mgD n [] bs
  | n + 1, a :: as, b :: bs => if vCmp a.1 b.1 = 0 then mgD n as bs else if vCmp a.1 b.1 < 0 then (1, a.1) :: mgD n as (b :: bs) else (0, b.1) :: mgD n (a :: as) bs
def mgM (R A : List pRw) (e : Int × List Int) : Prop := e.1 = 1 ∧ inV R e.2 ∧ ¬ inV A e.2 ∨ e.1 = 0 ∧ inV A e.2 ∧ ¬ inV R e.2
theorem mgD_i : ∀ (W n : Nat) (R A : List pRw), R.length + A.length ≤ n → R.Pairwise rwLt → A.Pairwise rwLt → (∀ r ∈ R, r.1.length = W) → (∀ r ∈ A, r.1.length = W) → (∀ e, e ∈ mgD n R A ↔ mgM R A e) ∧ (mgD n R A).Pairwise (fun e e' => vLt e.2 e'.2)
  | W, 0, R, A, h, _, _, _, _ => by
    have e1 : R = [] := List.eq_nil_of_length_eq_zero (by omega)
    have e2 : A = [] := List.eq_nil_of_length_eq_zero (by omega)
    subst e1 e2
    refine ⟨fun e => ⟨fun z => absurd z List.not_mem_nil, ?_⟩, List.Pairwise.nil⟩
    rintro (⟨_, z, _⟩ | ⟨_, z, _⟩) <;> exact (inV_n z).elim
  | W, n + 1, [], [], h, _, _, _, _ => by
    refine ⟨fun e => ⟨fun z => absurd z List.not_mem_nil, ?_⟩, List.Pairwise.nil⟩
    rintro (⟨_, z, _⟩ | ⟨_, z, _⟩) <;> exact (inV_n z).elim
  | W, n + 1, a :: as, [], h, h1, h2, h3, h4 => by
    obtain ⟨x1, x2⟩ := List.pairwise_cons.mp h1
    obtain ⟨i1, i2⟩ := mgD_i W n as [] (by simp only [List.length_cons] at h; omega) x2 h2 (fun r hr => h3 r (List.mem_cons_of_mem _ hr)) h4
    have la : ∀ z, inV as z → vLt a.1 z := fun z ⟨r, r1, r2⟩ => r2 ▸ x1 r r1
    constructor
    · intro e
      show e ∈ (1, a.1) :: mgD n as [] ↔ _
      rw [List.mem_cons, i1 e]
      unfold mgM
      rw [inV_c]
      constructor
      · rintro (rfl | ⟨z1, z2, z3⟩ | ⟨z1, z2, z3⟩)
        · exact .inl ⟨rfl, .inl rfl, inV_n⟩
        · exact .inl ⟨z1, .inr z2, z3⟩
        · exact (inV_n z2).elim
      · rintro (⟨z1, z2 | z2, z3⟩ | ⟨z1, z2, z3⟩)
        · exact .inl (Prod.ext z1 z2.symm)
        · exact .inr (.inl ⟨z1, z2, z3⟩)
        · exact (inV_n z2).elim
    · show ((1, a.1) :: mgD n as []).Pairwise _
      refine List.pairwise_cons.mpr ⟨fun e he => ?_, i2⟩
      rcases (i1 e).mp he with ⟨_, z, _⟩ | ⟨_, z, _⟩
      · exact la _ z
      · exact (inV_n z).elim
  | W, n + 1, [], b :: bs, h, h1, h2, h3, h4 => by
    obtain ⟨x1, x2⟩ := List.pairwise_cons.mp h2
    obtain ⟨i1, i2⟩ := mgD_i W n [] bs (by simp only [List.length_cons] at h; omega) h1 x2 h3 (fun r hr => h4 r (List.mem_cons_of_mem _ hr))
    have la : ∀ z, inV bs z → vLt b.1 z := fun z ⟨r, r1, r2⟩ => r2 ▸ x1 r r1
    constructor
    · intro e
      show e ∈ (0, b.1) :: mgD n [] bs ↔ _
      rw [List.mem_cons, i1 e]
      unfold mgM
      rw [inV_c]
      constructor
      · rintro (rfl | ⟨z1, z2, z3⟩ | ⟨z1, z2, z3⟩)
        · exact .inr ⟨rfl, .inl rfl, inV_n⟩
        · exact (inV_n z2).elim
        · exact .inr ⟨z1, .inr z2, z3⟩
      · rintro (⟨z1, z2, z3⟩ | ⟨z1, z2 | z2, z3⟩)
        · exact (inV_n z2).elim
        · exact .inl (Prod.ext z1 z2.symm)
        · exact .inr (.inr ⟨z1, z2, z3⟩)
    · show ((0, b.1) :: mgD n [] bs).Pairwise _
      refine List.pairwise_cons.mpr ⟨fun e he => ?_, i2⟩
      rcases (i1 e).mp he with ⟨_, z, _⟩ | ⟨_, z, _⟩
      · exact (inV_n z).elim
      · exact la _ z
  | W, n + 1, a :: as, b :: bs, h, h1, h2, h3, h4 => by
    obtain ⟨x1, x2⟩ := List.pairwise_cons.mp h1
    obtain ⟨y1, y2⟩ := List.pairwise_cons.mp h2
    have la : ∀ z, inV as z → vLt a.1 z := fun z ⟨r, r1, r2⟩ => r2 ▸ x1 r r1
    have lb : ∀ z, inV bs z → vLt b.1 z := fun z ⟨r, r1, r2⟩ => r2 ▸ y1 r r1
    have wa := h3 a List.mem_cons_self
    have wb := h4 b List.mem_cons_self
    have ha' : ∀ r ∈ as, r.1.length = W := fun r hr => h3 r (List.mem_cons_of_mem _ hr)
    have hb' : ∀ r ∈ bs, r.1.length = W := fun r hr => h4 r (List.mem_cons_of_mem _ hr)
    simp only [List.length_cons] at h
    have na : ¬ inV as a.1 := fun z => vLt_irr _ (la _ z)
    have nb : ¬ inV bs b.1 := fun z => vLt_irr _ (lb _ z)
    by_cases c0 : vCmp a.1 b.1 = 0
    · have e0 : a.1 = b.1 := vCmp_eq (by omega) c0
      obtain ⟨i1, i2⟩ := mgD_i W n as bs (by omega) x2 y2 ha' hb'
      have eD : mgD (n + 1) (a :: as) (b :: bs) = mgD n as bs := by
        show (if _ then _ else _) = _
        rw [if_pos c0]
      rw [eD]
      refine ⟨fun e => ?_, i2⟩
      rw [i1 e]
      unfold mgM
      rw [inV_c, inV_c]
      constructor
      · rintro (⟨z1, z2, z3⟩ | ⟨z1, z2, z3⟩)
        · exact .inl ⟨z1, .inr z2, fun w => w.elim (fun u => na (by rw [e0, u]; exact z2)) z3⟩
        · exact .inr ⟨z1, .inr z2, fun w => w.elim (fun u => nb (by rw [← e0, u]; exact z2)) z3⟩
      · rintro (⟨z1, z2 | z2, z3⟩ | ⟨z1, z2 | z2, z3⟩)
        · exact (z3 (.inl (e0 ▸ z2))).elim
        · exact .inl ⟨z1, z2, fun w => z3 (.inr w)⟩
        · exact (z3 (.inl (by rw [e0]; exact z2))).elim
        · exact .inr ⟨z1, z2, fun w => z3 (.inr w)⟩
    · by_cases c1 : vCmp a.1 b.1 < 0
      · have lt : vLt a.1 b.1 := (vLt_iff (by omega)).mpr c1
        have nab : ¬ inV (b :: bs) a.1 := fun z => by
          rcases inV_c.mp z with z | z
          · rw [z] at lt; exact vLt_irr _ lt
          · exact vLt_irr _ (vLt_tr lt (lb _ z))
        obtain ⟨i1, i2⟩ := mgD_i W n as (b :: bs) (by simp only [List.length_cons]; omega) x2 h2 ha' h4
        have eD : mgD (n + 1) (a :: as) (b :: bs) = (1, a.1) :: mgD n as (b :: bs) := by
          show (if _ then _ else if _ then _ else _) = _
          rw [if_neg c0, if_pos c1]
        rw [eD]
        constructor
        · intro e
          rw [List.mem_cons, i1 e]
          unfold mgM
          rw [inV_c (r := a)]
          constructor
          · rintro (rfl | ⟨z1, z2, z3⟩ | ⟨z1, z2, z3⟩)
            · exact .inl ⟨rfl, .inl rfl, nab⟩
            · exact .inl ⟨z1, .inr z2, z3⟩
            · exact .inr ⟨z1, z2, fun w => w.elim (fun u => nab (by rw [u]; exact z2)) z3⟩
          · rintro (⟨z1, z2 | z2, z3⟩ | ⟨z1, z2, z3⟩)
            · exact .inl (Prod.ext z1 z2.symm)
            · exact .inr (.inl ⟨z1, z2, z3⟩)
            · exact .inr (.inr ⟨z1, z2, fun w => z3 (.inr w)⟩)
        · refine List.pairwise_cons.mpr ⟨fun e he => ?_, i2⟩
          rcases (i1 e).mp he with ⟨_, z, _⟩ | ⟨_, z, _⟩
          · exact la _ z
          · rcases inV_c.mp z with z | z
            · rw [← z]; exact lt
            · exact vLt_tr lt (lb _ z)
      · have c2 : vCmp b.1 a.1 < 0 := by
          have := vCmp_anti a.1 b.1
          omega
        have lt : vLt b.1 a.1 := (vLt_iff (by omega)).mpr c2
        have nab : ¬ inV (a :: as) b.1 := fun z => by
          rcases inV_c.mp z with z | z
          · rw [z] at lt; exact vLt_irr _ lt
          · exact vLt_irr _ (vLt_tr lt (la _ z))
        obtain ⟨i1, i2⟩ := mgD_i W n (a :: as) bs (by simp only [List.length_cons]; omega) h1 y2 h3 hb'
        have eD : mgD (n + 1) (a :: as) (b :: bs) = (0, b.1) :: mgD n (a :: as) bs := by
          show (if _ then _ else if _ then _ else _) = _
          rw [if_neg c0, if_neg c1]
        rw [eD]
        constructor
        · intro e
          rw [List.mem_cons, i1 e]
          unfold mgM
          rw [inV_c (r := b)]
          constructor
          · rintro (rfl | ⟨z1, z2, z3⟩ | ⟨z1, z2, z3⟩)
            · exact .inr ⟨rfl, .inl rfl, nab⟩
            · exact .inl ⟨z1, z2, fun w => w.elim (fun u => nab (by rw [u]; exact z2)) z3⟩
            · exact .inr ⟨z1, .inr z2, z3⟩
          · rintro (⟨z1, z2, z3⟩ | ⟨z1, z2 | z2, z3⟩)
            · exact .inr (.inl ⟨z1, z2, fun w => z3 (.inr w)⟩)
            · exact .inl (Prod.ext z1 z2.symm)
            · exact .inr (.inr ⟨z1, z2, z3⟩)
        · refine List.pairwise_cons.mpr ⟨fun e he => ?_, i2⟩
          rcases (i1 e).mp he with ⟨_, z, _⟩ | ⟨_, z, _⟩
          · rcases inV_c.mp z with z | z
            · rw [← z]; exact lt
            · exact vLt_tr lt (la _ z)
          · exact lb _ z
theorem mgD_nd {W n : Nat} {R A : List pRw} (h : R.length + A.length ≤ n) (h1 : R.Pairwise rwLt) (h2 : A.Pairwise rwLt) (h3 : ∀ r ∈ R, r.1.length = W) (h4 : ∀ r ∈ A, r.1.length = W) : (mgD n R A).length = dfN R A := by
  obtain ⟨i1, i2⟩ := mgD_i W n R A h h1 h2 h3 h4
  have nd : ∀ {L : List pRw} (k : Int) (p : pRw → Bool), L.Pairwise rwLt → ((L.filter p).map (fun r => (k, r.1))).Nodup := fun {L} k p hL => by
    rw [List.nodup_iff_pairwise_ne]
    refine List.pairwise_map.mpr ((hL.filter p).imp (fun {a b} hab e => ?_))
    have : a.1 = b.1 := (Prod.mk.inj e).2
    unfold rwLt at hab
    rw [this] at hab
    exact vLt_irr _ hab
  have key : (mgD n R A).Perm ((R.filter (fun r => ! hasV A r.1)).map (fun r => ((1 : Int), r.1)) ++ (A.filter (fun r => ! hasV R r.1)).map (fun r => ((0 : Int), r.1))) := by
    refine (List.perm_ext_iff_of_nodup ?_ ?_).mpr (fun e => ?_)
    · rw [List.nodup_iff_pairwise_ne]
      exact i2.imp (fun {a b} hab e => by rw [e] at hab; exact vLt_irr _ hab)
    · rw [List.nodup_append]
      refine ⟨nd _ _ h1, nd _ _ h2, fun a ha b hb e => ?_⟩
      obtain ⟨x, _, x2⟩ := List.mem_map.mp ha
      obtain ⟨y, _, y2⟩ := List.mem_map.mp hb
      rw [← x2, ← y2] at e
      exact absurd (Prod.mk.inj e).1 (by decide)
    · rw [i1 e, List.mem_append, List.mem_map, List.mem_map]
      have ng : ∀ {L : List pRw} {z : List Int}, (! hasV L z) = true ↔ ¬ inV L z := fun {L z} => by
        rw [← inV_h]
        cases hasV L z <;> decide
      constructor
      · rintro (⟨z1, ⟨r, r1, r2⟩, z3⟩ | ⟨z1, ⟨r, r1, r2⟩, z3⟩)
        · exact .inl ⟨r, List.mem_filter.mpr ⟨r1, ng.mpr (by rw [r2]; exact z3)⟩, Prod.ext z1.symm r2⟩
        · exact .inr ⟨r, List.mem_filter.mpr ⟨r1, ng.mpr (by rw [r2]; exact z3)⟩, Prod.ext z1.symm r2⟩
      · rintro (⟨r, r1, rfl⟩ | ⟨r, r1, rfl⟩)
        · obtain ⟨r2, r3⟩ := List.mem_filter.mp r1
          exact .inl ⟨rfl, ⟨r, r2, rfl⟩, ng.mp r3⟩
        · obtain ⟨r2, r3⟩ := List.mem_filter.mp r1
          exact .inr ⟨rfl, ⟨r, r2, rfl⟩, ng.mp r3⟩
  rw [key.length_eq, List.length_append, List.length_map, List.length_map]
  unfold dfN
  rw [List.countP_eq_length_filter, List.countP_eq_length_filter]
theorem dfN_0 {R A : List pRw} (h1 : R.Pairwise rwLt) (h2 : A.Pairwise rwLt) : dfN R A = 0 ↔ vEq R A := by
  have nd : ∀ {L : List pRw}, L.Pairwise rwLt → (L.map (·.1)).Pairwise vLt := fun {L} hL => List.pairwise_map.mpr hL
  unfold dfN
  constructor
  · intro h
    refine srt_ext (lt := vLt) vLt_irr (fun a b c => vLt_tr) _ _ (nd h1) (nd h2) (fun y => ?_)
    have z : ∀ {L L' : List pRw}, L.countP (fun r => ! hasV L' r.1) = 0 → ∀ r ∈ L, hasV L' r.1 = true := fun {L L'} h r hr => by
      have := List.countP_eq_zero.mp h r hr
      cases hb : hasV L' r.1 with
      | true => rfl
      | false => rw [hb] at this; exact absurd rfl this
    rw [List.mem_map, List.mem_map]
    constructor
    · rintro ⟨r, r1, rfl⟩; exact hasV_t.mp (z (by omega) r r1)
    · rintro ⟨r, r1, rfl⟩; exact hasV_t.mp (z (by omega) r r1)
  · intro h
    have z : ∀ {L L' : List pRw}, vEq L L' → L.countP (fun r => ! hasV L' r.1) = 0 := fun {L L'} h => List.countP_eq_zero.mpr (fun r hr => by
      obtain ⟨r', a, b⟩ := h.mem hr
      rw [hasV_t.mpr ⟨r', a, b⟩]
      decide)
    rw [z h, z h.symm]
section
variable {f x y W cap cap2 : Nat} {S : Nat → Nat × Nat × Nat} {G : xG_} {m : Nat × Nat} {R A : List pRw} {r8 : Nat → Nat → Int → Int → Int → xT_ → Option (Int × xT_)}
def cEc (R A : List pRw) (v : Int) (e : Int × List Int) : Prop := ∃ k : Nat, (e.1 = 1 ∧ v = ((2 * k + 1 : Nat) : Int) ∧ k < R.length ∧ (R.getD k dRw).1 = e.2) ∨ (e.1 = 0 ∧ v = ((2 * k : Nat) : Int) ∧ k < A.length ∧ (A.getD k dRw).1 = e.2)
theorem drop_r {L : List pRw} {k : Nat} (h : k < L.length) : L.drop k = L.getD k dRw :: L.drop (k + 1) := by
  rw [List.drop_eq_getElem_cons h]
  rw [show L.getD k dRw = L[k] from by simp [List.getD, h]]
theorem st_84a {T : xT_} {k l lf : Int} {c : Int} (hc : -1 ≤ c ∧ c ≤ 1) (hk : 0 ≤ k ∧ k < 1000) (hl : 0 ≤ l ∧ l < 1000) (hlf : 0 ≤ lf ∧ lf < 100000) : c84_65 r8 f x y lf k l c T = if c = 0 then r8 x y lf (k + 1) (l + 1) T else if lf = 0 then (if c < 0 then some (2 * k + 1, T) else some (2 * l, T)) else if c < 0 then r8 x y (lf - 1) (k + 1) l T else r8 x y (lf - 1) k (l + 1) T := by
  have w1 : xwr lf = lf := xwr_g _ (by omega) (by omega)
  have w2 : xwr (lf - 1) = lf - 1 ∨ lf = 0 := by
    by_cases c : lf = 0
    · exact .inr c
    · exact .inl (xwr_g _ (by omega) (by omega))
  have w3 : xwr k = k := xwr_g _ (by omega) (by omega)
  have w4 : xwr (k + 1) = k + 1 := xwr_g _ (by omega) (by omega)
  have w5 : xwr l = l := xwr_g _ (by omega) (by omega)
  have w6 : xwr (l + 1) = l + 1 := xwr_g _ (by omega) (by omega)
  have w7 : xwr (2 * l) = 2 * l := xwr_g _ (by omega) (by omega)
  have w8 : xwr (xwr (2 * k) + 1) = 2 * k + 1 := by rw [xwr_g (2 * k) (by omega) (by omega), xwr_g _ (by omega) (by omega)]
  unfold c84_65 c84_94 c84_95 c84_106 c84_120 c84_135
  rcases (by omega : c = -1 ∨ c = 0 ∨ c = 1) with rfl | rfl | rfl
  · by_cases z : lf = 0
    · subst z
      simp [w7, w8]
    · have w2' := w2.resolve_right z
      simp [z, w2', w4, w5]
  · simp [w1, w4, w6]
  · by_cases z : lf = 0
    · subst z
      simp [w7, w8]
    · have w2' := w2.resolve_right z
      simp [z, w2', w3, w6]
theorem k_84l (hf : 20 < f) (h : cRw S G x W cap R) (h2 : cRw S G y W cap2 A) : ∀ (n k l lf fu : Nat), k ≤ R.length → l ≤ A.length → (R.drop k).length + (A.drop l).length ≤ n → n < fu → lf < 1000 → ∃ v, c84_8 f fu x y (lf : Int) (k : Int) (l : Int) (S, G, m) = some (v, (S, G, m)) ∧ (lf < (mgD n (R.drop k) (A.drop l)).length → cEc R A v ((mgD n (R.drop k) (A.drop l)).getD lf (0, []))) := by
  have hR := h.2.2.2.2.1
  have hA := h2.2.2.2.2.1
  have hcap := h.2.2.2.2.2.1
  have hcap2 := h2.2.2.2.2.2.1
  intro n
  induction n with
  | zero =>
    intro k l lf fu hk hl hn hfu hlf
    obtain ⟨fu, rfl⟩ : ∃ t, fu = t + 1 := ⟨fu - 1, by omega⟩
    rw [List.length_drop, List.length_drop] at hn
    refine ⟨-1, ?_, fun z => absurd z (Nat.not_lt_zero _)⟩
    show c84_8b (c84_8 f fu) f _ _ _ _ _ _ = _
    unfold c84_8b
    rw [o_gi h.1, Option.bind_some, h.2.2.2.1.2.1, if_neg (by omega), o_gi h2.1, Option.bind_some, h2.2.2.2.1.2.1, if_pos (by omega)]
  | succ n ih =>
    intro k l lf fu hk hl hn hfu hlf
    obtain ⟨fu, rfl⟩ : ∃ t, fu = t + 1 := ⟨fu - 1, by omega⟩
    rw [List.length_drop, List.length_drop] at hn
    have ee : c84_8 f (fu + 1) x y (lf : Int) (k : Int) (l : Int) (S, G, m) = c84_8b (c84_8 f fu) f x y (lf : Int) (k : Int) (l : Int) (S, G, m) := rfl
    have ek : ((k : Nat) : Int) + 1 = ((k + 1 : Nat) : Int) := by omega
    have el : ((l : Nat) : Int) + 1 = ((l + 1 : Nat) : Int) := by omega
    rw [ee]
    unfold c84_8b c84_26
    rw [o_gi h.1, Option.bind_some, h.2.2.2.1.2.1, o_gi h2.1, Option.bind_some, h2.2.2.2.1.2.1]
    by_cases c1 : k < R.length
    · rw [if_pos (by omega), if_pos (by omega), Option.bind_some, drop_r c1]
      by_cases c2 : l < A.length
      · have hj := (h.2.2.2.2.2.2.2 k c1).1
        have hj2 := (h2.2.2.2.2.2.2.2 l c2).1
        have e72 := k_72 (m := m) (k := W) hf h h2 c1 c2 (Nat.le_refl _) (Nat.le_refl _)
        rw [List.take_of_length_le (by omega), List.take_of_length_le (by omega)] at e72
        have is : cq_is 5 4 x (S, G, m) = some () := if_pos h.1
        rw [if_pos (by omega), o_gi h.1, Option.bind_some, h.2.2.2.1.1, is, Option.bind_some, e72, Option.bind_some, drop_r c2]
        have cin := vCmp_in (R.getD k dRw).1 (A.getD l dRw).1
        have st := st_84a (r8 := c84_8 f fu) (f := f) (x := x) (y := y) (T := (S, G, m)) (k := (k : Int)) (l := (l : Int)) (lf := (lf : Int)) (c := vCmp (R.getD k dRw).1 (A.getD l dRw).1) (by omega) (by omega) (by omega) (by omega)
        show ∃ v, c84_65 (c84_8 f fu) f x y (lf : Int) (k : Int) (l : Int) (vCmp (R.getD k dRw).1 (A.getD l dRw).1) (S, G, m) = some (v, (S, G, m)) ∧ _
        rw [st]
        by_cases c0 : vCmp (R.getD k dRw).1 (A.getD l dRw).1 = 0
        · have eD : mgD (n + 1) (R.getD k dRw :: R.drop (k + 1)) (A.getD l dRw :: A.drop (l + 1)) = mgD n (R.drop (k + 1)) (A.drop (l + 1)) := by
            show (if _ then _ else _) = _
            rw [if_pos c0]
          rw [eD, if_pos c0, ek, el]
          exact ih (k + 1) (l + 1) lf fu (by omega) (by omega) (by rw [List.length_drop, List.length_drop]; omega) (by omega) hlf
        · rw [if_neg c0]
          by_cases c3 : vCmp (R.getD k dRw).1 (A.getD l dRw).1 < 0
          · have eD : mgD (n + 1) (R.getD k dRw :: R.drop (k + 1)) (A.getD l dRw :: A.drop (l + 1)) = (1, (R.getD k dRw).1) :: mgD n (R.drop (k + 1)) (A.drop l) := by
              show (if _ then _ else if _ then _ else _) = _
              rw [if_neg c0, if_pos c3, drop_r c2]
            rw [eD, if_pos c3, if_pos c3]
            by_cases c4 : lf = 0
            · subst c4
              rw [if_pos (by omega)]
              exact ⟨_, rfl, fun _ => ⟨k, .inl ⟨rfl, by omega, c1, rfl⟩⟩⟩
            · obtain ⟨g, rfl⟩ : ∃ g, lf = g + 1 := ⟨lf - 1, by omega⟩
              rw [if_neg (by omega), ek, show ((g + 1 : Nat) : Int) - 1 = ((g : Nat) : Int) by omega]
              obtain ⟨v, v1, v2⟩ := ih (k + 1) l g fu (by omega) (by omega) (by rw [List.length_drop, List.length_drop]; omega) (by omega) (by omega)
              exact ⟨v, v1, fun z => v2 (by rw [List.length_cons] at z; omega)⟩
          · have eD : mgD (n + 1) (R.getD k dRw :: R.drop (k + 1)) (A.getD l dRw :: A.drop (l + 1)) = (0, (A.getD l dRw).1) :: mgD n (R.drop k) (A.drop (l + 1)) := by
              show (if _ then _ else if _ then _ else _) = _
              rw [if_neg c0, if_neg c3, drop_r c1]
            rw [eD, if_neg c3, if_neg c3]
            by_cases c4 : lf = 0
            · subst c4
              rw [if_pos (by omega)]
              exact ⟨_, rfl, fun _ => ⟨l, .inr ⟨rfl, by omega, c2, rfl⟩⟩⟩
            · obtain ⟨g, rfl⟩ : ∃ g, lf = g + 1 := ⟨lf - 1, by omega⟩
              rw [if_neg (by omega), el, show ((g + 1 : Nat) : Int) - 1 = ((g : Nat) : Int) by omega]
              obtain ⟨v, v1, v2⟩ := ih k (l + 1) g fu (by omega) (by omega) (by rw [List.length_drop, List.length_drop]; omega) (by omega) (by omega)
              exact ⟨v, v1, fun z => v2 (by rw [List.length_cons] at z; omega)⟩
      · have eA : A.drop l = [] := List.drop_eq_nil_of_le (by omega)
        rw [if_neg (by omega), eA]
        have st := st_84a (r8 := c84_8 f fu) (f := f) (x := x) (y := y) (T := (S, G, m)) (k := (k : Int)) (l := (l : Int)) (lf := (lf : Int)) (c := -1) (by omega) (by omega) (by omega) (by omega)
        rw [st, if_neg (by decide), if_pos (show (-1 : Int) < 0 by decide), if_pos (show (-1 : Int) < 0 by decide)]
        show ∃ v, _ ∧ (lf < ((1, (R.getD k dRw).1) :: mgD n (R.drop (k + 1)) []).length → cEc R A v (((1, (R.getD k dRw).1) :: mgD n (R.drop (k + 1)) []).getD lf (0, [])))
        by_cases c4 : lf = 0
        · subst c4
          rw [if_pos (by omega)]
          exact ⟨_, rfl, fun _ => ⟨k, .inl ⟨rfl, by omega, c1, rfl⟩⟩⟩
        · obtain ⟨g, rfl⟩ : ∃ g, lf = g + 1 := ⟨lf - 1, by omega⟩
          rw [if_neg (by omega), ek, show ((g + 1 : Nat) : Int) - 1 = ((g : Nat) : Int) by omega]
          obtain ⟨v, v1, v2⟩ := ih (k + 1) l g fu (by omega) (by omega) (by rw [List.length_drop, List.length_drop]; omega) (by omega) (by omega)
          rw [eA] at v2
          exact ⟨v, v1, fun z => v2 (by rw [List.length_cons] at z; omega)⟩
    · have eR : R.drop k = [] := List.drop_eq_nil_of_le (by omega)
      rw [if_neg (by omega), eR]
      by_cases c2 : l < A.length
      · rw [if_neg (by omega), Option.bind_some, if_neg (by omega), drop_r c2]
        have st := st_84a (r8 := c84_8 f fu) (f := f) (x := x) (y := y) (T := (S, G, m)) (k := (k : Int)) (l := (l : Int)) (lf := (lf : Int)) (c := 1) (by omega) (by omega) (by omega) (by omega)
        rw [st, if_neg (by decide), if_neg (show ¬ (1 : Int) < 0 by decide), if_neg (show ¬ (1 : Int) < 0 by decide)]
        show ∃ v, _ ∧ (lf < ((0, (A.getD l dRw).1) :: mgD n [] (A.drop (l + 1))).length → cEc R A v (((0, (A.getD l dRw).1) :: mgD n [] (A.drop (l + 1))).getD lf (0, [])))
        by_cases c4 : lf = 0
        · subst c4
          rw [if_pos (by omega)]
          exact ⟨_, rfl, fun _ => ⟨l, .inr ⟨rfl, by omega, c2, rfl⟩⟩⟩
        · obtain ⟨g, rfl⟩ : ∃ g, lf = g + 1 := ⟨lf - 1, by omega⟩
          rw [if_neg (by omega), el, show ((g + 1 : Nat) : Int) - 1 = ((g : Nat) : Int) by omega]
          obtain ⟨v, v1, v2⟩ := ih k (l + 1) g fu (by omega) (by omega) (by rw [List.length_drop, List.length_drop]; omega) (by omega) (by omega)
          rw [eR] at v2
          exact ⟨v, v1, fun z => v2 (by rw [List.length_cons] at z; omega)⟩
      · have eA : A.drop l = [] := List.drop_eq_nil_of_le (by omega)
        rw [eA, Option.bind_some, if_pos (by omega)]
        exact ⟨-1, rfl, fun z => absurd z (Nat.not_lt_zero _)⟩
theorem k_84 {lf : Nat} (hf : 1100 < f) (h : cRw S G x W cap R) (h2 : cRw S G y W cap2 A) (hlf : lf < (mgD (R.length + A.length) R A).length) (hl2 : lf < 1000) : ∃ v, c84 f x y (lf : Int) (S, G, m) = some (v, (S, G, m)) ∧ cEc R A v ((mgD (R.length + A.length) R A).getD lf (0, [])) := by
  have hR := h.2.2.2.2.1
  have hA := h2.2.2.2.2.1
  have hcap := h.2.2.2.2.2.1
  have hcap2 := h2.2.2.2.2.2.1
  obtain ⟨v, v1, v2⟩ := k_84l (m := m) (f := f) (by omega) h h2 (R.length + A.length) 0 0 lf f (Nat.zero_le _) (Nat.zero_le _) (by rw [List.drop_zero, List.drop_zero]; omega) (by omega) hl2
  rw [List.drop_zero, List.drop_zero] at v2
  exact ⟨v, v1, v2 hlf⟩
end
