/-! RINGS: what their rows hang on; there is but one outcome -/
theorem isW_cg {l : List pLt} {nv : Nat} {R R' : Nat → List pRw} {v : List Int} (h : ∀ y ∈ l, y.1 ≠ 3 → R y.2.1.toNat = R' y.2.1.toNat) : isW l nv R qO1 v → isW l nv R' qO1 v := by
  rintro ⟨h1, h2, h3⟩
  refine ⟨h1, fun y hy c => ?_, fun y hy => ⟨fun c => ?_, (h3 y hy).2⟩⟩
  · rw [← h y hy (by omega)]
    exact h2 y hy c
  · rw [← h y hy (by omega)]
    exact (h3 y hy).1 c
theorem isW_ci {l : List pLt} {nv : Nat} {R R' : Nat → List pRw} {v : List Int} (h : ∀ y ∈ l, y.1 ≠ 3 → R y.2.1.toNat = R' y.2.1.toNat) : isW l nv R qO1 v ↔ isW l nv R' qO1 v := ⟨isW_cg h, isW_cg (fun y hy c => (h y hy c).symm)⟩
theorem rlD_cg {u : pRu} {R R' : Nat → List pRw} {xs : List Int} (h : ∀ y ∈ u.2.2.2.2.2, y.1 ≠ 3 → R y.2.1.toNat = R' y.2.1.toNat) : rlD u R xs ↔ rlD u R' xs := by
  unfold rlD
  by_cases c : qG u = 0
  · rw [if_pos c, if_pos c]
    constructor
    · rintro ⟨v, v1, v2⟩
      exact ⟨v, (isW_ci h).mp v1, v2⟩
    · rintro ⟨v, v1, v2⟩
      exact ⟨v, (isW_ci h).mpr v1, v2⟩
  · rw [if_neg c, if_neg c]
    have ha : ∀ V, isAll u.2.2.2.2.2 u.2.2.2.2.1.length R qO1 V ↔ isAll u.2.2.2.2.2 u.2.2.2.2.1.length R' qO1 V := fun V => by
      unfold isAll
      constructor
      · exact fun ⟨a, b⟩ => ⟨a, fun v => (b v).trans (isW_ci h)⟩
      · exact fun ⟨a, b⟩ => ⟨a, fun v => (b v).trans (isW_ci h).symm⟩
    unfold gDs
    constructor
    · rintro ⟨ks, V, v1, v2⟩
      exact ⟨ks, V, (ha V).mp v1, v2⟩
    · rintro ⟨ks, V, v1, v2⟩
      exact ⟨ks, V, (ha V).mpr v1, v2⟩
/-- y is read by a rule whose HEAD is in the ring -/
def rgR (s : pPg) (rg : Nat) (y : Nat) : Prop := ∃ u ∈ s.2.2.2.2.1, qK s u.1.toNat = rg ∧ ∃ z ∈ u.2.2.2.2.2, z.1 ≠ 3 ∧ z.2.1.toNat = y
section
variable {s : pPg} {rg : Nat} {st : Int} {R R' R0 R0' : Nat → List pRw}
theorem stD_cg {rm p : Nat} {xs : List Int} (h1 : ∀ y, rgR s rg y → R y = R' y) (h2 : p < s.1.length → qK s p = rg → R p = R' p) (hp : p < s.1.length) : stD s rg st R rm p xs ↔ stD s rg st R' rm p xs := by
  have key : ∀ {R R' : Nat → List pRw}, (∀ y, rgR s rg y → R y = R' y) → (qK s p = rg → R p = R' p) → stD s rg st R rm p xs → stD s rg st R' rm p xs := by
    rintro R R' h1 h2 ⟨r, a1, a2, a3, a4, a5, a6, a7⟩
    have hm : s.2.2.2.2.1.getD r dRu ∈ s.2.2.2.2.1 := by rw [getD_e a2]; exact List.getElem_mem a2
    refine ⟨r, a1, a2, a3, a4, a5, (rlD_cg (fun y hy c => h1 _ ⟨_, hm, by rw [a3]; exact a4, y, hy, c, rfl⟩)).mp a6, ?_⟩
    unfold rNw
    rw [← h2 a4]
    exact a7
  exact ⟨key h1 (h2 hp), key (fun y hy => (h1 y hy).symm) (fun h => (h2 hp h).symm)⟩
theorem lv_out {p : Nat} (h : isLv s rg st R R') (hp : p < s.1.length) (hk : qK s p ≠ rg) (hs : (R p).Pairwise rwLt) : R' p = R p := by
  obtain ⟨a1, a2⟩ := h p hp
  refine srt_ext rwLt_irr (fun _ _ _ => rwLt_tr) _ _ a1 hs (fun y => ?_)
  rw [a2]
  constructor
  · rintro (q | ⟨_, r, _, _, _, q, _⟩)
    · exact q
    · exact absurd q hk
  · exact .inl
/-- rows of other rings stay -/
theorem wkC_out (hs : ∀ p, p < s.1.length → (R0 p).Pairwise rwLt) : ∀ (n : Nat) (R : Nat → List pRw), wkC s rg R0 n R → (∀ p, p < s.1.length → (R p).Pairwise rwLt) ∧ ∀ p, p < s.1.length → qK s p ≠ rg → R p = R0 p
  | 0, R, h => ⟨fun p hp => by rw [h p hp]; exact hs p hp, fun p hp _ => h p hp⟩
  | n + 1, R, h => by
    obtain ⟨R1, h1, _, h3⟩ := h
    obtain ⟨a1, a2⟩ := wkC_out hs n R1 h1
    exact ⟨fun p hp => (h3 p hp).1, fun p hp hk => by rw [lv_out h3 hp hk (a1 p hp)]; exact a2 p hp hk⟩
/-- the same levels over rows that are the same where the ring looks -/
theorem wkC_cg (hrd : ∀ y, rgR s rg y → y < s.1.length) (hs : ∀ p, p < s.1.length → (R0 p).Pairwise rwLt) (hs' : ∀ p, p < s.1.length → (R0' p).Pairwise rwLt) (h0 : ∀ p, p < s.1.length → (qK s p = rg ∨ rgR s rg p) → R0 p = R0' p) : ∀ (n : Nat) (R : Nat → List pRw), wkC s rg R0 n R → ∃ R', wkC s rg R0' n R' ∧ (∀ p, p < s.1.length → qK s p = rg → R' p = R p) ∧ ∀ p, p < s.1.length → (qK s p = rg ∨ rgR s rg p) → R' p = R p
  | 0, R, h => ⟨R0', fun _ _ => rfl, fun p hp hk => by rw [h p hp]; exact (h0 p hp (.inl hk)).symm, fun p hp hk => by rw [h p hp]; exact (h0 p hp hk).symm⟩
  | n + 1, R, h => by
    obtain ⟨R1, h1, ⟨p0, xs0, q1, q2⟩, h3⟩ := h
    obtain ⟨R1', k1, k2, k3⟩ := wkC_cg hrd hs hs' h0 n R1 h1
    obtain ⟨a1, a2⟩ := wkC_out hs n R1 h1
    obtain ⟨b1, b2⟩ := wkC_out hs' n R1' k1
    have hst : ∀ rm p xs, p < s.1.length → (stD s rg ((n + 1 : Nat) : Int) R1 rm p xs ↔ stD s rg ((n + 1 : Nat) : Int) R1' rm p xs) := fun rm p xs hp => stD_cg (fun y hy => (k3 y (hrd y hy) (.inr hy)).symm) (fun hp hk => (k2 p hp hk).symm) hp
    let R' : Nat → List pRw := fun p => if qK s p = rg then R p else R1' p
    have eo : ∀ p, qK s p = rg → R' p = R p := fun p hk => if_pos hk
    have en : ∀ p, qK s p ≠ rg → R' p = R1' p := fun p hk => if_neg hk
    refine ⟨R', ⟨R1', k1, ⟨p0, xs0, q1, (hst _ _ _ q1).mp q2⟩, fun p hp => ?_⟩, fun p hp hk => eo p hk, fun p hp hk => ?_⟩
    · by_cases c : qK s p = rg
      · rw [eo p c]
        obtain ⟨w1, w2⟩ := h3 p hp
        refine ⟨w1, fun y => ?_⟩
        rw [w2, k2 p hp c, hst _ _ _ hp]
      · rw [en p c]
        refine ⟨b1 p hp, fun y => ⟨.inl, ?_⟩⟩
        rintro (q | ⟨_, r, _, _, _, q, _⟩)
        · exact q
        · exact absurd q c
    · by_cases c : qK s p = rg
      · exact eo p c
      · rw [en p c, k3 p hp hk, lv_out h3 hp c (a1 p hp)]
/-- levels are what they are -/
theorem wkC_det (hrd : ∀ y, rgR s rg y → y < s.1.length) : ∀ (n : Nat) (R R' : Nat → List pRw), wkC s rg R0 n R → wkC s rg R0 n R' → ∀ p, p < s.1.length → R p = R' p
  | 0, R, R', h, h', p, hp => by rw [h p hp, h' p hp]
  | n + 1, R, R', h, h', p, hp => by
    obtain ⟨R1, h1, _, h3⟩ := h
    obtain ⟨R1', k1, _, k3⟩ := h'
    have ih := wkC_det hrd n R1 R1' h1 k1
    obtain ⟨a1, a2⟩ := h3 p hp
    obtain ⟨b1, b2⟩ := k3 p hp
    refine srt_ext rwLt_irr (fun _ _ _ => rwLt_tr) _ _ a1 b1 (fun y => ?_)
    rw [a2, b2, ih p hp]
    rw [stD_cg (fun y hy => ih y (hrd y hy)) (fun hp _ => ih p hp) hp]
theorem wkC_pre : ∀ (n : Nat) (R : Nat → List pRw), wkC s rg R0 n R → ∀ m, m ≤ n → ∃ Rm, wkC s rg R0 m Rm ∧ (m < n → ∃ p xs, p < s.1.length ∧ stD s rg ((m + 1 : Nat) : Int) Rm s.2.2.2.2.1.length p xs) ∧ ∀ p, p < s.1.length → ∀ y, y ∈ Rm p → y ∈ R p
  | 0, R, h, m, hm => by
    have : m = 0 := by omega
    subst this
    exact ⟨R, h, fun q => by omega, fun _ _ _ h => h⟩
  | n + 1, R, h, m, hm => by
    by_cases c : m = n + 1
    · subst c
      exact ⟨R, h, fun q => by omega, fun _ _ _ h => h⟩
    · obtain ⟨R1, h1, h2, h3⟩ := h
      obtain ⟨Rm, k1, k2, k3⟩ := wkC_pre n R1 h1 m (by omega)
      by_cases c2 : m = n
      · subst c2
        exact ⟨R1, h1, fun _ => h2, fun p hp y hy => ((h3 p hp).2 y).mpr (.inl hy)⟩
      · exact ⟨Rm, k1, fun _ => k2 (by omega), fun p hp y hy => ((h3 p hp).2 y).mpr (.inl (k3 p hp y hy))⟩
theorem wkE_det (hrd : ∀ y, rgR s rg y → y < s.1.length) (h : wkE s rg R0 R) (h' : wkE s rg R0 R') : ∀ p, p < s.1.length → R p = R' p := by
  obtain ⟨n, a1, a2⟩ := h
  obtain ⟨n', b1, b2⟩ := h'
  have no : ∀ {n n' : Nat} {R R' : Nat → List pRw}, wkC s rg R0 n R → (∀ p xs, p < s.1.length → ¬ stD s rg ((n + 1 : Nat) : Int) R s.2.2.2.2.1.length p xs) → wkC s rg R0 n' R' → ¬ n < n' := by
    intro n n' R R' a1 a2 b1 hlt
    obtain ⟨Rm, k1, k2, _⟩ := wkC_pre n' R' b1 n (by omega)
    obtain ⟨p, xs, p1, p2⟩ := k2 hlt
    have e := wkC_det hrd n Rm R k1 a1
    exact a2 p xs p1 ((stD_cg (fun y hy => e y (hrd y hy)) (fun hp _ => e p hp) p1).mp p2)
  have h1 := no a1 a2 b1
  have h2 := no b1 b2 a1
  have : n = n' := by omega
  subst this
  exact wkC_det hrd n R R' a1 b1
theorem nodup_len {α : Type} [DecidableEq α] : ∀ (l l' : List α), l.Nodup → (∀ x ∈ l, x ∈ l') → l.length ≤ l'.length
  | [], _, _, _ => Nat.zero_le _
  | x :: l, l', h, hs => by
    rw [List.nodup_cons] at h
    have hx := hs x List.mem_cons_self
    have h1 := nodup_len l (l'.erase x) h.2 (fun y hy => by
      have hne : y ≠ x := fun e => h.1 (e ▸ hy)
      exact (List.mem_erase_of_ne hne).mpr (hs y (List.mem_cons_of_mem _ hy)))
    rw [List.length_erase_of_mem hx] at h1
    have := List.length_pos_of_mem hx
    rw [List.length_cons]
    omega
/-- too many at a level: no end within the LIMIT -/
theorem wkO_no (hrd : ∀ y, rgR s rg y → y < s.1.length) (hs : ∀ p, p < s.1.length → (R0 p).Pairwise rwLt) (hhd : ∀ u ∈ s.2.2.2.2.1, 0 ≤ u.1 ∧ u.1 < s.1.length) (h : wkO s rg R0) (h' : wkE s rg R0 R) (hl : ∀ p, p < s.1.length → (R p).length ≤ 100) : False := by
  obtain ⟨n1, R1, a1, F, p, a2, a3, a4, a5⟩ := h
  obtain ⟨n, b1, b2⟩ := h'
  have stp : ∀ {st : Int} {R : Nat → List pRw} {p : Nat} {xs : List Int}, stD s rg st R s.2.2.2.2.1.length p xs → p < s.1.length := by
    rintro st R p xs ⟨r, _, r2, r3, _⟩
    have := hhd _ (List.getElem_mem r2)
    rw [← getD_e (d := dRu) r2, r3] at this
    omega
  by_cases c : n1 < n
  · obtain ⟨R2, ⟨R1', k1, k2, k3⟩, _, k5⟩ := wkC_pre n R b1 (n1 + 1) (by omega)
    have e := wkC_det hrd n1 R1' R1 k1 a1
    obtain ⟨w1, w2⟩ := k3 p a3
    have hsub : ∀ x ∈ R1 p ++ (F.filter (fun y => decide (y.1 = p))).map (fun y => (y.2, ((n1 + 1 : Nat) : Int))), x ∈ R p := fun x hx => by
      refine k5 p a3 x ((w2 x).mpr ?_)
      rcases List.mem_append.mp hx with q | q
      · rw [e p a3]; exact .inl q
      · obtain ⟨y, y1, rfl⟩ := List.mem_map.mp q
        obtain ⟨y2, y3⟩ := List.mem_filter.mp y1
        have ep : y.1 = p := of_decide_eq_true y3
        have hy := a4 y y2
        rw [ep] at hy
        exact .inr ⟨rfl, (stD_cg (fun z hz => (e z (hrd z hz)).symm) (fun hp _ => (e p hp).symm) a3).mp hy⟩
    have hnd : (R1 p ++ (F.filter (fun y => decide (y.1 = p))).map (fun y => (y.2, ((n1 + 1 : Nat) : Int)))).Nodup := by
      rw [List.nodup_append]
      refine ⟨?_, ?_, ?_⟩
      · rw [← e p a3]
        have srt : (R1' p).Pairwise rwLt := (wkC_out hs n1 R1' k1).1 p a3
        refine List.nodup_iff_pairwise_ne.mpr (List.Pairwise.imp (S := fun x y => x ≠ y) (fun {a b} h => ?_) srt)
        intro q
        rw [q] at h
        exact rwLt_irr _ h
      · rw [List.nodup_iff_pairwise_ne, List.pairwise_map]
        refine (List.nodup_iff_pairwise_ne.mp (a2.filter _)).imp_of_mem (fun {a b} ha hb hab q => hab ?_)
        have ea := of_decide_eq_true (List.mem_filter.mp ha).2
        have eb := of_decide_eq_true (List.mem_filter.mp hb).2
        exact Prod.ext (ea.trans eb.symm) (congrArg Prod.fst q)
      · intro a ha b hb hab
        obtain ⟨y, y1, rfl⟩ := List.mem_map.mp hb
        obtain ⟨y2, y3⟩ := List.mem_filter.mp y1
        have ep : y.1 = p := of_decide_eq_true y3
        obtain ⟨_, _, _, _, _, _, _, hn⟩ := a4 y y2
        rw [ep] at hn
        exact hn a ha (by rw [hab])
    have := nodup_len _ _ hnd hsub
    rw [List.length_append, List.length_map, ← List.countP_eq_length_filter] at this
    have := hl p a3
    unfold fCt at a5
    omega
  · by_cases c2 : n1 = n
    · subst c2
      have e := wkC_det hrd n1 R1 R a1 b1
      have := hl p a3
      rw [← e p a3] at this
      have hpos : 0 < fCt F p := by omega
      obtain ⟨y, y1, y2⟩ := fCt_pos.mp hpos
      have hy := a4 y y1
      have hyp := stp hy
      exact b2 y.1 y.2 hyp ((stD_cg (fun z hz => e z (hrd z hz)) (fun hp _ => e _ hp) hyp).mp hy)
    · obtain ⟨Rm, k1, k2, _⟩ := wkC_pre n1 R1 a1 n (by omega)
      obtain ⟨p', xs, p1, p2⟩ := k2 (by omega)
      have e := wkC_det hrd n Rm R k1 b1
      exact b2 p' xs p1 ((stD_cg (fun y hy => e y (hrd y hy)) (fun hp _ => e p' hp) p1).mp p2)
end
