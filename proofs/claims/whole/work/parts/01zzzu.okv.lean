/-! Values of WAYS and of rows are values -/
theorem qEs_ok {v : Nat → Int} {nv : Nat} : ∀ (Q : pCd) (st st' : List Int), wC nv Q → (∀ k, (qVm Q).testBit k = true → vOk (v k)) → (∀ x ∈ st, vOk x) → qEs v Q st = some st' → ∀ x ∈ st', vOk x
  | [], st, st', _, _, h, e => by
    have : some st = some st' := e
    injection this with this
    rw [← this]
    exact h
  | y :: q, st, st', hw, hv, h, e => by
    have hq : ∀ k, (qVm q).testBit k = true → vOk (v k) := fun k hk => hv k (by
      show ((if y.1 = 2 then 2 ^ y.2.toNat else 0) ||| qVm q).testBit k = true
      rw [Nat.testBit_or, hk, Bool.or_true])
    have hwq : wC nv q := fun z hz => hw z (List.mem_cons_of_mem _ hz)
    unfold qEs at e
    by_cases c : y.1 = 3
    · rw [if_pos c] at e
      cases st with
      | nil => cases e
      | cons b st =>
        cases st with
        | nil => cases e
        | cons a st =>
          have e' : (qWk y.2 a b).bind (fun w => qEs v q (w :: st)) = some st' := e
          cases hk : qWk y.2 a b with
          | none => rw [hk] at e'; cases e'
          | some w =>
            rw [hk, Option.bind_some] at e'
            exact qEs_ok q _ _ hwq hq (fun x hx => by
              rcases List.mem_cons.mp hx with z | z
              · rw [z]; exact qWk_ok hk
              · exact h x (List.mem_cons_of_mem _ (List.mem_cons_of_mem _ z))) e'
    · rw [if_neg c] at e
      refine qEs_ok q _ _ hwq hq (fun x hx => ?_) e
      rcases List.mem_cons.mp hx with z | z
      · rw [z]
        by_cases c1 : y.1 = 1
        · rw [if_pos c1]
          rcases hw y List.mem_cons_self with u | u | u
          · exact u.2
          · omega
          · omega
        · have c2 : y.1 = 2 := by
            rcases hw y List.mem_cons_self with u | u | u
            · exact absurd u.1 c1
            · exact u.1
            · exact absurd u.1 c
          rw [if_neg c1]
          exact hv _ (by
            show ((if y.1 = 2 then 2 ^ y.2.toNat else 0) ||| qVm q).testBit y.2.toNat = true
            rw [if_pos c2, Nat.testBit_or, Nat.testBit_two_pow_self, Bool.true_or])
      · exact h x z
theorem qEv_ok {v : Nat → Int} {nv : Nat} {Q : pCd} {w : Int} (hw : wC nv Q) (hv : ∀ k, (qVm Q).testBit k = true → vOk (v k)) (h : qEv v Q = some w) : vOk w := by
  unfold qEv at h
  cases he : qEs v Q [] with
  | none => rw [he] at h; cases h
  | some st =>
    rw [he, Option.bind_some] at h
    cases st with
    | nil => cases h
    | cons x st =>
      have : some x = some w := h
      injection this with this
      rw [← this]
      exact qEs_ok Q _ _ hw hv (fun x hx => absurd hx (by simp)) he x List.mem_cons_self
theorem isW_ok {l : List pLt} {nv np : Nat} {R : Nat → List pRw} {op : Nat → pRw → Prop} {v : List Int} (hnv : nv ≤ 8) (hw : ∀ y ∈ l, wLt np nv y ∧ (y.1 ≠ 3 → 0 ≤ y.2.1)) (hsafe : ∀ k, k < nv → (qBd l).testBit k = true) (hR : ∀ p, p < np → ∀ w ∈ R p, ∀ x ∈ w.1, vOk x) (h : isW l nv R op v) : ∀ x ∈ v, vOk x := by
  obtain ⟨h1, h2, h3⟩ := h
  have sub : ∀ (l' : List pLt), (∀ y ∈ l', y ∈ l) → ∀ k, (qA l').testBit k = true → vOk (vF v k) := by
    intro l'
    induction l' with
    | nil =>
      intro _ k hk
      have : (0 : Nat).testBit k = true := hk
      rw [Nat.zero_testBit] at this
      cases this
    | cons y l' ih =>
      intro hl k hk
      have hk' : ((if y.1 = 1 then qT y.2.2.2.1 else 0) ||| qA l').testBit k = true := hk
      rw [Nat.testBit_or, Bool.or_eq_true] at hk'
      rcases hk' with hk' | hk'
      · by_cases c : y.1 = 1
        · rw [if_pos c] at hk'
          obtain ⟨j, j1, j2, j3⟩ := qT_get.mp hk'
          have hy := hl y List.mem_cons_self
          obtain ⟨w, w1, w2, w3⟩ := h2 y hy c
          have e := (w3 j j1).1 j2
          rw [j3] at e
          rw [e]
          by_cases cj : j < w.1.length
          · rw [getD_e cj]
            refine hR _ ?_ w w1 _ (List.getElem_mem cj)
            rcases (hw y hy).1 with z | z
            · have := (hw y hy).2 (by omega)
              omega
            · omega
          · rw [List.getD_eq_getElem?_getD, List.getElem?_eq_none (by omega)]
            exact vOk_0
        · rw [if_neg c, Nat.zero_testBit] at hk'
          cases hk'
      · exact ih (fun z hz => hl z (List.mem_cons_of_mem _ hz)) k hk'
  have s1 : ∀ y ∈ l, ∀ s, (∀ k, s.testBit k = true → vOk (vF v k)) → ∀ k, (qS1 y s).testBit k = true → vOk (vF v k) := by
    intro y hy s hs k hk
    unfold qS1 at hk
    by_cases c : y.1 = 3 ∧ y.2.1 = 61
    · rw [if_pos c] at hk
      have hwy : wEx nv y.2.2.2.2.1 ∧ wEx nv y.2.2.2.2.2 := by
        rcases (hw y hy).1 with z | z
        · omega
        · exact z.2.2
      obtain ⟨z, z1, z2⟩ := sCm_eq ((h3 y hy).2 c.1) c.2
      have lft : ∀ k, (qL1 y s).testBit k = true → vOk (vF v k) := fun k hk => by
        unfold qL1 at hk
        by_cases c1 : qAl2 y.2.2.2.2.1 ∧ qSub (qVm y.2.2.2.2.2) s
        · rw [if_pos c1, Nat.testBit_or, Bool.or_eq_true] at hk
          rcases hk with hk | hk
          · exact hs k hk
          · obtain ⟨x, x1, x2⟩ := qAl_is hwy.1.1 c1.1
            rw [x2] at hk z1
            have hk' : ((if (2 : Int) = 2 then 2 ^ ((x : Int)).toNat else 0) ||| 0).testBit k = true := hk
            rw [if_pos rfl, Int.toNat_natCast, Nat.or_zero, Nat.testBit_two_pow] at hk'
            have hk2 := of_decide_eq_true hk'
            have z1' : some (vF v x) = some z := z1
            injection z1' with z1'
            rw [← hk2, z1']
            exact qEv_ok hwy.2.1 (fun j hj => hs j (qSub_t.mp c1.2 j hj)) z2
        · rw [if_neg c1] at hk
          exact hs k hk
      unfold qR1 at hk
      by_cases c1 : qAl2 y.2.2.2.2.2 ∧ qSub (qVm y.2.2.2.2.1) (qL1 y s)
      · rw [if_pos c1, Nat.testBit_or, Bool.or_eq_true] at hk
        rcases hk with hk | hk
        · exact lft k hk
        · obtain ⟨x, x1, x2⟩ := qAl_is hwy.2.1 c1.1
          rw [x2] at hk z2
          have hk' : ((if (2 : Int) = 2 then 2 ^ ((x : Int)).toNat else 0) ||| 0).testBit k = true := hk
          rw [if_pos rfl, Int.toNat_natCast, Nat.or_zero, Nat.testBit_two_pow] at hk'
          have hk2 := of_decide_eq_true hk'
          have z2' : some (vF v x) = some z := z2
          injection z2' with z2'
          rw [← hk2, z2']
          exact qEv_ok hwy.1.1 (fun j hj => lft j (qSub_t.mp c1.2 j hj)) z1
      · rw [if_neg c1] at hk
        exact lft k hk
    · rw [if_neg c] at hk
      exact hs k hk
  have st : ∀ (l' : List pLt), (∀ y ∈ l', y ∈ l) → ∀ s, (∀ k, s.testBit k = true → vOk (vF v k)) → ∀ k, (qSt l' s).testBit k = true → vOk (vF v k) := by
    intro l'
    induction l' with
    | nil => exact fun _ s hs => hs
    | cons y l' ih => exact fun hl s hs => ih (fun z hz => hl z (List.mem_cons_of_mem _ hz)) _ (s1 y (hl y List.mem_cons_self) s hs)
  have it : ∀ (n s : Nat), (∀ k, s.testBit k = true → vOk (vF v k)) → ∀ k, (qIt l n s).testBit k = true → vOk (vF v k) := by
    intro n
    induction n with
    | zero => exact fun s hs => hs
    | succ n ih =>
      intro s hs k hk
      unfold qIt at hk
      by_cases c : qSt l s = s
      · rw [if_pos c] at hk; exact hs k hk
      · rw [if_neg c] at hk
        exact ih _ (st l (fun _ h => h) s hs) k hk
  intro x hx
  obtain ⟨k, hk, rfl⟩ := List.getElem_of_mem hx
  have := it 256 (qA l) (sub l (fun _ h => h)) k (hsafe k (by omega))
  unfold vF at this
  rw [getD_e hk] at this
  exact this
theorem qMk_ok {I : List pCd} {g : Int} {nv : Nat} {v : Nat → Int} (hw : ∀ k, k < I.length → (k : Int) ≠ g → wEx nv (I.getD k [])) (hv : ∀ k, k < nv → vOk (v k)) : ∀ (k : Nat) (xs : List Int), k ≤ I.length → qMk I g v k = some xs → ∀ x ∈ xs, vOk x
  | 0, xs, _, h => by
    have : some [] = some xs := h
    injection this with this
    rw [← this]
    exact fun x hx => absurd hx (by simp)
  | k + 1, xs, hk, h => by
    have h' : ((qMk I g v k).bind fun xs => if (k : Int) = g then some (xs ++ [0]) else (qEv v (I.getD k [])).bind fun z => some (xs ++ [z])) = some xs := h
    cases hq : qMk I g v k with
    | none => rw [hq] at h'; cases h'
    | some ys =>
      rw [hq, Option.bind_some] at h'
      have ih := qMk_ok hw hv k ys (by omega) hq
      have app : ∀ z, vOk z → ∀ x ∈ ys ++ [z], vOk x := fun z hz x hx => by
        rcases List.mem_append.mp hx with u | u
        · exact ih x u
        · rw [List.mem_singleton.mp u]; exact hz
      by_cases c : (k : Int) = g
      · rw [if_pos c] at h'
        injection h' with h'
        rw [← h']
        exact app 0 vOk_0
      · rw [if_neg c] at h'
        have hq := (hw k (by omega) c).1
        cases he : qEv v (I.getD k []) with
        | none => rw [he] at h'; cases h'
        | some z =>
          rw [he, Option.bind_some] at h'
          injection h' with h'
          rw [← h']
          exact app z (qEv_ok hq (fun j hj => hv j (qVm_in hq j hj)) he)
/-- the least and the most are values of the group; a count is no more than all -/
theorem gAg_in {kk : Int} (hkk : kk = 3 ∨ kk = 4) : ∀ (l : List Int), l ≠ [] → gAg kk l ∈ l := by
  have key : ∀ (l : List Int) (a : Int), l.foldl (qCo kk) a = a ∨ l.foldl (qCo kk) a ∈ l := by
    intro l
    induction l with
    | nil => exact fun a => .inl rfl
    | cons x l ih =>
      intro a
      have h : qCo kk a x = a ∨ qCo kk a x = x := by
        unfold qCo
        rcases hkk with k | k
        · rw [if_neg (by omega), if_pos k]; split <;> omega
        · rw [if_neg (by omega), if_neg (by omega)]; split <;> omega
      show l.foldl (qCo kk) (qCo kk a x) = a ∨ l.foldl (qCo kk) (qCo kk a x) ∈ x :: l
      rcases ih (qCo kk a x) with q | q
      · rw [q]
        rcases h with h | h
        · exact .inl h
        · rw [h]; exact .inr List.mem_cons_self
      · exact .inr (List.mem_cons_of_mem _ q)
  intro l hl
  cases l with
  | nil => exact absurd rfl hl
  | cons x l =>
    rcases key l x with q | q
    · show l.foldl (qCo kk) x ∈ _
      rw [q]; exact List.mem_cons_self
    · exact List.mem_cons_of_mem _ q
theorem gAg_one : ∀ (l : List Int), (∀ x ∈ l, x = 1) → gAg 1 l = (l.length : Int)
  | [], _ => rfl
  | x :: l, h => by
    have key : ∀ (l : List Int) (a : Int), (∀ x ∈ l, x = 1) → l.foldl (qCo 1) a = a + (l.length : Int) := by
      intro l
      induction l with
      | nil => intro a _; show a = a + 0; omega
      | cons y l ih =>
        intro a h
        show l.foldl (qCo 1) (qCo 1 a y) = _
        rw [ih _ (fun z hz => h z (List.mem_cons_of_mem _ hz)), h y List.mem_cons_self]
        unfold qCo
        rw [if_pos (Or.inl rfl), List.length_cons]
        omega
    show l.foldl (qCo 1) x = _
    rw [key l x (fun z hz => h z (List.mem_cons_of_mem _ hz)), h x List.mem_cons_self, List.length_cons]
    omega
