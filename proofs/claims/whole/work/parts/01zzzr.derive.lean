/-! Rules of the reference: the rows that one gives -/
/-- xs is no row of p -/
def rNw (R : Nat → List pRw) (p : Nat) (xs : List Int) : Prop := ∀ w, w ∈ R p → w.1 ≠ xs
/-- what a rule with the HEAD p comes to, giving the rows D, if F came before: new rows, or too many -/
def rOt (np : Nat) (N : Nat → Nat) (R : Nat → List pRw) (F : List pFw) (p : Nat) (D : List Int → Prop) (G : xG_) : Prop :=
  (G 0 43 = 0 ∧ ∃ F', rFr G np N R F' ∧ F'.Nodup ∧ ∀ y, y ∈ F' ↔ y ∈ F ∨ (y.1 = p ∧ D y.2 ∧ rNw R p y.2)) ∨ (G 0 43 ≠ 0 ∧ ∃ F' : List pFw, F'.Nodup ∧ (∀ y, y ∈ F' → y ∈ F ∨ (y.1 = p ∧ D y.2 ∧ rNw R p y.2)) ∧ 100 < (R p).length + fCt F' p)
theorem rOt.ge {np p : Nat} {N : Nat → Nat} {R : Nat → List pRw} {F : List pFw} {D : List Int → Prop} {G G' : xG_} (h : rOt np N R F p D G) (h43 : G' 0 43 = G 0 43) (h47 : G' 0 47 = G 0 47) (hf : ∀ a j, 113 ≤ a → a ≤ 115 → G' a j = G a j) : rOt np N R F p D G' := by
  rcases h with ⟨a1, F', a2, a3⟩ | ⟨a1, a2⟩
  · exact .inl ⟨by rw [h43]; exact a1, F', a2.ge h47 hf, a3⟩
  · exact .inr ⟨by rw [h43]; exact a1, a2⟩
theorem rOt.iff {np p : Nat} {N : Nat → Nat} {R : Nat → List pRw} {F : List pFw} {D D' : List Int → Prop} {G : xG_} (h : rOt np N R F p D G) (he : G 0 43 = 0 → ∀ xs, D xs ↔ D' xs) (hi : ∀ xs, D xs → D' xs) : rOt np N R F p D' G := by
  rcases h with ⟨a1, F', a2, a3, a4⟩ | ⟨a1, F', a2, a3, a4⟩
  · refine .inl ⟨a1, F', a2, a3, fun y => ?_⟩
    rw [a4 y, he a1 y.2]
  · refine .inr ⟨a1, F', a2, fun y hy => ?_, a4⟩
    rcases a3 y hy with b | ⟨b1, b2, b3⟩
    · exact .inl b
    · exact .inr ⟨b1, hi _ b2, b3⟩
section
variable {f nv np r c m p : Nat} {I : List pCd} {N : Nat → Nat} {R : Nat → List pRw} {F : List pFw}
/-- one more row given -/
theorem rOt.row {G : xG_} {D : List Int → Prop} {xs : List Int} (hf : 4000 < f) (hnp : np ≤ 16) (hp : p < np) (hT : rTb G np N R) (hN : G 4 p = (N p : Int)) (h : rOt np N R F p D G) (h43 : G 0 43 = 0) (hx : ∀ k, k < xs.length → G 112 k = xs.getD k 0) (hxn : xs.length = N p) :
    ∃ G', g284 f (p : Int) G = some G' ∧ (∀ o j, ¬ (o = 0 ∧ (j = 43 ∨ j = 47)) → ¬ (113 ≤ o ∧ o ≤ 115) → G' o j = G o j) ∧ rOt np N R F p (fun z => D z ∨ z = xs) G' := by
  rcases h with ⟨a1, F', a2, a3, a4⟩ | ⟨a1, _⟩
  · obtain ⟨G', k1, k2, k3⟩ := l_284 (f := f) hf hnp hp hT hN a2 hx hxn
    refine ⟨G', k1, k2, ?_⟩
    rcases k3 with ⟨k3, k4⟩ | ⟨k3, k4, k5⟩
    · rw [k4]
      refine .inl ⟨a1, F', a2, a3, fun y => ?_⟩
      rw [a4 y]
      constructor
      · rintro (q | ⟨q1, q2, q3⟩)
        · exact .inl q
        · exact .inr ⟨q1, .inl q2, q3⟩
      · rintro (q | ⟨q1, q2 | q2, q3⟩)
        · exact .inl q
        · exact .inr ⟨q1, q2, q3⟩
        · rcases k3 with ⟨w, w1, w2⟩ | k3
          · exact absurd (w2.trans q2.symm) (q3 w w1)
          · have : y = (p, xs) := Prod.ext q1 q2
            rw [this]
            exact (a4 _).mp k3
    · have nd : (F' ++ [(p, xs)]).Nodup := by
        rw [List.nodup_append]
        refine ⟨a3, List.nodup_cons.mpr ⟨by simp, List.nodup_nil⟩, fun a ha b hb hab => ?_⟩
        rw [List.mem_singleton.mp hb] at hab
        exact k4 (hab ▸ ha)
      have mem : ∀ y, y ∈ F' ++ [(p, xs)] ↔ y ∈ F ∨ (y.1 = p ∧ (D y.2 ∨ y.2 = xs) ∧ rNw R p y.2) := fun y => by
        rw [List.mem_append, a4 y, List.mem_singleton]
        constructor
        · rintro ((q | ⟨q1, q2, q3⟩) | q)
          · exact .inl q
          · exact .inr ⟨q1, .inl q2, q3⟩
          · rw [q]; exact .inr ⟨rfl, .inr rfl, k3⟩
        · rintro (q | ⟨q1, q2 | q2, q3⟩)
          · exact .inl (.inl q)
          · exact .inl (.inr ⟨q1, q2, q3⟩)
          · exact .inr (Prod.ext q1 q2)
      rcases k5 with ⟨k5, k6⟩ | ⟨k5, k6⟩
      · refine .inr ⟨by rw [k6]; decide, F' ++ [(p, xs)], nd, fun y hy => (mem y).mp hy, ?_⟩
        have : fCt (F' ++ [(p, xs)]) p = fCt F' p + 1 := by
          unfold fCt
          rw [List.countP_append, List.countP_cons_of_pos (by simp)]
          rfl
        omega
      · exact .inl ⟨by rw [k5]; exact a1, F' ++ [(p, xs)], k6, nd, mem⟩
  · exact absurd h43 a1
/-- a rule that doesn't gather: its WAYS, all used -/
theorem l_der {K : Nat → Nat} {l : List pLt} {G : xG_} (hf : 6300 < f) (hr : r < 25) (hnv : nv ≤ 8) (hnp : np ≤ 16) (hc : c ≤ 6200) (hat : pAtoms l ≤ 3) (hw : ∀ y ∈ l, wLt np nv y ∧ (y.1 ≠ 3 → 0 ≤ y.2.1)) (hsafe : ∀ k, k < nv → (qBd l).testBit k = true) (hL : rLs G 2 r c l)
    (hI : rHd G r c I (-1)) (hwI : ∀ k, k < I.length → wEx nv (I.getD k [])) (h15 : G 15 r = (p : Int)) (hp : p < np) (hIN : I.length = N p) (hN : G 4 p = (N p : Int)) (h38 : G 0 38 = 1) (h39 : G 0 39 = (r : Int)) (h40 : G 0 40 = -1) (hT : rTb G np N R) (hR : ∀ p, p < np → (R p).length ≤ 100 ∧ ∀ w ∈ R p, ∀ x ∈ w.1, vOk x) (h37 : G 0 37 = 0) (h43 : G 0 43 = 0) (hF : rFr G np N R F) (hnd : F.Nodup) :
    ∃ G', g275 f 0 G = some G' ∧ xE G G' ∧ G' 0 37 = 0 ∧ rOt np N R F p (fun xs => ∃ v, isW l nv R (qOp K (-1) 0) v ∧ qMk I (-1) (vF v) I.length = some xs ∧ ∀ x ∈ xs, vOk x) G' := by
  have hI4 := hI.2.1
  obtain ⟨G', V, u1, u2, u3, u4, u5, u6, u7, u8⟩ := l_275 (f := f) (K := K) (ra := -1) (rb := 0) (P := fun W Z => rOt np N R F p (fun xs => ∃ v ∈ W, qMk I (-1) (vF v) I.length = some xs ∧ ∀ x ∈ xs, vOk x) Z) hf hr hnv hnp hc hat hw hsafe hL h39 h40 (fun q => absurd rfl q) (fun q => absurd rfl q) hT hR
    (fun W Z Z' h hz => h.ge (hz _ _ (by omega) (by omega) (by omega)) (hz _ _ (by omega) (by omega) (by omega)) (fun a j _ _ => hz _ _ (by omega) (by omega) (by omega)))
    (fun W G1 m hPW h43 hE hm hfull hs hWl => by
      have hI1 : rHd G1 r c I (-1) := hI.v (fun a j _ _ => hE _ _ (by omega) (by omega))
      have h391 : G1 0 39 = (r : Int) := by rw [hE _ _ (by omega) (by omega)]; exact h39
      obtain ⟨G2, b, k1, k2, k3⟩ := l_282 (f := f) hf hr hnv hc hI1 (fun k hk _ => hwI k hk) h391 hm hfull
      have h38' : G1 0 38 = 1 := by rw [hE _ _ (by omega) (by omega)]; exact h38
      have e1 : g283 f G1 = if b = 0 then some G2 else (g284 f (p : Int) G2).bind fun R128 => some R128 := by
        have t39 : G2 0 39 = (r : Int) := by rw [k2 _ _ (by omega) (by omega) (by omega)]; exact h391
        have t15 : G2 15 r = (p : Int) := by rw [k2 _ _ (by omega) (by omega) (by omega), hE _ _ (by omega) (by omega)]; exact h15
        unfold g283 g283_118
        rw [h38', if_neg (by decide), if_pos rfl, k1, Option.bind_some]
        show (if b = 0 then _ else (if 0 ≤ G2 0 39 ∧ G2 0 39 < 25 then (g284 f (G2 15 (G2 0 39).toNat) G2).bind _ else none)) = _
        have hrr : 0 ≤ (r : Int) ∧ (r : Int) < 25 := by omega
        rw [t39, if_pos hrr, Int.toNat_natCast, t15]
      have hmk : qMk I (-1) (vF (vOf G1 nv)) I.length = qMk I (-1) (G1 110) I.length := qMk_xt (nv := nv) (fun k hk _ => hwI k hk) (fun k hk => vOf_get hk) I.length (Nat.le_refl _)
      have hP2 : rOt np N R F p (fun xs => ∃ v ∈ W, qMk I (-1) (vF v) I.length = some xs ∧ ∀ x ∈ xs, vOk x) G2 := hPW.ge (k2 _ _ (by omega) (by omega) (by omega)) (k2 _ _ (by omega) (by omega) (by omega)) (fun a j _ _ => k2 _ _ (by omega) (by omega) (by omega))
      rcases k3 with ⟨xs, b1, b2, b3, b4⟩ | ⟨b1, b2⟩
      · have hxl := qMk_len _ _ b2
        have hxv : ∀ x ∈ xs, vOk x := fun x hx => by
          obtain ⟨k, hk, rfl⟩ := List.getElem_of_mem hx
          have := b4 k (by omega)
          rw [getD_e hk] at this
          exact this
        obtain ⟨G3, g1, g2, g3⟩ := rOt.row (f := f) (xs := xs) (by omega) hnp hp (hT.ge (fun a j _ _ => by rw [k2 _ _ (by omega) (by omega) (by omega), hE _ _ (by omega) (by omega)])) (by rw [k2 _ _ (by omega) (by omega) (by omega), hE _ _ (by omega) (by omega)]; exact hN) hP2 (by rw [k2 _ _ (by omega) (by omega) (by omega)]; exact h43) (fun k hk => b3 k (by omega) (by omega)) (by omega)
        refine ⟨G3, by rw [e1, if_neg (by omega), g1]; rfl, ?_, fun o j y1 y2 => by rw [g2 o j (by omega) (by omega), k2 o j (by omega) (by omega) (by omega)]⟩
        have eqv : ∀ zs, ((∃ v ∈ W, qMk I (-1) (vF v) I.length = some zs ∧ ∀ x ∈ zs, vOk x) ∨ zs = xs) ↔ ∃ v ∈ W ++ [vOf G1 nv], qMk I (-1) (vF v) I.length = some zs ∧ ∀ x ∈ zs, vOk x := fun zs => by
          constructor
          · rintro (⟨v, v1, v2⟩ | q)
            · exact ⟨v, List.mem_append.mpr (.inl v1), v2⟩
            · exact ⟨vOf G1 nv, List.mem_append.mpr (.inr (List.mem_singleton.mpr rfl)), by rw [hmk, q]; exact b2, by rw [q]; exact hxv⟩
          · rintro ⟨v, v1, v2, v3⟩
            rcases List.mem_append.mp v1 with v1 | v1
            · exact .inl ⟨v, v1, v2, v3⟩
            · rw [List.mem_singleton.mp v1, hmk, b2] at v2
              injection v2 with v2
              exact .inr v2.symm
        exact g3.iff (fun _ zs => eqv zs) (fun zs q => (eqv zs).mp q)
      · refine ⟨G2, by rw [e1, if_pos b1], ?_, fun o j y1 y2 => k2 o j (by omega) (by omega) (by omega)⟩
        have eqv : ∀ zs, (∃ v ∈ W, qMk I (-1) (vF v) I.length = some zs ∧ ∀ x ∈ zs, vOk x) ↔ ∃ v ∈ W ++ [vOf G1 nv], qMk I (-1) (vF v) I.length = some zs ∧ ∀ x ∈ zs, vOk x := fun zs => by
          constructor
          · rintro ⟨v, v1, v2⟩
            exact ⟨v, List.mem_append.mpr (.inl v1), v2⟩
          · rintro ⟨v, v1, v2, v3⟩
            rcases List.mem_append.mp v1 with v1 | v1
            · exact ⟨v, v1, v2, v3⟩
            · rw [List.mem_singleton.mp v1, hmk, b2] at v2
              cases v2
        exact hP2.iff (fun _ zs => eqv zs) (fun zs q => (eqv zs).mp q))
    h37 h43 (.inl ⟨h43, F, hF, hnd, fun y => ⟨.inl, fun q => q.elim id (fun ⟨_, ⟨v, v1, _⟩, _⟩ => absurd v1 (by simp))⟩⟩)
  refine ⟨G', u1, u2, u3, u4.iff (fun h xs => ⟨fun ⟨v, v1, v2⟩ => ⟨v, (u7 v v1).1, v2⟩, fun ⟨v, v1, v2⟩ => ⟨v, u8 h v v1, v2⟩⟩) (fun xs ⟨v, v1, v2⟩ => ⟨v, (u7 v v1).1, v2⟩)⟩
end
