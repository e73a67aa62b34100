/-! THE CLASS: all WAYS are found, each once -/
section
variable {Ls : List pLt} {a nv : Nat} {br : Int} {R : Nat → List pRw} {lo hi : Nat → Int}
theorem wy_snd (hC : wsC Ls nv R) : ∀ (pr : List Nat) (b : Nat) (vl : Nat → Int) (V : List (Nat → Int)) (k : Nat), (∀ p ∈ pr, p < Ls.length) → okP Ls pr b → wyE Ls a br R lo hi pr b vl V k → ∀ v ∈ V, (∀ k, b.testBit k = true → v k = vl k) ∧ ∀ p ∈ pr, litO Ls R lo hi p v
  | [], b, vl, V, k, _, _, h, v, hv => by
    obtain ⟨rfl, _⟩ : V = [vl] ∧ k = 1 := h
    rw [List.mem_singleton.mp hv]
    exact ⟨fun _ _ => rfl, (fun p hp => nomatch hp)⟩
  | p :: pr, b, vl, V, k, hp, hok, h, v, hv => by
    obtain ⟨D, k', h1, h2, _⟩ := h
    obtain ⟨d, d1, V1, k1, d2, d3⟩ := (wyS_mem h2).1 v hv
    obtain ⟨i1, i2⟩ := wy_snd hC pr _ d V1 k1 (fun q hq => hp q (List.mem_cons_of_mem _ hq)) hok.2 d2 v d3
    obtain ⟨s1, s2⟩ := chs_s hC (hp p List.mem_cons_self) hok.1 h1 d1
    refine ⟨fun k hk => by rw [i1 k (by rw [Nat.testBit_or, hk]; rfl), s1 k hk], fun q hq => ?_⟩
    rcases List.mem_cons.mp hq with e | e
    · subst e
      exact s2 v i1
    · exact i2 q e
/-- a compare that holds for w is found -/
theorem cmpV_w {y : pLt} {b : Nat} {vl w : Nat → Int} (h3 : y.1 = 3) (hq : qBh y b ≠ none) (w1 : wC nv y.2.2.2.2.1) (w2 : wC nv y.2.2.2.2.2) (hk : y.2.1 = 61 ∨ y.2.1 = 257 ∨ y.2.1 = 60 ∨ y.2.1 = 258 ∨ y.2.1 = 62 ∨ y.2.1 = 259) (hw : ∀ k, b.testBit k = true → (qLv y).testBit k = true → w k = vl k) (h : sCm w y) : ∃ b' v', cmpV y b vl = some (b', v') ∧ ∀ k, (qLv y).testBit k = true → v' k = w k := by
  have hlv : qLv y = qVm y.2.2.2.2.1 ||| qVm y.2.2.2.2.2 := by unfold qLv; rw [if_pos h3]
  have hq' : qSub (qLv y) b ∨ (y.2.1 = 61 ∧ (qAl2 y.2.2.2.2.1 ∧ qSub (qVm y.2.2.2.2.2) b ∨ qAl2 y.2.2.2.2.2 ∧ qSub (qVm y.2.2.2.2.1) b)) := by
    unfold qBh at hq
    by_cases c : y.1 = 1 ∨ qSub (qLv y) b
    · rcases c with c | c
      · omega
      · exact .inl c
    · rw [if_neg c] at hq
      by_cases c2 : y.1 = 3 ∧ y.2.1 = 61 ∧ (qAl2 y.2.2.2.2.1 ∧ qSub (qVm y.2.2.2.2.2) b ∨ qAl2 y.2.2.2.2.2 ∧ qSub (qVm y.2.2.2.2.1) b)
      · exact .inr ⟨c2.2.1, c2.2.2⟩
      · rw [if_neg c2] at hq
        exact absurd rfl hq
  have inL : ∀ k, (qVm y.2.2.2.2.1).testBit k = true → (qLv y).testBit k = true := fun k hk => by rw [hlv, Nat.testBit_or, hk]; rfl
  have inR : ∀ k, (qVm y.2.2.2.2.2).testBit k = true → (qLv y).testBit k = true := fun k hk => by rw [hlv, Nat.testBit_or, hk, Bool.or_true]
  have nsub : ∀ {E : pCd} {x : Nat}, E = [(2, (x : Int))] → b.testBit x = false → ¬ qSub (qVm E) b := fun {E x} hE hb hs => by
    have := qSub_t.mp hs x (by rw [hE]; exact qVm_m (List.mem_singleton.mpr rfl) rfl rfl)
    rw [hb] at this; cases this
  have onB : ∀ {E : pCd}, wC nv E → (∀ k, (qVm E).testBit k = true → (qLv y).testBit k = true) → qSub (qVm E) b → qEv vl E = qEv w E := fun hE hi hs => qEv_xt hE (fun k hk => (hw k (qSub_t.mp hs k hk) (hi k hk)).symm)
  have sing : ∀ {E : pCd} {x k : Nat}, E = [(2, (x : Int))] → (qVm E).testBit k = true → k = x := fun {E x k} hE hk => by
    rw [hE] at hk
    have : ((if (2 : Int) = 2 then 2 ^ (x : Int).toNat else 0) ||| 0).testBit k = true := hk
    rw [if_pos rfl, Int.toNat_natCast, Nat.or_zero, Nat.testBit_two_pow] at this
    exact (of_decide_eq_true this).symm
  have ev1 : ∀ {E : pCd} {x : Nat}, E = [(2, (x : Int))] → qEv w E = some (w x) := fun hE => by rw [hE]; rfl
  obtain ⟨x1, x2, e1, e2, e3⟩ := h
  unfold cmpV
  split
  · rename_i c
    obtain ⟨x, hx, hE⟩ := qAl_is w1 c.2.1
    have ex : (y.2.2.2.2.1.getD 0 (0, 0)).2.toNat = x := by rw [hE]; rfl
    have cb := c.2.2
    rw [ex] at cb ⊢
    have hR : qSub (qVm y.2.2.2.2.2) b := by
      rcases hq' with q | ⟨_, ⟨_, q⟩ | ⟨_, q⟩⟩
      · rw [hlv] at q; exact (qSub_or q).2
      · exact q
      · exact absurd q (nsub hE cb)
    rw [onB w2 inR hR, e2]
    refine ⟨_, _, rfl, fun k hk => ?_⟩
    unfold fUpd
    rw [ev1 hE] at e1
    injection e1 with e1
    have eq : x1 = x2 := e3.1 c.1
    by_cases ck : k = x
    · rw [if_pos ck, ck, e1, eq]
    · rw [if_neg ck]
      rw [hlv, Nat.testBit_or, Bool.or_eq_true] at hk
      rcases hk with hk | hk
      · exact absurd (sing hE hk) ck
      · exact (hw k (qSub_t.mp hR k hk) (inR k hk)).symm
  · rename_i n1
    split
    · rename_i c
      obtain ⟨x, hx, hE⟩ := qAl_is w2 c.2.1
      have ex : (y.2.2.2.2.2.getD 0 (0, 0)).2.toNat = x := by rw [hE]; rfl
      have cb := c.2.2
      rw [ex] at cb ⊢
      have hL : qSub (qVm y.2.2.2.2.1) b := by
        rcases hq' with q | ⟨_, ⟨_, q⟩ | ⟨_, q⟩⟩
        · rw [hlv] at q; exact (qSub_or q).1
        · exact absurd q (nsub hE cb)
        · exact q
      rw [onB w1 inL hL, e1]
      refine ⟨_, _, rfl, fun k hk => ?_⟩
      unfold fUpd
      rw [ev1 hE] at e2
      injection e2 with e2
      have eq : x1 = x2 := e3.1 c.1
      by_cases ck : k = x
      · rw [if_pos ck, ck, e2, eq]
      · rw [if_neg ck]
        rw [hlv, Nat.testBit_or, Bool.or_eq_true] at hk
        rcases hk with hk | hk
        · exact (hw k (qSub_t.mp hL k hk) (inL k hk)).symm
        · exact absurd (sing hE hk) ck
    · rename_i n2
      have hs : qSub (qVm y.2.2.2.2.1) b ∧ qSub (qVm y.2.2.2.2.2) b := by
        rcases hq' with q | ⟨e, ⟨q, q'⟩ | ⟨q, q'⟩⟩
        · rw [hlv] at q; exact qSub_or q
        · refine ⟨qSub_t.mpr (fun j hj => ?_), q'⟩
          obtain ⟨x, hx, hE⟩ := qAl_is w1 q
          rw [sing hE hj]
          cases hb : b.testBit x with
          | true => rfl
          | false => exact absurd ⟨e, q, by rw [hE]; exact hb⟩ n1
        · refine ⟨q', qSub_t.mpr (fun j hj => ?_)⟩
          obtain ⟨x, hx, hE⟩ := qAl_is w2 q
          rw [sing hE hj]
          cases hb : b.testBit x with
          | true => rfl
          | false => exact absurd ⟨e, q, by rw [hE]; exact hb⟩ n2
      rw [onB w1 inL hs.1, onB w2 inR hs.2, e1, e2]
      show ∃ b' v', (if cmB y.2.1 x1 x2 = 1 then some (b, vl) else none) = some (b', v') ∧ _
      rw [if_pos ((cmB_c hk).2.mpr e3)]
      refine ⟨b, vl, rfl, fun k hk => ?_⟩
      rw [hlv, Nat.testBit_or, Bool.or_eq_true] at hk
      rcases hk with hk | hk
      · exact (hw k (qSub_t.mp hs.1 k hk) (inL k hk)).symm
      · exact (hw k (qSub_t.mp hs.2 k hk) (inR k hk)).symm
theorem isRp_min {T : pCd} {l h : Int} {Rp : List pRw} : ∀ (i : Nat), (l ≤ (Rp.getD i dRw).2 ∧ (Rp.getD i dRw).2 ≤ h) → ∃ j, j ≤ i ∧ (l ≤ (Rp.getD j dRw).2 ∧ (Rp.getD j dRw).2 ≤ h) ∧ sameT T (Rp.getD i dRw).1 (Rp.getD j dRw).1 ∧ ¬ isRp T l h Rp j := by
  intro i
  induction i using Nat.strongRecOn with
  | _ i ih =>
    intro hr
    by_cases c : isRp T l h Rp i
    · obtain ⟨_, j, j1, j2, j3⟩ := c
      obtain ⟨k, k1, k2, k3, k4⟩ := ih j j1 j2
      refine ⟨k, by omega, k2, fun c hc => ?_, k4⟩
      rcases j3 c hc with q | q
      · exact .inl q
      · rcases k3 c hc with q2 | q2
        · exact .inl q2
        · exact .inr (q.trans q2)
    · exact ⟨i, Nat.le_refl _, hr, fun c _ => .inr rfl, c⟩
theorem same_s {T : pCd} {v : Nat → Int} {xs ys : List Int} (h : sameT T xs ys) (hs : sTs v T xs) : sTs v T ys := fun k hk => by
  rcases h k hk with q | q
  · exact ⟨fun z => by omega, fun z => by omega⟩
  · rw [← q]; exact hs k hk
theorem plA_t {k : Nat} : ∀ (pr : List Nat), (plA Ls a pr).testBit k = true ↔ a.testBit k = true ∨ ∃ q ∈ pr, (qLv (Ls.getD q dLt)).testBit k = true
  | [] => ⟨.inl, fun h => h.elim id (fun ⟨q, q1, _⟩ => nomatch q1)⟩
  | p :: pr => by
    show (plA Ls a pr ||| qLv (Ls.getD p dLt)).testBit k = true ↔ _
    rw [Nat.testBit_or, Bool.or_eq_true, plA_t pr]
    constructor
    · rintro ((h | ⟨q, q1, q2⟩) | h)
      · exact .inl h
      · exact .inr ⟨q, List.mem_cons_of_mem _ q1, q2⟩
      · exact .inr ⟨p, List.mem_cons_self, h⟩
    · rintro (h | ⟨q, q1, q2⟩)
      · exact .inl (.inl h)
      · rcases List.mem_cons.mp q1 with e | e
        · subst e; exact .inr q2
        · exact .inl (.inr ⟨q, e, q2⟩)
/-- all that are asked for are found: N k says that k is asked for behind the LITERALS -/
theorem wy_cmp (hC : wsC Ls nv R) (N : Nat → Prop) (hN : br ≠ 0 → ∀ k, a.testBit k = true ↔ N k) (hN0 : br = 0 → ∀ k, N k) : ∀ (pr : List Nat) (b : Nat) (vl : Nat → Int) (V : List (Nat → Int)) (k : Nat) (w : Nat → Int), (∀ p ∈ pr, p < Ls.length) → okP Ls pr b → wyE Ls a br R lo hi pr b vl V k → (∀ k, b.testBit k = true → (N k ∨ ∃ p ∈ pr, (qLv (Ls.getD p dLt)).testBit k = true) → w k = vl k) → (∀ p ∈ pr, litO Ls R lo hi p w) → ∃ v ∈ V, ∀ k, (mkP Ls pr b).testBit k = true → N k → v k = w k
  | [], b, vl, V, k, w, _, _, h, hw, _ => by
    obtain ⟨rfl, _⟩ : V = [vl] ∧ k = 1 := h
    exact ⟨vl, List.mem_singleton.mpr rfl, fun k hk hn => (hw k hk (.inl hn)).symm⟩
  | p :: pr, b, vl, V, k, w, hp, hok, h, hw, hl => by
    obtain ⟨D, k', h1, h2, _⟩ := h
    have hpl := hp p List.mem_cons_self
    have hlp := hl p List.mem_cons_self
    -- enough: a choice that agrees on what comes behind
    have fin : ∀ d ∈ D, (∀ k, (b ||| qLv (Ls.getD p dLt)).testBit k = true → (N k ∨ ∃ q ∈ pr, (qLv (Ls.getD q dLt)).testBit k = true) → w k = d k) → ∃ v ∈ V, ∀ k, (mkP Ls (p :: pr) b).testBit k = true → N k → v k = w k := fun d hd hwd => by
      obtain ⟨V1, k1, d2, d3⟩ := (wyS_mem h2).2 d hd
      obtain ⟨v, v1, v2⟩ := wy_cmp hC N hN hN0 pr _ d V1 k1 w (fun q hq => hp q (List.mem_cons_of_mem _ hq)) hok.2 d2 hwd (fun q hq => hl q (List.mem_cons_of_mem _ hq))
      exact ⟨v, d3 v v1, v2⟩
    have hwb : ∀ k, b.testBit k = true → (N k ∨ ∃ q ∈ pr, (qLv (Ls.getD q dLt)).testBit k = true) → w k = vl k := fun k hk hn => hw k hk (hn.imp id (fun ⟨q, q1, q2⟩ => ⟨q, List.mem_cons_of_mem _ q1, q2⟩))
    have hwl : ∀ k, b.testBit k = true → (qLv (Ls.getD p dLt)).testBit k = true → w k = vl k := fun k hk hq => hw k hk (.inr ⟨p, List.mem_cons_self, hq⟩)
    rcases hC p hpl with ⟨c1, c2, c3, c4⟩ | ⟨c1, c2, c3, c4⟩
    · have hqt : qLv (Ls.getD p dLt) = qT (Ls.getD p dLt).2.2.2.1 := qT_lv (by omega)
      rcases h1 with ⟨g1, D0, g2, g3, g4⟩ | ⟨g1, g2, g3⟩ | ⟨g1, _⟩
      · obtain ⟨r, r1, r2, r3⟩ := hlp.1 g1
        obtain ⟨i, hi', ei⟩ := List.getElem_of_mem r1
        have ei' : (R (Ls.getD p dLt).2.1.toNat).getD i dRw = r := by rw [getD_e hi', ei]
        -- w with what is bound
        obtain ⟨w', hw'⟩ : ∃ w' : Nat → Int, w' = fun k => if b.testBit k = true then vl k else w k := ⟨_, rfl⟩
        have wb : ∀ k, b.testBit k = true → w' k = vl k := fun k hk => by rw [hw']; exact if_pos hk
        have wn : ∀ k, (qLv (Ls.getD p dLt)).testBit k = true → w' k = w k := fun k hk => by
          rw [hw']
          by_cases c : b.testBit k = true
          · show (if b.testBit k = true then vl k else w k) = w k
            rw [if_pos c, hwl k c hk]
          · exact if_neg c
        have s' : sTs w' (Ls.getD p dLt).2.2.2.1 r.1 := sTs_on r3 (fun k hk => wn k (by rw [hqt]; exact hk))
        -- the row that is taken for r
        obtain ⟨j, j1, j2, j3, j4⟩ : ∃ j, j ≤ i ∧ (lo p ≤ ((R (Ls.getD p dLt).2.1.toNat).getD j dRw).2 ∧ ((R (Ls.getD p dLt).2.1.toNat).getD j dRw).2 ≤ hi p) ∧ sTs w' (Ls.getD p dLt).2.2.2.1 ((R (Ls.getD p dLt).2.1.toNat).getD j dRw).1 ∧ (br ≠ 0 ∨ ¬ isRp (Ls.getD p dLt).2.2.2.1 (lo p) (hi p) (R (Ls.getD p dLt).2.1.toNat) j) := by
          by_cases cb : br ≠ 0
          · exact ⟨i, Nat.le_refl _, by rw [ei']; exact r2, by rw [ei']; exact s', .inl cb⟩
          · obtain ⟨j, j1, j2, j3, j4⟩ := isRp_min (T := (Ls.getD p dLt).2.2.2.1) (l := lo p) (h := hi p) (Rp := R (Ls.getD p dLt).2.1.toNat) i (by rw [ei']; exact r2)
            rw [ei'] at j3
            exact ⟨j, j1, j2, same_s j3 s', .inr j4⟩
        have hj : j < (R (Ls.getD p dLt).2.1.toNat).length := by omega
        have hm : (R (Ls.getD p dLt).2.1.toNat).getD j dRw ∈ R (Ls.getD p dLt).2.1.toNat := by rw [getD_e hj]; exact List.getElem_mem hj
        obtain ⟨v', f1, f2⟩ := fit_w (vl := vl) c2 (c4 _ hm) j2 wb j3
        have acc : accR (Ls.getD p dLt).2.2.2.1 (lo p) (hi p) (R (Ls.getD p dLt).2.1.toNat) b vl br j := ⟨_, v', f1, j4.imp id .inr⟩
        have memj : (j, v') ∈ D0 := (g2.2 _).mpr ⟨Nat.zero_le _, hj, acc, _, f1⟩
        by_cases cm : mre Ls a br (Ls.getD p dLt) pr b
        · refine fin v' (by rw [g3 cm]; exact List.mem_map.mpr ⟨_, memj, rfl⟩) (fun k hk hn => ?_)
          rw [f2 k (by rw [← hqt]; exact hk)]
          by_cases c : b.testBit k = true
          · rw [wb k c]; exact hwb k c hn
          · rw [hw']; exact (if_neg c).symm
        · -- the first row does as well
          match D0, g2, g4, memj with
          | z :: D0', g2, g4, _ =>
            obtain ⟨y1, y2, y3, b', y4⟩ := (g2.2 z).mp List.mem_cons_self
            have hmz : (R (Ls.getD p dLt).2.1.toNat).getD z.1 dRw ∈ R (Ls.getD p dLt).2.1.toNat := by rw [getD_e y2]; exact List.getElem_mem y2
            obtain ⟨_, _, s3, _⟩ := fit_s c2 (c4 _ hmz) y4
            refine fin z.2 (by rw [g4 cm]; exact List.mem_singleton.mpr rfl) (fun k hk hn => ?_)
            by_cases c : b.testBit k = true
            · rw [s3 k c]; exact hwb k c hn
            · exfalso
              refine cm ⟨k, hk, by cases hz : b.testBit k; rfl; exact absurd hz c, fun cb => ?_⟩
              rw [plA_t]
              exact hn.imp (fun q => (hN cb k).mpr q) id
      · have cn : ∀ j, j < (R (Ls.getD p dLt).2.1.toNat).length → fitR (Ls.getD p dLt).2.2.2.1 (lo p) (hi p) b vl ((R (Ls.getD p dLt).2.1.toNat).getD j dRw) = none := fun j hj => by
          have hm : (R (Ls.getD p dLt).2.1.toNat).getD j dRw ∈ R (Ls.getD p dLt).2.1.toNat := by rw [getD_e hj]; exact List.getElem_mem hj
          cases hq : fitR (Ls.getD p dLt).2.2.2.1 (lo p) (hi p) b vl ((R (Ls.getD p dLt).2.1.toNat).getD j dRw) with
          | none => rfl
          | some z =>
            obtain ⟨s1, s2, s3, s4⟩ := fit_s (b' := z.1) (v' := z.2) c2 (c4 _ hm) hq
            refine absurd ⟨_, hm, s1, sTs_on s4 (fun k hk => ?_)⟩ (hlp.2.1 g1)
            have hqs : qSub (qLv (Ls.getD p dLt)) b := by
              have hq0 := hok.1
              unfold qBh at hq0
              by_cases c : (Ls.getD p dLt).1 = 1 ∨ qSub (qLv (Ls.getD p dLt)) b
              · exact c.elim (fun q => by omega) id
              · rw [if_neg c, if_neg (fun q => by have := q.1; omega)] at hq0
                exact absurd rfl hq0
            have hkl : (qLv (Ls.getD p dLt)).testBit k = true := by rw [hqt]; exact hk
            have hkb := qSub_t.mp hqs k hkl
            rw [s3 k hkb, hwl k hkb hkl]
        refine fin vl (by rw [g2 cn]; exact List.mem_singleton.mpr rfl) (fun k hk hn => ?_)
        rw [Nat.testBit_or, Bool.or_eq_true] at hk
        have hqs : qSub (qLv (Ls.getD p dLt)) b := by
          have hq0 := hok.1
          unfold qBh at hq0
          by_cases c : (Ls.getD p dLt).1 = 1 ∨ qSub (qLv (Ls.getD p dLt)) b
          · exact c.elim (fun q => by omega) id
          · rw [if_neg c, if_neg (fun q => by have := q.1; omega)] at hq0
            exact absurd rfl hq0
        exact hwb k (hk.elim id (fun q => qSub_t.mp hqs k q)) hn
      · omega
    · rcases h1 with ⟨g1, _⟩ | ⟨g1, _⟩ | ⟨g1, g2, g3⟩
      · omega
      · omega
      · obtain ⟨b', v', e1, e2⟩ := cmpV_w c1 hok.1 c2.1 c3.1 c4 hwl (hlp.2.2 g1)
        have hs := cmpV_s c1 hok.1 c2.1 c3.1 c4 e1
        refine fin v' (by rw [g2 _ _ e1]; exact List.mem_singleton.mpr rfl) (fun k hk hn => ?_)
        by_cases c : (qLv (Ls.getD p dLt)).testBit k = true
        · exact (e2 k c).symm
        · rw [Nat.testBit_or, Bool.or_eq_true] at hk
          have hb := hk.elim id (fun q => absurd q c)
          rw [hs.1 k hb]; exact hwb k hb hn
end
