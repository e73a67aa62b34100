/-! INPUTS that are kept when a program's next edition is taken over -/
/-- p has its rows from so -/
def kpC (so s : pPg) (p : Nat) : Prop := pIn s.2.1 (p : Int) = true ∧ ∃ r, r < so.1.length ∧ qNm so r = qNm s p ∧ pIn so.2.1 (r : Int) = true ∧ qN so r = qN s p ∧ pKy so.2.1 (r : Int) = pKy s.2.1 (p : Int)
section
variable {f b : Nat} {s so : pPg} {F : List pFc} {T : List (List Int)} {m e : Nat}
/-- readOld -/
theorem l_300 {G : xG_} (hf : 6400 < f) (hC : rC G) (hT : rTxs G T m) (he : e < T.length) (hs : qPr (T.getD e []) = .inr so) :
    ∃ G' q c, g300 f (e : Int) G = some G' ∧ rPr G' 37 q c so ∧ rPn G' 37 so ∧ ∀ a j, ¬ (a = 0 ∧ (j ≤ 11 ∨ 21 ≤ j ∧ j ≤ 27)) → a ≠ 1 → ¬ (37 ≤ a ∧ a ≤ 71) → G' a j = G a j := by
  obtain ⟨t1, t2, t3, t4, t5⟩ := hT
  obtain ⟨b0, q, b1, b2, b3, b4⟩ := t5 e he
  have hr := l_rt (f := f) (o := 37) (by omega) b0 (by omega) hC b4
  rw [hs] at hr
  obtain ⟨G1, c, r1, r2, r22, r3, r4, r5, r6, r7⟩ := hr
  obtain ⟨G2, p1, p2, p3, p4⟩ := l_254 (f := f) (by omega) (by omega) r4 r5 r7
  refine ⟨G2, q, c, ?_, p3, p4, fun a j y1 y2 y3 => by rw [p2 a j (by omega) (by omega), r3 a j y1 y2 (by omega)]⟩
  have hee : 0 ≤ (e : Int) ∧ (e : Int) < 4200 := by omega
  unfold g300
  rw [if_pos hee, if_pos hee, if_pos hee, Int.toNat_natCast, b1, b2, xwr_g _ (by omega) (by omega), r1, Option.bind_some, p1]
  rfl
theorem qFa.cnt {M : Nat → List pRw} (hok : qOk so) (hM : qTb so M) (h : qFa so M F) (a : Int) (n : Nat) : F.countP (fun y => decide (y.1 = a ∧ y.2.length = n)) ≤ 100 := by
  rw [List.countP_eq_length_filter]
  have nd : F.Nodup := by
    refine List.nodup_iff_pairwise_ne.mpr (List.Pairwise.imp (S := fun x y => x ≠ y) (fun {a b} h => ?_) h.1)
    intro q
    rw [q] at h
    exact fLt_irr _ h
  by_cases c : ∃ p, p < so.1.length ∧ qNm so p = a
  · obtain ⟨p, hp, hn⟩ := c
    have := nodup_len (F.filter (fun y => decide (y.1 = a ∧ y.2.length = n))) ((M p).map (fun w => (a, w.1))) (nd.filter _) (fun y hy => by
      obtain ⟨y1, y2⟩ := List.mem_filter.mp hy
      have y3 := of_decide_eq_true y2
      obtain ⟨p', a1, a2, w, a3, a4⟩ := (h.2 y).mp y1
      have : p' = p := nm_inj hok a1 hp (by rw [← a2, hn]; exact y3.1)
      subst this
      exact List.mem_map.mpr ⟨w, a3, Prod.ext y3.1.symm a4⟩)
    rw [List.length_map] at this
    have := (hM p hp).1
    omega
  · have : F.filter (fun y => decide (y.1 = a ∧ y.2.length = n)) = [] := by
      rw [List.filter_eq_nil_iff]
      intro y hy q
      have y3 := of_decide_eq_true q
      obtain ⟨p', a1, a2, w, a3, a4⟩ := (h.2 y).mp hy
      exact c ⟨p', a1, by rw [← a2]; exact y3.1⟩
    rw [this]
    exact Nat.zero_le _
theorem qFa.fo2 {M : Nat → List pRw} (hok : qOk so) (hM : qTb so M) (h : qFa so M F) : qFo s F := by
  refine ⟨h.1, fun p hp => ?_, fun y hy x hx => ?_⟩
  · have := h.cnt hok hM (qNm s p) (qN s p)
    omega
  · obtain ⟨p, a1, a2, w, a3, a4⟩ := (h.2 y).mp hy
    rw [← a4] at hx
    exact ((hM p a1).2.2 w a3).2 x hx
/-- keepInputs: the facts, one after another -/
theorem l_299_31 {G0 : xG_} {q c q' c' o : Nat} (hf : 3600 < f) (hok : qOk s) (hok' : qOk so) (hb : isFb (o + 1)) (hP : rPr G0 2 q c s ∧ rPn G0 2 s) (hP' : rPr G0 37 q' c' so ∧ rPn G0 37 so) (hF : rFa G0 (o + 1) F) (hFo : qFo s F) (hFl : ∀ y ∈ F, ∀ r, r < so.1.length → qNm so r = y.1 → y.2.length = qN so r) : ∀ (d i fu : Nat) (G : xG_) (R : Nat → List pRw), i + d = F.length → d < fu → (∀ a j, ¬ (107 ≤ a ∧ a ≤ 109) → G a j = G0 a j) → rTb G s.1.length (qN s) R → qFt s (kpC so s) (F.take i) R →
    ∃ G' R', g299_31 f fu o (i : Int) G = some G' ∧ (∀ a j, ¬ (107 ≤ a ∧ a ≤ 109) → G' a j = G0 a j) ∧ rTb G' s.1.length (qN s) R' ∧ qFt s (kpC so s) F R' := by
  have hl := hF.2.1
  have hnp := hok.1.1
  have hnp' := hok'.1.1
  have hbb : o + 4 < 107 ∨ 109 < o + 1 := by unfold isFb at hb; omega
  intro d
  induction d with
  | zero =>
    intro i fu G R h1 h2 h3 hT hq
    obtain ⟨fu, rfl⟩ : ∃ t, fu = t + 1 := ⟨fu - 1, by omega⟩
    have ei : F.take i = F := List.take_of_length_le (by omega)
    rw [ei] at hq
    refine ⟨G, R, ?_, h3, hT, hq⟩
    show g299_31b (g299_31 f fu) f _ _ _ = _
    unfold g299_31b
    rw [h3 _ _ (by omega), hF.1, if_pos (by omega)]
  | succ d ih =>
    intro i fu G R h1 h2 h3 hT hq
    obtain ⟨fu, rfl⟩ : ∃ t, fu = t + 1 := ⟨fu - 1, by omega⟩
    have hi : i < F.length := by omega
    obtain ⟨q1, q2, q3, q4⟩ := hF.2.2 i hi
    have e4 : xwr (4 * (i : Int)) = ((4 * i : Nat) : Int) := by rw [xwr_g _ (by omega) (by omega)]; omega
    have e5 : xwr ((i : Int) + 1) = ((i + 1 : Nat) : Int) := by rw [xwr_g _ (by omega) (by omega)]; omega
    have hii : 0 ≤ (i : Int) ∧ (i : Int) < 3400 := by omega
    have hN : rNs G 2 s.1 := ⟨by rw [h3 _ _ (by omega)]; exact hP.1.1.1, hP.1.1.2.1, fun k hk => by rw [h3 _ _ (by omega)]; exact hP.1.1.2.2 k hk⟩
    have hN' : rNs G 37 so.1 := ⟨by rw [h3 _ _ (by omega)]; exact hP'.1.1.1, hP'.1.1.2.1, fun k hk => by rw [h3 _ _ (by omega)]; exact hP'.1.1.2.2 k hk⟩
    have g1 : G (o + 1 + 1) i = (F.getD i dFc).1 := by rw [h3 _ _ (by omega)]; exact q1
    have hFm : F.getD i dFc ∈ F := by rw [getD_e hi]; exact List.getElem_mem hi
    have skip : (∀ p, p < s.1.length → ¬ (kpC so s p ∧ qNm s p = (F.getD i dFc).1 ∧ (F.getD i dFc).2.length = qN s p)) → g299_31 f (fu + 1) o (i : Int) G = g299_31 f fu o ((i + 1 : Nat) : Int) G → ∃ G' R', g299_31 f (fu + 1) o (i : Int) G = some G' ∧ (∀ a j, ¬ (107 ≤ a ∧ a ≤ 109) → G' a j = G0 a j) ∧ rTb G' s.1.length (qN s) R' ∧ qFt s (kpC so s) F R' := fun hn he => by
      rw [he]
      exact ih (i + 1) fu G R (by omega) (by omega) h3 hT (by rw [fa_tk hi]; exact hq.skip hn)
    have head : g299_31 f (fu + 1) o (i : Int) G = if pIdx s.1 (F.getD i dFc).1 = -1 then g299_31 f fu o ((i + 1 : Nat) : Int) G else if pIdx so.1 (F.getD i dFc).1 = -1 then g299_31 f fu o ((i + 1 : Nat) : Int) G else g299_31 f (fu + 1) o (i : Int) G := by
      by_cases c1 : pIdx s.1 (F.getD i dFc).1 = -1
      · rw [if_pos c1]
        show g299_31b (g299_31 f fu) f _ _ _ = _
        unfold g299_31b g299_173
        rw [h3 (o + 1) 3 (by omega), hF.1, if_neg (by omega), if_pos hii, Int.toNat_natCast, g1, hN.idx (by omega) (by omega), Option.bind_some, if_pos hii]
        show Option.bind (g205 f 37 (G (o + 1 + 1) i) G) _ = _
        rw [g1, hN'.idx (by omega) (by omega), Option.bind_some]
        show (if pIdx s.1 (F.getD i dFc).1 = -1 then _ else _) = _
        rw [if_pos c1, e5]
      · rw [if_neg c1]
        by_cases c2 : pIdx so.1 (F.getD i dFc).1 = -1
        · rw [if_pos c2]
          show g299_31b (g299_31 f fu) f _ _ _ = _
          unfold g299_31b g299_173
          rw [h3 (o + 1) 3 (by omega), hF.1, if_neg (by omega), if_pos hii, Int.toNat_natCast, g1, hN.idx (by omega) (by omega), Option.bind_some, if_pos hii]
          show Option.bind (g205 f 37 (G (o + 1 + 1) i) G) _ = _
          rw [g1, hN'.idx (by omega) (by omega), Option.bind_some]
          show (if pIdx s.1 (F.getD i dFc).1 = -1 then _ else (if pIdx so.1 (F.getD i dFc).1 = -1 then _ else _)) = _
          rw [if_neg c1, if_pos c2, e5]
        · rw [if_neg c2]
    rcases pIdx_get (x := (F.getD i dFc).1) hok.1.2.1 with ⟨c1, c2⟩ | ⟨p, p1, p2, p3, p4⟩
    · refine skip (fun p hp hh => c2 ?_) (by rw [head, if_pos c1])
      rw [← hh.2.1]
      unfold qNm
      rw [getD_e hp]
      exact List.getElem_mem hp
    · have only : ∀ p', p' < s.1.length → qNm s p' = (F.getD i dFc).1 → p' = p := fun p' hp' h => p4 p' hp' h
      rcases pIdx_get (x := (F.getD i dFc).1) hok'.1.2.1 with ⟨c1, c2⟩ | ⟨r, r1, r2, r3, r4⟩
      · refine skip (fun p' hp' hh => c2 ?_) (by rw [head, if_neg (by omega), if_pos c1])
        obtain ⟨⟨_, r, a1, a2, _⟩, a5, _⟩ := hh
        rw [← a5, ← a2]
        unfold qNm
        rw [getD_e a1]
        exact List.getElem_mem a1
      · have onlyr : ∀ p', p' < so.1.length → qNm so p' = (F.getD i dFc).1 → p' = r := fun p' hp' h => r4 p' hp' h
        have hin : G 8 p = b01 (pIn s.2.1 (p : Int)) := by rw [h3 _ _ (by omega)]; exact (hP.1.2.2.2.1 p (by omega)).1
        have hin' : G 43 r = b01 (pIn so.2.1 (r : Int)) := by rw [h3 _ _ (by omega)]; exact (hP'.1.2.2.2.1 r (by omega)).1
        have h5 : G 5 p = pKy s.2.1 (p : Int) := by rw [h3 _ _ (by omega)]; exact (hP.1.2.2.2.1 p (by omega)).2.1
        have h5' : G 40 r = pKy so.2.1 (r : Int) := by rw [h3 _ _ (by omega)]; exact (hP'.1.2.2.2.1 r (by omega)).2.1
        have h4 : G 4 p = (qN s p : Int) := by
          rw [h3 _ _ (by omega), (qN_c hok.1 p).1]
          exact hP.2 p p1
        have h4' : G 39 r = (qN so r : Int) := by
          rw [h3 _ _ (by omega), (qN_c hok'.1 r).1]
          exact hP'.2 r r1
        have hpp : 0 ≤ (p : Int) ∧ (p : Int) < 16 := by omega
        have hrr : 0 ≤ (r : Int) ∧ (r : Int) < 16 := by omega
        have n1 : ¬ (p : Int) = -1 := by omega
        have n2 : ¬ (r : Int) = -1 := by omega
        have step : g299_31 f (fu + 1) o (i : Int) G = if b01 (pIn s.2.1 (p : Int)) = 0 then g299_31 f fu o ((i + 1 : Nat) : Int) G else if b01 (pIn so.2.1 (r : Int)) = 0 then g299_31 f fu o ((i + 1 : Nat) : Int) G else if ¬ (qN s p : Int) = (qN so r : Int) then g299_31 f fu o ((i + 1 : Nat) : Int) G else if ¬ pKy s.2.1 (p : Int) = pKy so.2.1 (r : Int) then g299_31 f fu o ((i + 1 : Nat) : Int) G else (g264 f (p : Int) (o + 1 + 2) ((4 * i : Nat) : Int) 0 G).bind fun R126 => g299_31 f fu o ((i + 1 : Nat) : Int) R126 := by
          show g299_31b (g299_31 f fu) f _ _ _ = _
          unfold g299_31b g299_173
          rw [h3 (o + 1) 3 (by omega), hF.1, if_neg (by omega), if_pos hii, Int.toNat_natCast, g1, hN.idx (by omega) (by omega), Option.bind_some, if_pos hii]
          show Option.bind (g205 f 37 (G (o + 1 + 1) i) G) _ = _
          rw [g1, hN'.idx (by omega) (by omega), Option.bind_some, p2, r2, if_neg n1, if_neg n2]
          simp only [Nat.reduceAdd, Int.toNat_natCast, if_pos hpp, if_pos hrr, hin, hin', h4, h4', h5, h5', e4, e5]
        have no : (∀ x : Bool, True) → True := fun _ => trivial
        have kp : ∀ p', p' < s.1.length → kpC so s p' → qNm s p' = (F.getD i dFc).1 → pIn s.2.1 (p : Int) = true ∧ pIn so.2.1 (r : Int) = true ∧ qN so r = qN s p ∧ pKy so.2.1 (r : Int) = pKy s.2.1 (p : Int) := fun p' hp' hk hn => by
          have e1 := only p' hp' hn
          subst e1
          obtain ⟨k1, r', k2, k3, k4, k5, k6⟩ := hk
          have e2 := onlyr r' k2 (by rw [k3]; exact hn)
          subst e2
          exact ⟨k1, k4, k5, k6⟩
        cases hb1 : pIn s.2.1 (p : Int) with
        | false =>
          rw [hb1] at step kp
          exact skip (fun p' hp' hh => by have := (kp p' hp' hh.1 hh.2.1).1; cases this) (by rw [step, if_pos (show b01 false = 0 from rfl)])
        | true =>
          rw [hb1, if_neg (show ¬ b01 true = 0 from by decide)] at step
          cases hb2 : pIn so.2.1 (r : Int) with
          | false =>
            rw [hb2] at step kp
            exact skip (fun p' hp' hh => by have := (kp p' hp' hh.1 hh.2.1).2.1; cases this) (by rw [step, if_pos (show b01 false = 0 from rfl)])
          | true =>
            rw [hb2, if_neg (show ¬ b01 true = 0 from by decide)] at step
            by_cases cn : qN so r = qN s p
            · have nn : ¬ ¬ (qN s p : Int) = (qN so r : Int) := fun q => q (by omega)
              rw [if_neg nn] at step
              by_cases ck : pKy so.2.1 (r : Int) = pKy s.2.1 (p : Int)
              · have nk : ¬ ¬ pKy s.2.1 (p : Int) = pKy so.2.1 (r : Int) := fun q => q ck.symm
                rw [if_neg nk] at step
                have cl : (F.getD i dFc).2.length = qN s p := by rw [hFl _ hFm r r1 r3]; exact cn
                have hcd : kpC so s p := ⟨hb1, r, r1, by unfold qNm; rw [r3, p3], hb2, cn, ck⟩
                have hcnt : (F.take i).countP (fun y => decide (y.1 = qNm s p ∧ y.2.length = qN s p)) < 520 := by
                  have h5 := List.Sublist.countP_le (p := fun y : pFc => decide (y.1 = qNm s p ∧ y.2.length = qN s p)) (List.take_sublist i F)
                  have h6 := hFo.2.1 p p1
                  omega
                have hv : rVe G (o + 1 + 2) (4 * i) (F.getD i dFc).2 := by
                  obtain ⟨z1, z2, z3, z4⟩ := hF.ve hb hi
                  exact ⟨z1, z2, z3, fun k hk => by rw [h3 _ _ (by omega)]; exact z4 k hk⟩
                obtain ⟨G1, R1, k1, k2, k3, k4⟩ := hq.go (f := f) (by omega) hok hT p1 hcd p3 cl (fa_new hFo.1 hi) hcnt h4 ⟨by omega, by omega, by omega⟩ hv
                obtain ⟨G2, R2, u1, u2, u3, u4⟩ := ih (i + 1) fu G1 R1 (by omega) (by omega) (fun a j y => by rw [k2 a j y]; exact h3 a j y) k3 (by rw [fa_tk hi]; exact k4)
                refine ⟨G2, R2, ?_, u2, u3, u4⟩
                rw [step, k1]
                exact u1
              · have nk : ¬ pKy s.2.1 (p : Int) = pKy so.2.1 (r : Int) := fun q => ck q.symm
                rw [if_pos nk] at step
                exact skip (fun p' hp' hh => ck (kp p' hp' hh.1 hh.2.1).2.2.2) step
            · have nn : ¬ (qN s p : Int) = (qN so r : Int) := by omega
              rw [if_pos nn] at step
              exact skip (fun p' hp' hh => cn (kp p' hp' hh.1 hh.2.1).2.2.1) step
end
