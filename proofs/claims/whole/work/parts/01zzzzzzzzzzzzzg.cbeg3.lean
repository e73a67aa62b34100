/-! THE CLASS: begin() whole, and what a round starts from -/
def bgR (so s : pPg) (Mo : Nat → List pRw) (tk : Int) (p : Nat) (a x : List pRw) : Prop := (tk = 0 ∧ a = Mo p ∧ x = Mo p) ∨ (tk = 1 ∧ (∃ r, r < so.1.length ∧ qNm so r = qNm s p ∧ qN so r = qN s p ∧ a = Mo r ∧ ((kpC so s p ∧ x = a) ∨ (¬ kpC so s p ∧ x = [])))) ∨ (tk = 1 ∧ (∀ r, r < so.1.length → qNm so r = qNm s p → qN so r ≠ qN s p) ∧ a = [] ∧ x = [])
/-- rows of a moment that are in order -/
def okM8 (s : pPg) (M : Nat → List pRw) : Prop := ∀ p, p < s.1.length → (M p).Pairwise rwLt ∧ (M p).length ≤ 100 ∧ (∀ r ∈ M p, ∀ x ∈ r.1, vOk x) ∧ ∀ r ∈ M p, 0 ≤ r.2 ∧ r.2 ≤ 1700
section
variable {f q qo nx nxo mp rp : Nat} {S : Nat → Nat × Nat × Nat} {G : xG_} {m : Nat × Nat} {s so : pPg} {xr cr : Nat → Nat} {Mo : Nat → List pRw} {tk : Int} {sn so' : Int}
theorem st_145 (hs : cSs S) (hq : q ≠ 93) (hmp : mp ≠ 93) (hqo : qo ≠ 93) (qs : S q = (1, 3, 14)) (ms : S mp = (1, 2, 8)) (h0 : G mp 0 = (qo : Int)) (os : S qo = (1, 3, 14)) (e1 : G q 0 = sn) (e2 : G qo 0 = so') : c145 f 93 mp q (S, G, m) = c145_38 f f 93 mp q (if sn = so' then 0 else 1) 0 (S, xup2 (xup2 (xup2 G 93 1 (q : Int)) 93 13 0) 93 14 0, m) := by
  by_cases c : sn = so'
  · rw [if_pos c]
    unfold c145 c145_34
    simp (disch := omega) only [cq_gi, cq_gr, cq_a, cq_s, cq_p, cq_pr, cq_is, cq_ar, cq_ab, cq_ln, xq_nz, Option.bind_some, xup2_n, xup2_s, Int.toNat_natCast, Int.reduceToNat, if_pos, if_neg, true_and, and_true, and_self, eq_self, if_true, reduceIte, not_true_eq_false, not_false_eq_true, or_true, true_or, s93 hs, qs, ms, h0, os, e1, e2, c]
  · rw [if_neg c]
    unfold c145 c145_34
    simp (disch := omega) only [cq_gi, cq_gr, cq_a, cq_s, cq_p, cq_pr, cq_is, cq_ar, cq_ab, cq_ln, xq_nz, Option.bind_some, xup2_n, xup2_s, Int.toNat_natCast, Int.reduceToNat, if_pos, if_neg, true_and, and_true, and_self, eq_self, if_true, reduceIte, not_true_eq_false, not_false_eq_true, or_true, true_or, s93 hs, qs, ms, h0, os, e1, e2, c]
theorem k_145 (hf : 20 < f) (hs : cSs S) (hp : cPs G) (hem : cEm G) (hmp : 203 < mp) (hrp : 203 < rp) (hq226 : 226 < q) (ho226 : 226 < qo) (hoks : qOc s) (hoko : qOc so) (htk : G q 0 = G qo 0 ∧ tk = 0 ∧ s = so ∨ G q 0 ≠ G qo 0 ∧ tk = 1) (hP : cPgm S G q nx s) (ho : cPgm S G qo nxo so) (hM : cMr S G nx mp qo rp so xr cr Mo) (hMo : okM8 so Mo) :
    ∃ (G' : xG_) (xp cp yp ap : Nat → Nat) (Ri A : Nat → List pRw), c145 f 93 mp q (S, G, m) = some (S, G', m) ∧ (∀ b j, ¬ (b = 93 ∧ (j = 1 ∨ j = 13 ∨ j = 14)) → b ≠ 94 → b ≠ 95 → G' b j = G b j) ∧ cPs G' ∧ G' 93 13 = 0 ∧ G' 93 14 = 0 ∧ cWk S G' q nx s xp cp Ri ∧ cAh S G' nx s yp ap A ∧ (∀ p, p < s.1.length → bgR so s Mo tk p (A p) (Ri p)) ∧ ∀ p, p < s.1.length → ((∃ r, r < so.1.length ∧ xp p = xr r) ∨ xp p + 2 < 216) ∧ ((∃ r, r < so.1.length ∧ yp p = xr r) ∨ yp p + 2 < 216) := by
  obtain ⟨G0, hG0⟩ : ∃ G0, G0 = xup2 (xup2 (xup2 G 93 1 (q : Int)) 93 13 0) 93 14 0 := ⟨_, rfl⟩
  have z0 : ∀ b j, ¬ (b = 93 ∧ (j = 1 ∨ j = 13 ∨ j = 14)) → G0 b j = G b j := fun b j y => by rw [hG0, xup2_n (by omega), xup2_n (by omega), xup2_n (by omega)]
  have hp0 : cPs G0 := hp.ge (fun b j hz => z0 b j (by
    rcases hz with z | z | z | z | z | z | z | ⟨z, z1, z2, k, z3⟩ | z | z | z | ⟨k, z1, z2, z3⟩ <;> omega))
  have st := st_145 (f := f) (m := m) hs (by omega) (by omega) (by omega) hP.1.1 hM.1 hM.2.1 ho.1.1 rfl rfl
  have etk : (if G q 0 = G qo 0 then (0 : Int) else 1) = tk := by
    rcases htk with ⟨y1, y2, _⟩ | ⟨y1, y2⟩
    · rw [if_pos y1, y2]
    · rw [if_neg y1, y2]
  rw [etk, ← hG0] at st
  have htk' : tk = 0 ∧ s = so ∨ tk = 1 := htk.imp (fun y => y.2) (fun y => y.2)
  obtain ⟨m1, m2, m3, m4, m5⟩ := hM
  have hP0 : cPgm S G0 q nx s := hP.ge (Nat.le_refl _) (fun _ _ => rfl) (fun b j y _ => z0 b j (by omega))
  have ho0 : cPgm S G0 qo nxo so := ho.ge (Nat.le_refl _) (fun _ _ => rfl) (fun b j y _ => z0 b j (by omega))
  have hM0 : cMr S G0 nx mp qo rp so xr cr Mo := ⟨m1, by rw [z0 _ _ (by omega)]; exact m2, by rw [z0 _ _ (by omega)]; exact m3, m4, fun r hr => by
    obtain ⟨n1, n2, n3⟩ := m5 r hr
    exact ⟨by rw [z0 _ _ (by omega)]; exact n1, n2, n3.ge (fun _ _ _ => rfl) (fun j => z0 _ _ (by omega)) (fun j => z0 _ _ (by omega)) (fun j => z0 _ _ (by omega))⟩⟩
  have hnp : s.1.length ≤ 16 := hoks.1.1.1
  obtain ⟨G1, i1, i2, i3, i4⟩ := k_145i (f := f) (m := m) hf hs hmp hrp hq226 ho226 hoks hoko htk' s.1.length 0 f G0 (by omega) (by omega) hp0 hP0 ho0 hM0 (fun j hj => absurd hj (Nat.not_lt_zero j))
  have z1 : ∀ b j, ¬ (b = 93 ∧ (j = 1 ∨ j = 13 ∨ j = 14)) → b ≠ 94 → b ≠ 95 → G1 b j = G b j := fun b j y1 y2 y3 => by rw [i2 b j y2 y3, z0 b j y1]
  have hem1 : cEm G1 := fun w w1 w4 => by rw [z1 _ _ (by omega) (by omega) (by omega), z1 _ _ (by omega) (by omega) (by omega)]; exact hem w w1 w4
  have hM1 : ∀ r, r < so.1.length → cRw S G1 (xr r) (qN so r) (cr r) (Mo r) ∧ (203 < xr r ∧ xr r + 2 < nx) := fun r hr => by
    obtain ⟨n1, n2, n3⟩ := m5 r hr
    exact ⟨n3.ge (fun _ _ _ => rfl) (fun j => z1 _ _ (by omega) (by omega) (by omega)) (fun j => z1 _ _ (by omega) (by omega) (by omega)) (fun j => z1 _ _ (by omega) (by omega) (by omega)), n2⟩
  have hqn : q + 10 < nx := hP.2.2.2.2.2.2.2.2
  -- one predicate
  have hex : ∀ p, ∃ w : (Nat × Nat × Nat × Nat) × List pRw × List pRw, p < s.1.length → G1 95 p = ((w.1.1 : Nat) : Int) ∧ G1 94 p = ((w.1.2.1 : Nat) : Int) ∧ ((203 < w.1.1 ∧ w.1.1 + 2 < nx) ∧ cRw S G1 w.1.1 (qN s p) w.1.2.2.1 w.2.1) ∧ ((203 < w.1.2.1 ∧ w.1.2.1 + 2 < nx) ∧ cRw S G1 w.1.2.1 (qN s p) w.1.2.2.2 w.2.2 ∧ w.2.2.Pairwise rwLt ∧ w.2.2.length ≤ 100 ∧ (∀ r ∈ w.2.2, ∀ x ∈ r.1, vOk x) ∧ ∀ r ∈ w.2.2, 0 ≤ r.2 ∧ r.2 ≤ 1700) ∧ bgR so s Mo tk p w.2.1 w.2.2 ∧ ((∃ r, r < so.1.length ∧ w.1.2.1 = xr r) ∨ w.1.2.1 + 2 < 216) ∧ ((∃ r, r < so.1.length ∧ w.1.1 = xr r) ∨ w.1.1 + 2 < 216) := fun p => by
    by_cases hpn : p < s.1.length
    · obtain ⟨a, x, y1, y2, y3⟩ := i4 p hpn
      obtain ⟨w1, w4⟩ := qN_pos hoks hpn
      have er := em_r (w := qN s p) hs i3 hem1 w1 w4
      rcases y3 with ⟨rfl, rfl, rfl⟩ | ⟨rfl, r, r1, r2, r3, rfl, r5⟩ | ⟨rfl, r1, rfl, rfl⟩
      · have e : s = so := by
          rcases htk' with y | y
          · exact y.2
          · omega
        subst e
        obtain ⟨n1, n2⟩ := hM1 p hpn
        exact ⟨((xr p, xr p, cr p, cr p), Mo p, Mo p), fun _ => ⟨y1, y2, ⟨n2, n1⟩, ⟨n2, n1, hMo p hpn⟩, .inl ⟨rfl, rfl, rfl⟩, .inl ⟨p, hpn, rfl⟩, .inl ⟨p, hpn, rfl⟩⟩⟩
      · obtain ⟨n1, n2⟩ := hM1 r r1
        rw [r3] at n1
        rcases r5 with ⟨k1, rfl⟩ | ⟨k1, rfl⟩
        · exact ⟨((xr r, xr r, cr r, cr r), Mo r, Mo r), fun _ => ⟨y1, y2, ⟨n2, n1⟩, ⟨n2, n1, hMo r r1⟩, .inr (.inl ⟨rfl, r, r1, r2, r3, rfl, .inl ⟨k1, rfl⟩⟩), .inl ⟨r, r1, rfl⟩, .inl ⟨r, r1, rfl⟩⟩⟩
        · exact ⟨((xr r, 201 + 3 * qN s p, cr r, 0), Mo r, []), fun _ => ⟨y1, y2, ⟨n2, n1⟩, ⟨by show 203 < 201 + 3 * qN s p ∧ 201 + 3 * qN s p + 2 < nx; omega, er, List.Pairwise.nil, Nat.zero_le _, (fun r hr => by cases hr), (fun r hr => by cases hr)⟩, .inr (.inl ⟨rfl, r, r1, r2, r3, rfl, .inr ⟨k1, rfl⟩⟩), .inr (by show 201 + 3 * qN s p + 2 < 216; omega), .inl ⟨r, r1, rfl⟩⟩⟩
      · exact ⟨((201 + 3 * qN s p, 201 + 3 * qN s p, 0, 0), [], []), fun _ => ⟨y1, y2, ⟨by show 203 < 201 + 3 * qN s p ∧ 201 + 3 * qN s p + 2 < nx; omega, er⟩, ⟨by show 203 < 201 + 3 * qN s p ∧ 201 + 3 * qN s p + 2 < nx; omega, er, List.Pairwise.nil, Nat.zero_le _, (fun r hr => by cases hr), (fun r hr => by cases hr)⟩, .inr (.inr ⟨rfl, r1, rfl, rfl⟩), .inr (by show 201 + 3 * qN s p + 2 < 216; omega), .inr (by show 201 + 3 * qN s p + 2 < 216; omega)⟩⟩
    · exact ⟨((0, 0, 0, 0), [], []), fun y => absurd y hpn⟩
  obtain ⟨W, hW⟩ := Classical.axiomOfChoice hex
  refine ⟨G1, fun p => (W p).1.2.1, fun p => (W p).1.2.2.2, fun p => (W p).1.1, fun p => (W p).1.2.2.1, fun p => (W p).2.2, fun p => (W p).2.1, st.trans i1, z1, i3, ?_, ?_, ⟨⟨hs, i3, ?_, hq226, hP.ge (Nat.le_refl _) (fun _ _ => rfl) (fun b j y _ => z1 b j (by omega) (by omega) (by omega)), hoks⟩, fun p hpn => ?_⟩, fun p hpn => ?_, fun p hpn => (hW p hpn).2.2.2.2.1, fun p hpn => (hW p hpn).2.2.2.2.2⟩
  · rw [i2 _ _ (by omega) (by omega), hG0, xup2_n (by omega), xup2_s]
  · rw [i2 _ _ (by omega) (by omega), hG0, xup2_s]
  · rw [i2 _ _ (by omega) (by omega), hG0, xup2_n (by omega), xup2_n (by omega), xup2_s]
  · obtain ⟨y1, y2, y3, ⟨y4, y5, y6⟩, y7⟩ := hW p hpn
    exact ⟨y2, .inr y4, y5, y6⟩
  · obtain ⟨y1, y2, y3, y4, y5⟩ := hW p hpn
    exact ⟨y1, y3.1, y3.2⟩
end
/-! what the reference starts from is the same -/
section
variable {so s : pPg} {Mo R0 : Nat → List pRw} {F : List pFc} {tk : Int}
theorem bg_R0 {fr : Prop} (hoko : qOk so) (hoks : qOk s) (hm : qSt1 so Mo) (hF : qFa so Mo F) (hfr : fr ↔ tk = 1) (ht : tk = 0 ∧ s = so ∨ tk = 1) (h : qR0 so s fr F R0) {p : Nat} {a x : List pRw} (hp : p < s.1.length) (hi : pIn s.2.1 (p : Int) = true) (hb : bgR so s Mo tk p a x) : R0 p = x := by
  -- rows of a kept INPUT
  have kept : ∀ r, r < so.1.length → qNm so r = qNm s p → qN so r = qN s p → pIn so.2.1 (r : Int) = true → ∀ (cd : Prop), cd → (R0 p).Pairwise rwLt → (∀ y, y ∈ R0 p ↔ cd ∧ y.2 = 0 ∧ (qNm s p, y.1) ∈ F ∧ y.1.length = qN s p) → R0 p = Mo r := fun r r1 r2 r3 r4 cd hc hs hy => by
    refine srt_ext (lt := rwLt) (fun a => vLt_irr a.1) (fun a b c => vLt_tr) _ _ hs (hm.1.1 r r1).2.1 (fun y => ?_)
    rw [hy y]
    constructor
    · rintro ⟨_, y1, y2, y3⟩
      obtain ⟨r', z1, z2, w, z3, z4⟩ := (hF.2 _).mp y2
      have : r' = r := nm_inj hoko z1 r1 (z2.symm.trans r2.symm)
      subst this
      have e : w = y := Prod.ext z4 (by rw [y1]; exact hm.2 r' r1 r4 w z3)
      rw [← e]; exact z3
    · intro y1
      exact ⟨hc, hm.2 r r1 r4 y y1, (hF.2 _).mpr ⟨r, r1, r2.symm, y, y1, rfl⟩, by rw [((hm.1.1 r r1).2.2 y y1).1, r3]⟩
  rcases h with ⟨h1, h2⟩ | ⟨h1, h2⟩
  · have e1 := hfr.mp h1
    obtain ⟨c1, c2, c3⟩ := h2 p hp
    have none : ¬ kpC so s p → R0 p = [] := fun hk => by
      cases hq : R0 p with
      | nil => rfl
      | cons y l => exact absurd ((c3 y).mp (by rw [hq]; exact List.mem_cons_self)).1 hk
    rcases hb with ⟨b1, _⟩ | ⟨_, r, r1, r2, r3, rfl, ⟨k1, rfl⟩ | ⟨k1, rfl⟩⟩ | ⟨_, r1, _, rfl⟩
    · omega
    · have hk := (kpC_i hoko r1 r2 r3).mp k1
      exact kept r r1 r2 r3 hk.2.1 _ k1 c1 c3
    · exact none k1
    · exact none (fun ⟨_, r, y1, y2, _, y3, _⟩ => r1 r y1 y2 y3)
  · have e1 : tk = 0 ∧ s = so := ht.resolve_right (fun q => h1 (hfr.mpr q))
    obtain ⟨e1, rfl⟩ := e1
    obtain ⟨c1, c2, c3⟩ := h2 p hp
    rcases hb with ⟨_, _, rfl⟩ | ⟨b1, _⟩ | ⟨b1, _⟩
    · exact kept p hp rfl rfl hi _ hi c1 c3
    · omega
    · omega
end
