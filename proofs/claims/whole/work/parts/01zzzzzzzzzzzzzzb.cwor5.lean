/-! THE CLASS: the SHEET: worth() whole -/
/-- code stands from b on -/
def cAK (G : xG_) (o b : Nat) (K : pCd) : Prop := ∀ k, k < K.length → G (o + 1) (b + k) = (K.getD k (0, 0)).1 ∧ G (o + 2) (b + k) = (K.getD k (0, 0)).2
theorem cAK.l {G : xG_} {o b : Nat} {A B : pCd} (h : cAK G o b (A ++ B)) : cAK G o b A := fun k hk => by
  have := h k (by rw [List.length_append]; omega)
  rw [List.getD_eq_getElem?_getD, List.getElem?_append_left hk, ← List.getD_eq_getElem?_getD] at this
  exact this
theorem cAK.r {G : xG_} {o b : Nat} {A B : pCd} (h : cAK G o b (A ++ B)) : cAK G o (b + A.length) B := fun k hk => by
  have := h (A.length + k) (by rw [List.length_append]; omega)
  rw [List.getD_eq_getElem?_getD, List.getElem?_append_right (by omega), ← List.getD_eq_getElem?_getD, show A.length + k - A.length = k by omega, ← Nat.add_assoc] at this
  exact this
theorem cRm_app : ∀ A B : pCd, cRm (A ++ B) = cRm A ||| cRm B
  | [], B => by show cRm B = 0 ||| cRm B; rw [Nat.zero_or]
  | a :: A, B => by
    show cR1 a ||| cRm (A ++ B) = (cR1 a ||| cRm A) ||| cRm B
    rw [cRm_app A B, Nat.or_assoc]
theorem or_D {D : Nat → Prop} {a b : Nat} (h : ∀ x, (a ||| b).testBit x = true → D x) : (∀ x, a.testBit x = true → D x) ∧ ∀ x, b.testBit x = true → D x := ⟨fun x q => h x (by rw [Nat.testBit_or, q]; rfl), fun x q => h x (by rw [Nat.testBit_or, q, Bool.or_true])⟩
theorem fW_lf {N : List pNd} {C : fCs} {s : pPg} {M : Nat → List pRw} {n i : Nat} {c : Int × Int} (h : lf (N.getD i dNd) = some c) : fW N C s M (n + 1) i = fL C s M (N.getD i dNd) := by
  show (if (N.getD i dNd).1 = 1 then _ else _) = _
  generalize N.getD i dNd = y at h
  unfold lf at h
  unfold fL
  by_cases c1 : y.1 = 1
  · rw [if_pos c1, if_pos c1]
  · rw [if_neg c1, if_neg c1]
    rw [if_neg c1] at h
    by_cases c2 : y.1 = 2
    · rw [if_pos c2, if_pos c2]
    · rw [if_neg c2, if_neg c2]
      rw [if_neg c2] at h
      by_cases c4 : y.1 = 4 ∨ y.1 = 5
      · rw [if_neg (show ¬ y.1 = 3 by omega), if_pos c4, if_pos c4]
      · rw [if_neg c4] at h
        by_cases c6 : 6 ≤ y.1 ∧ y.1 ≤ 9
        · rw [if_neg (show ¬ y.1 = 3 by omega), if_neg c4, if_neg (show ¬ y.1 = 10 by omega), if_neg c4]
        · rw [if_neg c6] at h
          cases h
section
variable {f nx mo cc q rp o L : Nat} {S : Nat → Nat × Nat × Nat} {m : Nat × Nat} {s : pPg} {xr cr : Nat → Nat} {M : Nat → List pRw} {C : fCs} {D : Nat → Prop} {N : List pNd}
theorem k_105c (hf : 600 < f) (hN : wFm N) : ∀ (F : Nat) (r : Int) (b h : Nat) (K : pCd), isC N F r b h K → ∀ (G : xG_) (ht : Nat), cSe S G nx mo cc q rp s xr cr M C D → cKd S G o L → cAK G o b K → b + K.length ≤ L → ht + h ≤ 32 → (∀ x, (cRm K).testBit x = true → D x) → ∃ d G', wS9 f o ht (ht + 1) b (b + K.length) d (S, G, m) (S, G', m) ∧ xK ht G G' ∧ d ≤ K.length ∧ ∀ n, r.toNat < n → G' 219 ht = eW (fW N C s M n r.toNat) := by
  intro F
  induction F with
  | zero => intro r b h K hc; exact hc.elim
  | succ F ih =>
    intro r b h K hc G ht hSe hK hA hL hh hD
    have okK := okCd_of hN (F + 1) r b h K hc
    obtain ⟨⟨h1, h2⟩, h0, h3⟩ := hc
    have hy := hN r.toNat (by omega)
    have hs := hSe.1
    have hp := hSe.2.1
    have hk62 := hK.2.2.2.2.2.1
    have hko := hK.2.2.2.2.2.2
    obtain ⟨_, _, _, _, _, _, _, hC, hM, hl, _⟩ := id hSe
    have okv : ∀ n i, i < n → i < N.length → okW (fW N C s M n i) := fW_ok hN hC hM (fun p hp => Nat.le_trans (hl p hp) (by decide))
    -- an operand
    have leaf : ∀ c : Int × Int, lf (N.getD r.toNat dNd) = some c → c.1 % 256 ≤ 13 → K = [c] → ∃ d G', wS9 f o ht (ht + 1) b (b + K.length) d (S, G, m) (S, G', m) ∧ xK ht G G' ∧ d ≤ K.length ∧ ∀ n, r.toNat < n → G' 219 ht = eW (fW N C s M n r.toNat) := by
      intro c hlf h13 e
      subst e
      have hcr := (cRm_n [N.getD r.toNat dNd] (fun y hy' => by rw [List.mem_singleton] at hy'; rw [hy']; exact ⟨_, _, hy⟩)).1
      rw [List.filterMap_cons_some hlf] at hcr
      have hcr' : cRm [c] = nR1 (N.getD r.toNat dNd) ||| 0 := hcr
      rw [Nat.or_zero] at hcr'
      rw [hcr'] at hD
      have e := k_106 (f := f) (m := m) hf hSe hy hlf hD
      have q0 := hA 0 (by simp)
      have q1 : G (o + 1) b = c.1 := q0.1
      have q2 : G (o + 2) b = c.2 := q0.2
      have hL' : b + 1 ≤ L := hL
      refine ⟨1, xup2 G 219 ht (eW (fL C s M (N.getD r.toNat dNd))), fun fu => st_105o hs hp hK (by omega) q1 q2 (okK c (List.mem_singleton.mpr rfl)).1 h13 (by omega) e, fun a j z => xup2_n (by omega), Nat.le_refl _, fun n hn => ?_⟩
      obtain ⟨n, rfl⟩ : ∃ t, n = t + 1 := ⟨n - 1, by omega⟩
      rw [xup2_s, fW_lf hlf]
    unfold wNd at hy
    rcases h3 with ⟨z, z2⟩ | ⟨z, z2⟩ | ⟨z, A, E, a1, a2, a3⟩ | ⟨z, z2⟩ | ⟨z, z2⟩ | ⟨z, A, E, H, a1, a2, a3, a4⟩
    · exact leaf _ (if_pos z) (by show (1 : Int) % 256 ≤ 13; decide) z2
    · exact leaf _ (by unfold lf; rw [if_neg (show ¬ _ = (1 : Int) by omega), if_pos z]) (by show (2 : Int) % 256 ≤ 13; decide) z2
    · subst a3
      rw [cRm_app, cRm_app] at hD
      obtain ⟨hD1, _⟩ := or_D hD
      obtain ⟨hDA, hDE⟩ := or_D hD1
      have hlA : (A ++ E ++ [((N.getD r.toNat dNd).2.2.2.1, (0 : Int))]).length = A.length + E.length + 1 := by simp only [List.length_append, List.length_singleton]
      rw [hlA] at hL ⊢
      obtain ⟨d1, G1, b1, b2, b3, b4⟩ := ih _ b h A a1 G ht hSe hK hA.l.l (by omega) hh hDA
      have hSe1 := hSe.k b2
      have hK1 := hK.k b2
      have kk : ∀ {G' : xG_} {t b' : Nat} {K' : pCd}, xK t G G' → cAK G o b' K' → cAK G' o b' K' := fun {G' t b' K'} hx hc k hk' => by rw [hx _ _ (by omega), hx _ _ (by omega)]; exact hc k hk'
      have h1' : 1 ≤ h - 1 := by
        cases F with
        | zero => exact a2.elim
        | succ F => exact a2.2.1
      obtain ⟨d2, G2, c1, c2, c3, c4⟩ := ih _ (b + A.length) (h - 1) E a2 G1 (ht + 1) hSe1 hK1 (kk b2 hA.l.r) (by omega) (by omega) hDE
      have hSe2 := hSe1.k c2
      have hK2 := hK1.k c2
      have b2' : xK ht G G2 := b2.tr (c2.up (by omega))
      have q0 := (kk b2' hA.r) 0 (by simp)
      have q1 : G2 (o + 1) (b + (A ++ E).length) = (N.getD r.toNat dNd).2.2.2.1 := q0.1
      rw [List.length_append] at q1
      have hw3 : (0 ≤ (N.getD r.toNat dNd).2.1 ∧ (N.getD r.toNat dNd).2.1 < r.toNat) ∧ (0 ≤ (N.getD r.toNat dNd).2.2.1 ∧ (N.getD r.toNat dNd).2.2.1 < r.toNat) ∧ ((N.getD r.toNat dNd).2.2.2.1 = 42 ∨ (N.getD r.toNat dNd).2.2.2.1 = 47 ∨ (N.getD r.toNat dNd).2.2.2.1 = 37 ∨ (N.getD r.toNat dNd).2.2.2.1 = 43 ∨ (N.getD r.toNat dNd).2.2.2.1 = 45) := by omega
      obtain ⟨w1, w2, w3⟩ := hw3
      have v1 : G2 219 ht = eW (fW N C s M r.toNat (N.getD r.toNat dNd).2.1.toNat) := by rw [c2 _ _ (by omega)]; exact b4 _ (by omega)
      have v2 : G2 219 (ht + 1) = eW (fW N C s M r.toNat (N.getD r.toNat dNd).2.2.1.toNat) := c4 _ (by omega)
      have er := k_192s (f := f) (T := (S, G2, m)) (op := (N.getD r.toNat dNd).2.2.2.1) (by omega) (okv r.toNat (N.getD r.toNat dNd).2.1.toNat (by omega) (by omega)) (okv r.toNat (N.getD r.toNat dNd).2.2.1.toNat (by omega) (by omega))
      generalize hres : eW (ebind (fW N C s M r.toNat (N.getD r.toNat dNd).2.1.toNat) fun a => ebind (fW N C s M r.toNat (N.getD r.toNat dNd).2.2.1.toNat) fun b => fSg (N.getD r.toNat dNd).2.2.2.1 a b) = res at er
      have st3 : wS9 f o (ht + 2) (ht + 1) (b + (A.length + E.length)) (b + (A.length + E.length) + 1) 1 (S, G2, m) (S, xup2 G2 219 ht res, m) := fun fu => st_105s (c := ((N.getD r.toNat dNd).2.2.2.1, 0)) hSe2.1 hSe2.2.1 hK2 (by omega) q1 (by show 15 < (N.getD r.toNat dNd).2.2.2.1 ∧ (N.getD r.toNat dNd).2.2.2.1 < 256; omega) (by omega) v1 v2 er
      have e1 : b + A.length + E.length = b + (A.length + E.length) := by omega
      have e2 : b + (A.length + E.length) + 1 = b + (A.length + E.length + 1) := by omega
      rw [e1] at c1
      rw [e2] at st3
      refine ⟨d1 + d2 + 1, xup2 G2 219 ht res, (b1.tr c1).tr st3, b2'.tr (fun a j zz => xup2_n (by omega)), by omega, fun n hn => ?_⟩
      obtain ⟨n, rfl⟩ : ∃ t, n = t + 1 := ⟨n - 1, by omega⟩
      rw [xup2_s, ← hres]
      have en : fW N C s M (n + 1) r.toNat = ebind (fW N C s M n (N.getD r.toNat dNd).2.1.toNat) fun a => ebind (fW N C s M n (N.getD r.toNat dNd).2.2.1.toNat) fun b => fSg (N.getD r.toNat dNd).2.2.2.1 a b := by
        show (if (N.getD r.toNat dNd).1 = 1 then _ else if (N.getD r.toNat dNd).1 = 2 then _ else if (N.getD r.toNat dNd).1 = 3 then _ else _) = _
        rw [if_neg (by omega), if_neg (by omega), if_pos z]
      rw [en]
      have f1 : eW (fW N C s M r.toNat (N.getD r.toNat dNd).2.1.toNat) = eW (fW N C s M n (N.getD r.toNat dNd).2.1.toNat) := by rw [← b4 _ (by omega), ← b4 _ (by omega)]
      have f2 : eW (fW N C s M r.toNat (N.getD r.toNat dNd).2.2.1.toNat) = eW (fW N C s M n (N.getD r.toNat dNd).2.2.1.toNat) := by rw [← c4 _ (by omega), ← c4 _ (by omega)]
      have inj : ∀ x y : fWo, okW x → okW y → eW x = eW y → x = y := fun x y hx hy e => by
        cases x with
        | inl a =>
          have ha : 1 ≤ a ∧ a ≤ 4 := hx
          cases y with
          | inl b =>
            have e' : -9000000000000000000 + a = -9000000000000000000 + b := e
            rw [show a = b by omega]
          | inr b =>
            have hb : vOk b := hy
            have e' : -9000000000000000000 + a = b := e
            unfold vOk at hb
            omega
        | inr a =>
          have ha : vOk a := hx
          cases y with
          | inl b =>
            have hb : 1 ≤ b ∧ b ≤ 4 := hy
            have e' : a = -9000000000000000000 + b := e
            unfold vOk at ha
            omega
          | inr b =>
            have e' : a = b := e
            rw [e']
      rw [inj _ _ (okv _ _ (by omega) (by omega)) (okv _ _ (by omega) (by omega)) f1, inj _ _ (okv _ _ (by omega) (by omega)) (okv _ _ (by omega) (by omega)) f2]
    · exact leaf _ (by unfold lf; rw [if_neg (show ¬ _ = (1 : Int) by omega), if_neg (show ¬ _ = (2 : Int) by omega), if_pos z]) (by show ((N.getD r.toNat dNd).1 - 1) % 256 ≤ 13; omega) z2
    · exact leaf _ (by unfold lf; rw [if_neg (show ¬ _ = (1 : Int) by omega), if_neg (show ¬ _ = (2 : Int) by omega), if_neg (show ¬ (_ = (4 : Int) ∨ _ = (5 : Int)) by omega), if_pos z]) (by show ((N.getD r.toNat dNd).1 + 4 + 256 * (N.getD r.toNat dNd).2.1) % 256 ≤ 13; omega) z2
    · subst a4
      rw [cRm_app, cRm_app, cRm_app, cRm_app] at hD
      obtain ⟨hD1, hDH⟩ := or_D hD
      obtain ⟨hD2, _⟩ := or_D hD1
      obtain ⟨hD3, hDE⟩ := or_D hD2
      obtain ⟨hDA, _⟩ := or_D hD3
      have l1 : (A ++ [((14 : Int), ((b + A.length + E.length + 2 : Nat) : Int))]).length = A.length + 1 := by rw [len1]
      have l2 : (A ++ [((14 : Int), ((b + A.length + E.length + 2 : Nat) : Int))] ++ E).length = A.length + 1 + E.length := by rw [List.length_append, l1]
      have l3 : (A ++ [((14 : Int), ((b + A.length + E.length + 2 : Nat) : Int))] ++ E ++ [((15 : Int), ((b + A.length + E.length + H.length + 2 : Nat) : Int))]).length = A.length + 1 + E.length + 1 := by rw [len1, l2]
      have l4 : (A ++ [((14 : Int), ((b + A.length + E.length + 2 : Nat) : Int))] ++ E ++ [((15 : Int), ((b + A.length + E.length + H.length + 2 : Nat) : Int))] ++ H).length = A.length + 1 + E.length + 1 + H.length := by rw [List.length_append, l3]
      have kA := hA.l.l.l.l
      have k14 := hA.l.l.l.r
      have kE := hA.l.l.r
      have k15 := hA.l.r
      have kH := hA.r
      rw [l1] at kE
      rw [l2] at k15
      rw [l3] at kH
      rw [l4] at hL ⊢
      have kk : ∀ {G' : xG_} {t b' : Nat} {K' : pCd}, xK t G G' → cAK G o b' K' → cAK G' o b' K' := fun {G' t b' K'} hx hc k hk' => by rw [hx _ _ (by omega), hx _ _ (by omega)]; exact hc k hk'
      have hw3 : (0 ≤ (N.getD r.toNat dNd).2.1 ∧ (N.getD r.toNat dNd).2.1 < r.toNat) ∧ (0 ≤ (N.getD r.toNat dNd).2.2.1 ∧ (N.getD r.toNat dNd).2.2.1 < r.toNat) ∧ (0 ≤ (N.getD r.toNat dNd).2.2.2.1 ∧ (N.getD r.toNat dNd).2.2.2.1 < r.toNat) := by omega
      obtain ⟨w1, w2, w3⟩ := hw3
      obtain ⟨d1, G1, b1, b2, b3, b4⟩ := ih _ b h A a1 G ht hSe hK kA (by omega) hh hDA
      have hSe1 := hSe.k b2
      have hK1 := hK.k b2
      have t0 := (kk b2 k14) 0 (by simp)
      have t1 : G1 (o + 1) (b + A.length) = 14 := t0.1
      have t2 : G1 (o + 2) (b + A.length) = ((b + A.length + E.length + 2 : Nat) : Int) := t0.2
      have j0 := k15 0 (by simp)
      have j1 : G (o + 1) (b + (A.length + 1 + E.length)) = 15 := j0.1
      have j2 : G (o + 2) (b + (A.length + 1 + E.length)) = ((b + A.length + E.length + H.length + 2 : Nat) : Int) := j0.2
      have tst : ∀ fu, c105_4 f (fu + 1) 216 o ((ht + 1 : Nat) : Int) ((b + A.length : Nat) : Int) (S, G1, m) = _ := fun fu => st_105t (a := b + A.length + E.length + 2) (ht := ht) (fu := fu) hSe1.1 hSe1.2.1 hK1 (by omega) t1 t2 (by omega) (by omega) (by omega) rfl
      have jmp : ∀ (G' : xG_) (t : Nat), xK t G G' → cKd S G' o L → wS9 f o (ht + 1) (ht + 1) (b + (A.length + 1 + E.length)) (b + (A.length + 1 + E.length + 1 + H.length)) 1 (S, G', m) (S, G', m) := fun G' t hx hk' fu => by
        have := st_105j (f := f) (m := m) (a := b + A.length + E.length + H.length + 2) (ht := ht + 1) (fu := fu) hk' (by omega : b + (A.length + 1 + E.length) < L) (by rw [hx _ _ (by omega)]; exact j1) (by rw [hx _ _ (by omega)]; exact j2) (by omega) (by omega)
        rw [show b + A.length + E.length + H.length + 2 = b + (A.length + 1 + E.length + 1 + H.length) by omega] at this
        exact this
      have en : ∀ n, fW N C s M (n + 1) r.toNat = ebind (fW N C s M n (N.getD r.toNat dNd).2.1.toNat) fun a => if a = 0 then fW N C s M n (N.getD r.toNat dNd).2.2.2.1.toNat else fW N C s M n (N.getD r.toNat dNd).2.2.1.toNat := fun n => by
        show (if (N.getD r.toNat dNd).1 = 1 then _ else if (N.getD r.toNat dNd).1 = 2 then _ else if (N.getD r.toNat dNd).1 = 3 then _ else if (N.getD r.toNat dNd).1 = 4 ∨ (N.getD r.toNat dNd).1 = 5 then _ else if (N.getD r.toNat dNd).1 = 10 then _ else _) = _
        rw [if_neg (by omega), if_neg (by omega), if_neg (by omega), if_neg (by omega), if_pos z]
      have v0 := b4 r.toNat (by omega)
      have ok0 := okv r.toNat (N.getD r.toNat dNd).2.1.toNat (by omega) (by omega)
      cases hx : fW N C s M r.toNat (N.getD r.toNat dNd).2.1.toNat with
      | inl e =>
        rw [hx] at v0 ok0
        have he : 1 ≤ e ∧ e ≤ 4 := ok0
        have v0' : G1 219 ht = -9000000000000000000 + e := v0
        have s1 : wS9 f o (ht + 1) (ht + 1) (b + A.length) (b + (A.length + 1 + E.length)) 1 (S, G1, m) (S, G1, m) := fun fu => by
          rw [tst fu, if_pos (by omega), show b + A.length + E.length + 2 - 1 = b + (A.length + 1 + E.length) by omega]
        refine ⟨d1 + 1 + 1, G1, (b1.tr s1).tr (jmp G1 ht b2 hK1), b2, by omega, fun n hn => ?_⟩
        obtain ⟨n, rfl⟩ : ∃ t, n = t + 1 := ⟨n - 1, by omega⟩
        rw [en n, v0]
        have f1 := b4 n (by omega)
        rw [v0] at f1
        have okn := okv n (N.getD r.toNat dNd).2.1.toNat (by omega) (by omega)
        cases hn' : fW N C s M n (N.getD r.toNat dNd).2.1.toNat with
        | inl e' =>
          rw [hn'] at f1
          exact f1
        | inr v =>
          rw [hn'] at f1 okn
          have okn' : vOk v := okn
          have f1' : -9000000000000000000 + e = v := f1
          unfold vOk at okn'
          omega
      | inr v =>
        rw [hx] at v0 ok0
        have hv : vOk v := ok0
        have v0' : G1 219 ht = v := v0
        have hvl : ¬ v < -1000000000000 := by unfold vOk at hv; omega
        have cond : ∀ n, r.toNat ≤ n → fW N C s M n (N.getD r.toNat dNd).2.1.toNat = .inr v := fun n hn => by
          have f1 := b4 n (by omega)
          rw [v0'] at f1
          have okn := okv n (N.getD r.toNat dNd).2.1.toNat (by omega) (by omega)
          cases hn' : fW N C s M n (N.getD r.toNat dNd).2.1.toNat with
          | inl e' =>
            rw [hn'] at f1 okn
            have okn' : 1 ≤ e' ∧ e' ≤ 4 := okn
            have f1' : v = -9000000000000000000 + e' := f1
            omega
          | inr w =>
            rw [hn'] at f1
            have f1' : v = w := f1
            rw [f1']
        by_cases c0 : v = 0
        · have s1 : wS9 f o (ht + 1) ht (b + A.length) (b + (A.length + 1 + E.length + 1)) 1 (S, G1, m) (S, G1, m) := fun fu => by
            rw [tst fu, v0', if_neg hvl, if_pos c0, show b + A.length + E.length + 2 = b + (A.length + 1 + E.length + 1) by omega]
          obtain ⟨d2, G2, c1, c2, c3, c4⟩ := ih _ (b + A.length + 1 + E.length + 1) h H a3 G1 ht hSe1 hK1 (by
            have := kk b2 kH
            rw [show b + (A.length + 1 + E.length + 1) = b + A.length + 1 + E.length + 1 by omega] at this
            exact this) (by omega) hh hDH
          rw [show b + A.length + 1 + E.length + 1 + H.length = b + (A.length + 1 + E.length + 1 + H.length) by omega, show b + A.length + 1 + E.length + 1 = b + (A.length + 1 + E.length + 1) by omega] at c1
          refine ⟨d1 + 1 + d2, G2, (b1.tr s1).tr c1, b2.tr c2, by omega, fun n hn => ?_⟩
          obtain ⟨n, rfl⟩ : ∃ t, n = t + 1 := ⟨n - 1, by omega⟩
          rw [en n, cond n (by omega)]
          show _ = eW (if v = 0 then _ else _)
          rw [if_pos c0]
          exact c4 n (by omega)
        · have s1 : wS9 f o (ht + 1) ht (b + A.length) (b + A.length + 1) 1 (S, G1, m) (S, G1, m) := fun fu => by
            rw [tst fu, v0', if_neg hvl, if_neg c0]
          obtain ⟨d2, G2, c1, c2, c3, c4⟩ := ih _ (b + A.length + 1) h E a2 G1 ht hSe1 hK1 (by
            have := kk b2 kE
            rw [show b + (A.length + 1) = b + A.length + 1 by omega] at this
            exact this) (by omega) hh hDE
          rw [show b + A.length + 1 + E.length = b + (A.length + 1 + E.length) by omega] at c1
          refine ⟨d1 + 1 + d2 + 1, G2, ((b1.tr s1).tr c1).tr (jmp G2 ht (b2.tr c2) (hK1.k c2)), b2.tr c2, by omega, fun n hn => ?_⟩
          obtain ⟨n, rfl⟩ : ∃ t, n = t + 1 := ⟨n - 1, by omega⟩
          rw [en n, cond n (by omega)]
          show _ = eW (if v = 0 then _ else _)
          rw [if_neg c0]
          exact c4 n (by omega)
/-- worth() -/
theorem k_105 {G : xG_} {e : List pNd × Int} (hf : 700 < f) (h : cSe S G nx mo cc q rp s xr cr M C D) (ho : 226 < o) (hF : cFm S G o e) (he : e.1.length ≤ 62) (hD : ∀ x, (nRd e.1).testBit x = true → D x) : ∃ G', c105 f 216 o (S, G, m) = some (eW (fWr e.1 e.2 C s M), (S, G', m)) ∧ xK 0 G G' := by
  obtain ⟨K, F, ⟨k1, k2, k3⟩, ⟨k4, k5⟩, k6, k7, k8, k9, k10, k11, k12, k13⟩ := hF
  have hcr : cRm K = nRd e.1 := by rw [← (cRm_n e.1 k11.all).1, k10, (cRm_f K).1]
  have hr : 0 ≤ e.2 ∧ e.2 < e.1.length := by
    cases F with
    | zero => exact k9.elim
    | succ F => exact k9.1
  obtain ⟨d, G', a1, a2, a3, a4⟩ := k_105c (f := f) (m := m) (by omega) k11 F e.2 0 11 K k9 G 0 h ⟨k1, k2, k3, k4, k5, k12, ho⟩ (fun k hk => by rw [Nat.zero_add]; exact k6 k hk) (by omega) (by decide) (by rw [hcr]; exact hD)
  have h' := h.k a2
  have hk' : cKd S G' o K.length := cKd.k ⟨k1, k2, k3, k4, k5, k12, ho⟩ a2
  have hl := ln_o (m := m) (T := (S, G, m)) hk'
  refine ⟨G', ?_, a2⟩
  have e1 : c105 f 216 o (S, G, m) = c105_4 f (f - d) 216 o ((0 + 1 : Nat) : Int) ((0 + K.length : Nat) : Int) (S, G', m) := by
    rw [← a1 (f - d), show f - d + d = f by omega]
    rfl
  have hlast : G' 219 0 = eW (fWr e.1 e.2 C s M) := a4 64 (by omega)
  have g1 : cq_gr 0 0 5 o (S, G', m) = some (o + 1) := by
    show (if S o = (1, 0, 5) then some (G' o 0).toNat else none) = _
    rw [if_pos k1, hk'.2.2.2.1, Int.toNat_natCast]
  have g4 : cq_gr 7 4 5 216 (S, G', m) = some 219 := by
    show (if S 216 = (1, 7, 5) then some (G' 216 4).toNat else none) = _
    rw [if_pos (s216 h.1), p216_4 h'.2.1]; rfl
  have ga : cq_a 4 219 0 (S, G', m) = some (G' 219 0) := by
    unfold cq_a
    show (if (S 219).1 = 2 ∧ (S 219).2.1 = 4 ∧ 0 ≤ (0 : Int) ∧ (0 : Int) < ((S 219).2.2 : Int) then some (G' 219 (0 : Int).toNat) else none) = _
    rw [s219 h.1, if_pos ⟨rfl, rfl, by decide, by decide⟩]
    rfl
  rw [e1]
  obtain ⟨g, hg⟩ : ∃ g, f - d = g + 1 := ⟨f - d - 1, by omega⟩
  rw [hg]
  show c105_4b (c105_4 f g) f 216 o _ _ _ = _
  unfold c105_4b
  rw [g1, Option.bind_some, hl, Option.bind_some, if_pos (by omega), g4, Option.bind_some, ga, Option.bind_some, hlast]
end
