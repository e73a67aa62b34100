section
/-! THE CLASS: round(): what its logs count -/
theorem lgC_app {α : Type} {l l' : List (Int × α)} {r : Nat} : lgC (l ++ l') r = lgC l r + lgC l' r := by
  unfold lgC
  rw [List.filter_append, List.length_append]
theorem lgC_all {α : Type} {l : List (Int × α)} {r : Nat} (h : ∀ a ∈ l, a.1 = (r : Int)) : lgC l r = l.length := by
  unfold lgC
  rw [List.filter_eq_self.mpr (fun a ha => decide_eq_true (h a ha))]
theorem lgC_no {α : Type} {l : List (Int × α)} {r : Nat} (h : ∀ a ∈ l, a.1 ≠ (r : Int)) : lgC l r = 0 := by
  unfold lgC
  rw [List.filter_eq_nil_iff.mpr (fun a ha z => h a ha (of_decide_eq_true z))]
  rfl
theorem lgC_cat {α : Type} {g : Nat → List (Int × α)} (hg : ∀ r, ∀ a ∈ g r, a.1 = (r : Int)) {b r : Nat} (h1 : b < r) : ∀ k, r ≤ b + k → lgC (hCat g b k) r = (g r).length
  | 0, h => by omega
  | k + 1, h => by
    show lgC (hCat g b k ++ g (b + k + 1)) r = _
    rw [lgC_app]
    by_cases c : r = b + k + 1
    · rw [lgC_no (fun a ha => by have := (hCat_mem hg k ha).2; omega), c, lgC_all (hg _), Nat.zero_add]
    · rw [lgC_cat hg h1 k (by omega), lgC_no (fun a ha => by rw [hg _ a ha]; omega), Nat.add_zero]
theorem tmIs_u {L : List pLg} {C : List pCg} {E : List pEg} {old x y : Int} (h : tmIs L C E old x) (h' : tmIs L C E old y) : x = y := by
  obtain ⟨a1, a2, a3⟩ := h
  obtain ⟨b1, b2, b3⟩ := h'
  rcases (by omega : x < y ∨ x = y ∨ y < x) with z | z | z
  · exact absurd a2 (b3 x a1 z)
  · exact z
  · exact absurd b2 (a3 y b1 z)
theorem tC9_cg {G : xG_} {ln : Nat} {W : Nat → Int} {rd : Int} {K : Nat → Nat} : ∀ n, (∀ c, c < n → (G (ln + 7) c = 0 ↔ W c = -1)) → tC9 G ln n = (cgN rd K W n).length
  | 0, _ => rfl
  | n + 1, h => by
    show tC9 G ln n + _ = (cgN rd K W n ++ _).length
    rw [List.length_append, tC9_cg n (fun c hc => h c (by omega))]
    by_cases q : W n = -1
    · rw [if_pos ((h n (by omega)).mpr q), if_pos q]; rfl
    · rw [if_neg (fun z => q ((h n (by omega)).mp z)), if_neg q]; rfl
theorem hLg_n {H : Nat → sMo} {r r0 : Nat} {mo : sMo} (h : r < r0) : hLg (hAd H r0 mo) r = hLg H r ∧ hCg (hAd H r0 mo) r = hCg H r ∧ hEg (hAd H r0 mo) r = hEg H r := by
  unfold hLg hCg hEg
  rw [hAd_n (by omega), hAd_n (by omega)]
  exact ⟨rfl, rfl, rfl⟩
theorem hLg_s {H : Nat → sMo} {r : Nat} {mo : sMo} : hLg (hAd H (r + 1) mo) (r + 1) = lgR ((r + 1 : Nat) : Int) mo.2.1 (H r).2.1 ∧ hCg (hAd H (r + 1) mo) (r + 1) = cgN ((r + 1 : Nat) : Int) (H r).2.2.1 mo.2.2.2.1 72 ∧ (hEg (hAd H (r + 1) mo) (r + 1)).length = if mo.2.2.2.2 = true then 1 else 0 := by
  unfold hLg hCg hEg
  rw [hAd_s, Nat.add_sub_cancel, hAd_n (by omega)]
  refine ⟨rfl, rfl, ?_⟩
  by_cases q : mo.2.2.2.2 = true
  · rw [if_pos q, if_pos q]; rfl
  · rw [if_neg q, if_neg q]; rfl
theorem lgR_le {rd : Int} {A B : List pFc} : (lgR rd A B).length ≤ A.length + B.length := by
  unfold lgR
  rw [List.length_append, lgD_ln2, lgD_ln2]
  have h1 := List.length_filter_le (fun y => ! decide (y ∈ A)) B
  have h2 := List.length_filter_le (fun y => ! decide (y ∈ B)) A
  omega
theorem hEg_le {H : Nat → sMo} {r : Nat} : (hEg H r).length ≤ 1 := by
  unfold hEg
  by_cases q : (H r).2.2.2.2 = true
  · rw [if_pos q]; exact Nat.le_refl _
  · rw [if_neg q]; exact Nat.zero_le _
theorem qCw_w {X : fXs} {s : pPg} {fr : Prop} {W W' : Nat → Int} {C D : fCs} {H : Nat → Prop} {c : Nat} (h : W c = W' c) : qCw X s fr W C D H c ↔ qCw X s fr W' C D H c := by
  unfold qCw
  rw [h]
theorem qFa.cg {s : pPg} {M M' : Nat → List pRw} {F : List pFc} (h : qFa s M F) (e : ∀ p, p < s.1.length → M p = M' p) : qFa s M' F := ⟨h.1, fun y => by
  rw [h.2 y]
  constructor
  · rintro ⟨p, p1, p2, w, p3, p4⟩
    exact ⟨p, p1, p2, w, by rw [← e p p1]; exact p3, p4⟩
  · rintro ⟨p, p1, p2, w, p3, p4⟩
    exact ⟨p, p1, p2, w, by rw [e p p1]; exact p3, p4⟩⟩
theorem xX_nx {T : List (List Int)} {K : Nat → Nat} {W : Nat → Int} {c : Nat} (hc : c < 72) : xOf T (kNx K W 72) c = if W c = -1 then xOf T K c else xOf T (fun c => (W c).toNat) c := by
  by_cases q : W c = -1
  · rw [if_pos q]
    exact xOf_1 (by unfold kNx; rw [if_neg (fun z => z.2 q)])
  · rw [if_neg q]
    exact xOf_1 (by unfold kNx; rw [if_pos ⟨hc, q⟩])
theorem xX_ge {T : List (List Int)} {K : Nat → Nat} {W : Nat → Int} {c : Nat} (hc : 72 ≤ c) : xOf T (kNx K W 72) c = xOf T K c := xOf_1 (by unfold kNx; rw [if_neg (fun z => by omega)])
end
section
/-! THE CLASS: round(): a round is made -/
/-- cells that a round may change -/
def xRd9 (A ln R : Nat) (G G' : xG_) : Prop := ∀ a j, a < A → ¬ (a = 64 ∧ (j = 12 ∨ j = 13)) → ¬ (216 ≤ a ∧ a ≤ 219) → ¬ (a = ln ∧ (j = 1 ∨ j = 2 ∨ j = 7 ∨ j = 8)) → ¬ (a = ln + 1 ∧ j = R + 1) → a ≠ ln + 2 → a ≠ ln + 3 → a ≠ ln + 7 → a ≠ ln + 8 → G' a j = G a j
section
variable {f A sl q qo nq kk ln mp ro tp ac R old ed ch wk : Nat} {S : Nat → Nat × Nat × Nat} {G : xG_} {s so : pPg} {xp cp yp ap xr cr to lt mps : Nat → Nat} {Mo R' A0 : Nat → List pRw} {tk : Int} {X X' Y : fXs} {C : fCs} {W : Nat → Int} {mv tl tkn : Nat → Nat}
theorem rd_made (hf : 700 < f) (hs : cSs S) (hp : cPs G) (hkk : kk < 4) (hln : ln = 243 + 9 * kk) (hA : 555 < A) (hW : cWk S G q A s xp cp R') (hAh : cAh S G A s yp ap A0) (hx : ∀ p, p < s.1.length → (203 < xp p → xp p + 2 < 216 ∨ 555 < xp p) ∧ (yp p + 2 < 216 ∨ 555 < yp p)) (ho : cPgm S G qo A so) (hoko : qOk so) (hM : cMr S G A mp qo ro so xr cr Mo) (hsm : sfP A mp) (hsr : sfP A ro) (hMo : okM8 so Mo) (h13 : G 93 13 = (ch : Int)) (hch : ch < 2 ^ 16) (h14 : G 93 14 = (wk : Int)) (hwk : wk < 2 ^ 16) (hcb : ∀ j, j < s.1.length → (ch.testBit j = true ↔ ¬ vEq (R' j) (A0 j))) (hAs : ∀ j, j < s.1.length → (A0 j).Pairwise rwLt ∧ (A0 j).length ≤ 100) (htk : tk = 0 ∨ tk = 1) (h7 : G mp 7 = (ed : Int)) (he : ed ≤ 1000) (hP : cPgm S G q nq s) (hnq : nq ≤ A) (hq : q = 229 ∧ nq ≤ 243 ∨ 555 < q)
    (h2 : G mp 2 = (tp : Int)) (hT : cTt S G tp X to) (hstp : sfP A tp) (hto : ∀ c, c < 72 → to c = 0 ∨ 555 < to c ∧ to c + 2 < A) (h3 : G mp 3 = (ac : Int)) (hac : S ac = (2, 4, 72)) (hsac : sfP A ac) (hC : okC C) (gC : ∀ x, x < 72 → G ac x = eC (C x)) (hY : ∀ c, c < 72 → G (ln + 8) c = (lt c : Int) ∧ (lt c = 0 ∧ Y c = none ∨ 555 < lt c ∧ lt c + 2 < A ∧ ∃ e, Y c = some e ∧ cFm S G (lt c) e)) (hWt : ∀ c, c < 72 → (G (ln + 7) c = 0 ↔ W c = -1)) (hX' : ∀ c, c < 72 → X' c = if W c = -1 then X c else Y c) (hXg : ∀ c, 72 ≤ c → X' c = X c) (hoX : okX X') (hv3 : ∀ y, y < 72 → 0 ≤ G (ln + 3) y ∧ G (ln + 3) y ≤ 100000) (hv2 : ∀ p, p < 16 → 0 ≤ G (ln + 2) p ∧ G (ln + 2) p ≤ 100000) (hSm : ch = 0 → ¬ tk = 1 → ∀ x, x < 72 → fSh X s R' x = C x) (hCn : (∀ c, c < 72 → X c = none) → ∀ x, x < 72 → C x = (0, 0))
    (h1 : G ln 1 = (R : Int)) (h2' : G ln 2 = (old : Int)) (hR : R + 1 < 520) (hold : old ≤ R) (hm : ∀ r, old < r → r ≤ R → G (ln + 1) r = (mps r : Int) ∧ S (mps r) = (1, 2, 8) ∧ sfP A (mps r) ∧ G (mps r) 4 = (mv r : Int) ∧ G (mps r) 5 = (tl r : Int) ∧ G (mps r) 6 = (tkn r : Int)) (hbd : ∀ r, mv r ≤ 100000 ∧ tl r ≤ 100000 ∧ tkn r ≤ 100000) (hmR : mv (R + 1) = dfS R' A0 s.1.length + (if tk = 0 then 0 else dfG s so Mo so.1.length)) (htR : tl (R + 1) = tC9 G ln 72) (hkR : (tkn (R + 1) : Int) = tk) :
    ∃ (S' : Nat → Nat × Nat × Nat) (G' : xG_) (m' : Nat × Nat) (be : Nat) (xr' cr' : Nat → Nat) (tp2 ac2 k : Nat), c173_127 f 64 ln mp tk 1 (S, G, (A, sl)) = some ((mv (R + 1) : Int), (S', G', m')) ∧ (A ≤ m'.1 ∧ m'.1 ≤ A + 52 ∧ m'.2 ≤ sl + 8240) ∧ (∀ a, a < A → S' a = S a) ∧ xRd9 A ln R G G' ∧ cPs G' ∧ (A < be ∧ be < m'.1) ∧ cMr S' G' m'.1 be q A s xr' cr' R' ∧ (∀ p, p < s.1.length → xr' p + 2 < 216 ∨ 555 < xr' p) ∧ (G' 64 12 = (mp : Int) ∧ G' 64 13 = (be : Int)) ∧ (G' be 4 = (mv (R + 1) : Int) ∧ G' be 5 = (tl (R + 1) : Int) ∧ G' be 6 = tk ∧ G' be 7 = (ed : Int) + tk) ∧ (G' be 2 = (tp2 : Int) ∧ (tp2 = tp ∨ A ≤ tp2 ∧ tp2 < m'.1) ∧ cTt S' G' tp2 X' (tN9 G ln to lt)) ∧ (G' be 3 = (ac2 : Int) ∧ (ac2 = ac ∨ A ≤ ac2 ∧ ac2 < m'.1) ∧ S' ac2 = (2, 4, 72) ∧ ∀ x, x < 72 → G' ac2 x = eC (fSh X' s R' x)) ∧
      (G' ln 1 = ((R + 1 : Nat) : Int) ∧ G' ln 2 = ((R + 1 - k : Nat) : Int) ∧ G' (ln + 1) (R + 1) = (be : Int)) ∧ (okK9 mv tl tkn (R + 1) k ∧ k ≤ R + 1 - old ∧ ∀ k', k < k' → k' ≤ R + 1 - old → ¬ okK9 mv tl tkn (R + 1) k') ∧ (G' ln 7 = 0 ∧ G' ln 8 = 0 ∧ ∀ y, y < 72 → G' (ln + 7) y = 0 ∧ G' (ln + 8) y = 0) ∧ (∀ p, p < 16 → G' (ln + 2) p = (if tk = 0 then G (ln + 2) p else 0) + if wk.testBit p = true then 1 else 0) ∧
      ∀ c, c < 72 → (qCw X' s (tk = 1) W C (fSh X' s R') (fun p => p < s.1.length ∧ ¬ vEq (R' p) (A0 p)) c → G' (ln + 3) c = G (ln + 3) c + 1) ∧ (¬ qCw X' s (tk = 1) W C (fSh X' s R') (fun p => p < s.1.length ∧ ¬ vEq (R' p) (A0 p)) c → G' (ln + 3) c = G (ln + 3) c) := by
  have hln2 : 242 < ln ∧ ln + 8 < 279 := by omega
  have ls : lnSt S ln := by rw [hln]; exact lnSt_of hs hkk
  have lp : lnPt G ln := by rw [hln]; exact lnPt_of hp hkk
  have hok := hW.1.2.2.2.2.2.1
  obtain ⟨sm1, sm2⟩ := hsm
  obtain ⟨st1, st2⟩ := hstp
  obtain ⟨sc1, sc2⟩ := hsac
  -- outcome
  obtain ⟨S1, G1, be, s1, xr', cr', a1, a2, a3, a4, a5, a6, a7, a8, a9, a10, a11, a12, a13, a14, a15⟩ := k_162 (f := f) (sl := sl) (tk := tk) (e := (ed : Int)) (by omega) (by omega) hW hAh ho hoko hM sm1 hsr.1 (fun r hr => (hMo r hr).2.1) h13 hch hcb hAs htk h7 ⟨by omega, by omega⟩
  have hs1 : cSs S1 := fun k hk => by rw [a2 _ (by omega)]; exact hs k hk
  have hp1 : cPs G1 := hp.al (by omega) a3
  have xo : ∀ p, p < s.1.length → xr' p + 2 < 216 ∨ 555 < xr' p := fun p hp => by
    rcases a9 p hp with z | z | ⟨z1, z2⟩
    · exact .inr (by omega)
    · rw [z]; exact (hx p hp).2
    · rw [z1]; exact (hx p hp).1 z2
  have xb : ∀ p, p < s.1.length → be < xr' p ∨ xr' p + 2 < be := fun p hp => by
    obtain ⟨_, _, w⟩ := a8.2.2.2.2 p hp
    have e0 := a8.1
    rcases (by omega : be < xr' p ∨ xr' p + 2 < be ∨ be = xr' p ∨ be = xr' p + 1 ∨ be = xr' p + 2) with z | z | z | z | z
    · exact .inl z
    · exact .inr z
    · have := w.1; rw [← z, e0] at this; injection this with _ h; injection h with h _; omega
    · obtain ⟨y, y1, _⟩ := w.2.1; rw [← z, e0] at y1; injection y1 with h _; omega
    · have := w.2.2.1; rw [← z, e0] at this; injection this with h _; omega
  have fm1 : ∀ {o : Nat} {e : List pNd × Int}, o + 2 < A → cFm S G o e → cFm S1 G1 o e := fun {o e} h1 h => h.ge (fun a y1 y2 => a2 a (by omega)) (fun a j y1 y2 => a3 a j (by omega))
  have hT1 : cTt S1 G1 tp X to := hT.lt st1 (fun c hc => by have := hto c hc; omega) a2 (fun c _ => a3 _ _ st1) (fun c hc z a j y1 y2 => a3 _ _ (by have := hto c hc; omega))
  obtain ⟨W', eW⟩ : ∃ W' : Nat → Int, W' = fun y => if y < 72 then W y else if G1 (ln + 7) y = 0 then -1 else 0 := ⟨_, rfl⟩
  have w1 : ∀ y, y < 72 → W' y = W y := fun y hy => by rw [eW]; exact if_pos hy
  have lsA : ∀ j, j ≤ 8 → ln + j < A := fun j hj => by omega
  have ht : ∀ y, ¬ G1 (ln + 7) y = 0 ↔ W' y ≠ -1 := fun y => by
    by_cases hy : y < 72
    · rw [w1 y hy, a3 _ _ (lsA 7 (by omega))]
      exact ⟨fun z z2 => z ((hWt y hy).mpr z2), fun z z2 => z ((hWt y hy).mp z2)⟩
    · rw [eW]
      show _ ↔ (if y < 72 then W y else if G1 (ln + 7) y = 0 then (-1 : Int) else 0) ≠ -1
      rw [if_neg hy]
      by_cases z : G1 (ln + 7) y = 0
      · rw [if_pos z]; exact ⟨fun q => absurd z q, fun q => absurd rfl q⟩
      · rw [if_neg z]; exact ⟨fun _ => by decide, fun _ => z⟩
  have ls1 : lnSt S1 ln := lnSt_of' ls (fun a y1 y2 => a2 a (by omega))
  have lp1 : lnPt G1 ln := lnPt_of' lp (fun j => a3 _ _ (lsA 0 (by omega)))
  -- settle
  obtain ⟨S2, G2, m2, tp2, ac2, b1, b2, b3, b4, b5, b6, b7, b8⟩ := k_99s (f := f) (ah := mp) (be := be) (ln := ln) (tp := tp) (ac := ac) (A := be + 1) (sl := s1) (q := q) (rp := A) (nq := nq) (S := S1) (G := G1) (s := s) (X := X) (X' := X') (Y := Y) (to := to) (lt := lt) (xr := xr') (cr := cr') (M := R') (fr := tk) (ch := ch) (C := C) (W := W') (H := fun p => p < s.1.length ∧ ¬ vEq (R' p) (A0 p)) hf (by omega) hs1 hp1 (by omega) a8.1 ⟨by omega, by omega⟩ a8 (hP.ge (Nat.le_refl _) (fun a y => a2 a (by omega)) (fun a j y1 y2 => a3 a j (by omega))) ⟨by omega, by omega, by omega⟩ hok (fun p hp => (hW.2 p hp).2.2.2.2.2.1) (fun p hp => (hW.2 p hp).2.2.2.2.1) ⟨by omega, by omega, by omega⟩ (fun p hp => ⟨by have := xo p hp; omega, xb p hp⟩) hT1 ⟨by omega, by omega, by omega⟩ (fun c hc => by have := hto c hc; omega) a13 a14 ls1 lp1 hln2 (by rw [a2 _ sm1]; exact hM.1) ⟨by omega, by omega, by omega⟩ (by rw [a3 _ _ sm1]; exact h2) (by rw [a3 _ _ sm1]; exact h3) (by rw [a2 _ sc1]; exact hac) ⟨by omega, by omega, by omega, by omega⟩ hC (fun x hx => by rw [a3 _ _ sc1]; exact gC x hx) (fun c hc => by
      rw [a3 _ _ (lsA 8 (by omega))]
      obtain ⟨y1, y2⟩ := hY c hc
      refine ⟨y1, ?_⟩
      rcases y2 with z | ⟨z1, z2, e, z3, z4⟩
      · exact .inl z
      · exact .inr ⟨by omega, ⟨by omega, by omega⟩, e, z3, fm1 z2 z4⟩) (fun c hc => by
      rw [hX' c hc]
      unfold xN9
      rw [a3 _ _ (lsA 7 (by omega))]
      by_cases z : W c = -1
      · rw [if_pos z, if_pos ((hWt c hc).mpr z)]
      · rw [if_neg z, if_neg (fun y => z ((hWt c hc).mp y))]) hXg hoX (fun y hy => by rw [a3 _ _ (lsA 3 (by omega))]; exact hv3 y hy) ht (fun p hp => by rw [hcb p hp]; exact ⟨fun z => ⟨hp, z⟩, fun z => z.2⟩) hSm hCn (by
      by_cases z : ch = 0
      · left
        rintro p ⟨p1, p2⟩
        have := (hcb p p1).mpr p2
        rw [z, Nat.zero_testBit] at this
        cases this
      · exact .inr z)
  have z2 : ∀ a j, a < A → ¬ (216 ≤ a ∧ a ≤ 219) → a ≠ ln + 3 → G2 a j = G a j := fun a j y1 y2 y3 => by rw [b4 a j (by omega) (by omega) (by omega) (by omega) y3, a3 a j y1]
  have s2 : ∀ a, a < A → S2 a = S a := fun a y => by rw [b3 a (by omega), a2 a y]
  have hs2 : cSs S2 := fun k hk => by rw [s2 _ (by omega)]; exact hs k hk
  have hp2 : cPs G2 := hp.ge (fun a j hz => by
    by_cases q3 : a = 216
    · have : ¬ j ≤ 1 := by
        rcases hz with z | z | z | z | z | z | z | ⟨z, z1, z2, k, z3⟩ | z | z | z | ⟨k, z1, z2, z3⟩ <;> omega
      rw [b4 a j (by omega) (by omega) (by omega) (by omega) (by omega), a3 a j (by omega)]
    · exact z2 a j (by
        rcases hz with z | z | z | z | z | z | z | ⟨z, z1, z2, k, z3⟩ | z | z | z | ⟨k, z1, z2, z3⟩ <;> omega) (by
        rcases hz with z | z | z | z | z | z | z | ⟨z, z1, z2, k, z3⟩ | z | z | z | ⟨k, z1, z2, z3⟩ <;> omega) (by
        rcases hz with z | z | z | z | z | z | z | ⟨z, z1, z2, k, z3⟩ | z | z | z | ⟨k, z1, z2, z3⟩ <;> omega))
  have ls2 : lnSt S2 ln := lnSt_of' ls (fun a y1 y2 => s2 a (by omega))
  have lp2 : lnPt G2 ln := lnPt_of' lp (fun j => z2 _ _ (lsA 0 (by omega)) (by omega) (by omega))
  -- countWorked, append, emptyPending
  obtain ⟨G3, c1, c2, c3⟩ := k_10 (f := f) (m := m2) (wk := wk) (tk := tk) (by omega) (by omega) ls2 lp2 (fun p hp => by rw [z2 _ _ (lsA 2 (by omega)) (by omega) (by omega)]; exact hv2 p hp)
  have z3 : ∀ a j, a < A → ¬ (216 ≤ a ∧ a ≤ 219) → a ≠ ln + 3 → a ≠ ln + 2 → G3 a j = G a j := fun a j y1 y2 y3 y4 => by rw [c2 a j y4, z2 a j y1 y2 y3]
  have beN : be ≠ ln ∧ be ≠ ln + 1 ∧ be ≠ ln + 2 ∧ be ≠ ln + 3 ∧ be ≠ ln + 7 ∧ be ≠ ln + 8 ∧ be ≠ 64 := by omega
  have be4 : ∀ j, ¬ (j = 2 ∨ j = 3 ∨ j = 5) → G3 be j = G1 be j := fun j y => by rw [c2 _ _ (by omega), b4 _ _ (by omega) (by omega) (by omega) (by omega) (by omega)]
  have tc1 : tC9 G1 ln 72 = tC9 G ln 72 := tC9_c 72 (fun c _ => a3 _ _ (lsA 7 (by omega)))
  obtain ⟨G4, k, d1, d2, d3, d4, d5, d6, d7, d8⟩ := k_11 (f := f) (m := m2) (ln := ln) (R := R) (old := old) (be := be) (mo := fun r => if r = R + 1 then be else mps r) (mv := mv) (tl := tl) (tk := tkn) (by omega) ls2 (lnPt_of' lp2 (fun j => c2 _ _ (by omega))) (by rw [z3 ln _ (by omega) (by omega) (by omega) (by omega)]; exact h1) (by rw [z3 ln _ (by omega) (by omega) (by omega) (by omega)]; exact h2') hR hold (by rw [b3 _ (by omega)]; exact a8.1) (fun r r1 r2 => by
      show (if r = R + 1 then be else mps r) ≠ ln ∧ (if r = R + 1 then be else mps r) ≠ ln + 1
      by_cases z : r = R + 1
      · rw [if_pos z]; omega
      · rw [if_neg z]
        have := (hm r r1 (by omega)).2.2.1.2
        omega) (if_pos rfl) (fun r r1 r2 => by
      obtain ⟨y1, y2, y3, _⟩ := hm r r1 r2
      show _ = (((if r = R + 1 then be else mps r) : Nat) : Int) ∧ S2 (if r = R + 1 then be else mps r) = _
      rw [if_neg (by omega), z3 _ _ (lsA 1 (by omega)) (by omega) (by omega) (by omega), s2 _ y3.1]
      exact ⟨y1, y2⟩) (fun r r1 r2 => by
      show G3 (if r = R + 1 then be else mps r) 4 = _ ∧ G3 (if r = R + 1 then be else mps r) 5 = _ ∧ G3 (if r = R + 1 then be else mps r) 6 = _
      by_cases z : r = R + 1
      · rw [if_pos z, z, be4 4 (by omega), be4 6 (by omega), c2 _ _ (by omega), a12, a14, hmR, htR, b5, tc1, hkR]
        exact ⟨rfl, rfl, rfl⟩
      · obtain ⟨_, _, y3, y4⟩ := hm r r1 (by omega)
        have y5 := y3.2
        rw [if_neg z, z3 _ _ y3.1 (by omega) (by omega) (by omega), z3 _ _ y3.1 (by omega) (by omega) (by omega), z3 _ _ y3.1 (by omega) (by omega) (by omega)]
        exact y4) hbd
  have z4 : ∀ a j, a < A → ¬ (216 ≤ a ∧ a ≤ 219) → a ≠ ln + 3 → a ≠ ln + 2 → ¬ (a = ln ∧ (j = 1 ∨ j = 2)) → ¬ (a = ln + 1 ∧ j = R + 1) → G4 a j = G a j := fun a j y1 y2 y3 y4 y5 y6 => by rw [d2 a j y5 y6, z3 a j y1 y2 y3 y4]
  have lp4 : lnPt G4 ln := by
    obtain ⟨h0, h1, h2, h3, h4, h5, h6, h7⟩ := lp
    have y : ∀ j, ¬ (j = 1 ∨ j = 2) → G4 ln j = G ln j := fun j hj => z4 _ _ (lsA 0 (by omega)) (by omega) (by omega) (by omega) (by omega) (by omega)
    exact ⟨(y _ (by omega)).trans h0, (y _ (by omega)).trans h1, (y _ (by omega)).trans h2, (y _ (by omega)).trans h3, (y _ (by omega)).trans h4, (y _ (by omega)).trans h5, (y _ (by omega)).trans h6, (y _ (by omega)).trans h7⟩
  obtain ⟨G5, e1, e2, e3, e4, e5⟩ := k_7 (f := f) (m := m2) (by omega) ls2 lp4
  have z5 : ∀ a j, ¬ (a = ln ∧ (j = 1 ∨ j = 2 ∨ j = 7 ∨ j = 8)) → ¬ (a = ln + 1 ∧ j = R + 1) → a ≠ ln + 2 → a ≠ ln + 7 → a ≠ ln + 8 → G5 a j = G2 a j := fun a j y1 y2 y3 y4 y5 => by rw [e2 a j (by omega) y4 y5, d2 a j (by omega) y2, c2 a j y3]
  have hbe5 : G5 be 4 = (mv (R + 1) : Int) := by rw [z5 _ _ (by omega) (by omega) (by omega) (by omega) (by omega), b4 _ _ (by omega) (by omega) (by omega) (by omega) (by omega), a12, hmR]
  have fin := sw_173m (f := f) (ln := ln) (mo := mp) (be := be) (x3 := tk) (x5 := 1) (m := (A, sl)) hs1 hs2 hp hp1 hp2 hs (s93 hs) (s93 hs1) (s93 hs2) ls2.1 (by rw [b3 _ (by omega)]; exact a8.1) (by omega) a1 (by rw [a3 _ _ (by omega)]; exact h13) b1 (show G2 93 14 = (wk : Int) by rw [z2 _ _ (by omega) (by omega) (by omega)]; exact h14) c1 d1 e1 hbe5 (by decide)
  obtain ⟨G6, hG6⟩ : ∃ G6, G6 = xup2 (xup2 G5 64 12 (mp : Int)) 64 13 (be : Int) := ⟨_, rfl⟩
  rw [← hG6] at fin
  have z6 : ∀ a j, ¬ (a = 64 ∧ (j = 12 ∨ j = 13)) → G6 a j = G5 a j := fun a j y => by rw [hG6, xup2_n (by omega), xup2_n (by omega)]
  -- cells that are made here
  have zb : ∀ a j, A ≤ a → G6 a j = G2 a j := fun a j y => by rw [z6 a j (by omega), z5 a j (by omega) (by omega) (by omega) (by omega) (by omega)]
  have zl : ∀ a j, a < A → ¬ (216 ≤ a ∧ a ≤ 219) → ¬ (ln ≤ a ∧ a ≤ ln + 8) → a ≠ 64 → G6 a j = G2 a j := fun a j y1 y2 y3 y4 => by rw [z6 a j (by omega), z5 a j (by omega) (by omega) (by omega) (by omega) (by omega)]
  have mle : be + 1 ≤ m2.1 := b2.1
  refine ⟨S2, G6, m2, be, xr', cr', tp2, ac2, k, fin, ⟨by omega, by omega, by omega⟩, s2, ?_, ?_, ⟨a4, by omega⟩, ?_, xo, ⟨?_, ?_⟩, ⟨?_, ?_, ?_, ?_⟩, ⟨?_, ?_, ?_⟩, ⟨?_, ?_, ?_, ?_⟩, ⟨?_, ?_, ?_⟩, ⟨d6, d7, d8⟩, ⟨?_, ?_, ?_⟩, ?_, ?_⟩
  · intro a j y1 y2 y3 y4 y5 y6 y7 y8 y9
    rw [z6 a j y2, z5 a j y4 y5 y6 y8 y9, z2 a j y1 y3 y7]
  · refine hp2.ge (fun a j hz => ?_)
    have q2 : ¬ (a = 64 ∧ (j = 12 ∨ j = 13)) ∧ ¬ (a = ln ∧ (j = 1 ∨ j = 2 ∨ j = 7 ∨ j = 8)) ∧ a ≠ ln + 1 ∧ a ≠ ln + 2 ∧ a ≠ ln + 7 ∧ a ≠ ln + 8 := by
      rcases hz with z | z | z | z | z | z | z | ⟨z, z1, z2, k, z3⟩ | z | z | z | ⟨k, z1, z2, z3⟩ <;> omega
    rw [z6 a j q2.1, z5 a j q2.2.1 (by omega) q2.2.2.2.1 q2.2.2.2.2.1 q2.2.2.2.2.2]
  · refine a8.ge2 (by omega) (fun a hz => b3 a ?_) (fun a j hz => ?_)
    · rcases hz with z | z | ⟨p, hp, y1, y2⟩
      · omega
      · omega
      · have := (a8.2.2.2.2 p hp).2.1; omega
    · rcases hz with ⟨z, zj⟩ | z | ⟨p, hp, y1, y2⟩
      · rw [zb a j (by omega), b4 a j (by omega) (by omega) (by omega) (by omega) (by omega)]
      · rw [zb a j (by omega), b4 a j (by omega) (by omega) (by omega) (by omega) (by omega)]
      · have u1 := (a8.2.2.2.2 p hp).2.1
        have u2 := xo p hp
        have u3 := xb p hp
        have : G6 a j = G2 a j := by
          by_cases y : A ≤ a
          · exact zb a j y
          · exact zl a j (by omega) (by omega) (by omega) (by omega)
        rw [this, b4 a j (by omega) (by omega) (by omega) (by omega) (by omega)]
  · rw [hG6, xup2_n (by omega), xup2_s]
  · rw [hG6, xup2_s]
  · rw [z6 _ _ (by omega)]; exact hbe5
  · rw [zb _ _ (by omega), b5, tc1, htR]
  · rw [zb _ _ (by omega), b4 _ _ (by omega) (by omega) (by omega) (by omega) (by omega)]; exact a14
  · rw [zb _ _ (by omega), b4 _ _ (by omega) (by omega) (by omega) (by omega) (by omega)]; exact a15
  · rw [zb _ _ (by omega)]; exact b6.1
  · rcases b6.2.1 with z | z
    · exact .inl z
    · exact .inr ⟨by omega, z.2⟩
  · have tt := b6.2.2
    have etN : ∀ c, c < 72 → tN9 G ln to lt c = tN9 G1 ln to lt c := fun c _ => by unfold tN9; rw [a3 _ _ (lsA 7 (by omega))]
    have tgt : ∀ c, c < 72 → tN9 G1 ln to lt c = 0 ∨ 555 < tN9 G1 ln to lt c ∧ tN9 G1 ln to lt c + 2 < A := fun c hc => by
      unfold tN9
      by_cases z : G1 (ln + 7) c = 0
      · rw [if_pos z]; exact hto c hc
      · rw [if_neg z]
        rcases (hY c hc).2 with w | ⟨w1, w2, _⟩
        · exact .inl w.1
        · exact .inr ⟨w1, w2⟩
    have tp2b : tp2 = tp ∨ A ≤ tp2 := by
      rcases b6.2.1 with z | z
      · exact .inl z
      · exact .inr (by omega)
    have r1 : cTt S2 G6 tp2 X' (tN9 G1 ln to lt) := by
      refine ⟨tt.1, tt.2.1, fun c hc => ?_⟩
      obtain ⟨t1, t2⟩ := tt.2.2 c hc
      refine ⟨?_, ?_⟩
      · have : G6 tp2 c = G2 tp2 c := by
          rcases tp2b with z | z
          · rw [z]; exact zl _ _ st1 (by omega) (by omega) (by omega)
          · exact zb _ _ z
        rw [this]; exact t1
      · rcases t2 with z | ⟨z1, e, z2, z3⟩
        · exact .inl z
        · have := tgt c hc
          exact .inr ⟨z1, e, z2, z3.ge (fun _ _ _ => rfl) (fun a j y1 y2 => zl _ _ (by omega) (by omega) (by omega) (by omega))⟩
    exact r1.cg (fun _ _ => rfl) etN
  · rw [zb _ _ (by omega)]; exact b7.1
  · rcases b7.2.1 with z | z
    · exact .inl z
    · exact .inr ⟨by omega, z.2⟩
  · exact b7.2.2.1
  · intro x hx'
    have : G6 ac2 x = G2 ac2 x := by
      rcases b7.2.1 with z | z
      · rw [z]; exact zl _ _ sc1 (by omega) (by omega) (by omega)
      · exact zb _ _ (by omega)
    rw [this]
    exact b7.2.2.2 x hx'
  · rw [z6 _ _ (by omega), e2 _ _ (by omega) (by omega) (by omega)]; exact d3
  · rw [z6 _ _ (by omega), e2 _ _ (by omega) (by omega) (by omega)]; exact d5
  · rw [z6 _ _ (by omega), e2 _ _ (by omega) (by omega) (by omega)]; exact d4
  · rw [z6 _ _ (by omega)]; exact e3
  · rw [z6 _ _ (by omega)]; exact e4
  · intro y hy
    rw [z6 _ _ (by omega), z6 _ _ (by omega)]
    exact e5 y hy
  · intro p hp'
    rw [z6 _ _ (by omega), e2 _ _ (by omega) (by omega) (by omega), d2 _ _ (by omega) (by omega), c3 p hp', z2 _ _ (lsA 2 (by omega)) (by omega) (by omega)]
  · intro c hc
    rw [z6 _ _ (by omega), z5 _ _ (by omega) (by omega) (by omega) (by omega) (by omega)]
    have := b8 c hc
    rw [a3 _ _ (lsA 3 (by omega)), qCw_w (W := W') (W' := W) (w1 c hc)] at this
    exact this
end
end
section
/-! THE CLASS: round() in the house -/
section
variable {f A hr n sl : Nat} {S : Nat → Nat × Nat × Nat} {G : xG_} {T : List (List Int)} {P : Nat → Nat} {lns : Nat → sLn} {tx : List Int} {kp : Nat × List (List Int)} {mt : Int × List Int} {pl rf : Int}
/-- which program a round is of -/
theorem rd_prog {l : sLn} {s so : pPg} {Mo : Nat → List pRw} {ln : Nat} (hE : cEd T S G A P) (hL : cLn T S G A P ln l) (hI : l.2.2.2.1.2.1 = -1 ∨ ((lMo l).1 : Int) < l.2.2.2.1.2.1) (hp : P (lMo l).1 ≠ 0) (io : isMo T (lMo l) so Mo) (is' : qPr (T.getD (lnE l) []) = .inr s) :
    ∃ (e : Nat) (tk : Int), G ln 7 = (e : Int) ∧ (tk = 0 ∧ e = 0 ∧ l.2.2.2.1.2.1 = -1 ∨ tk = 1 ∧ e ≠ 0 ∧ e = P (lnE l) ∧ l.2.2.2.1.2.1 ≠ -1) ∧ (G (P (lnE l)) 0 = G (P (lMo l).1) 0 ∧ tk = 0 ∧ s = so ∨ G (P (lnE l)) 0 ≠ G (P (lMo l).1) 0 ∧ tk = 1) ∧ (tk = 0 → P (lnE l) = P (lMo l).1) ∧ P (lnE l) ≠ 0 := by
  rcases hL.2.2.1 with ⟨a1, a2⟩ | ⟨a1, a2, a3⟩
  · have e1 : lnE l = (lMo l).1 := if_pos a1
    rw [e1] at is' ⊢
    have es : s = so := by
      have := io.2.1
      rw [is'] at this
      injection this
    exact ⟨0, 0, a2, .inl ⟨rfl, rfl, a1⟩, .inl ⟨rfl, rfl, es⟩, fun _ => rfl, hp⟩
  · have e1 : lnE l = l.2.2.2.1.2.1.toNat := if_neg (by omega)
    rw [e1]
    refine ⟨_, 1, a3, .inr ⟨rfl, a2, rfl, by omega⟩, .inr ⟨fun z => ?_, rfl⟩, fun z => absurd z (by decide), a2⟩
    have := hE.2 _ _ a2 hp z
    omega
/-- round() is refused -/
theorem k_rd0 {G1 : xG_} {mp : Nat} {tk : Int} (hf : 700 < f) (h : cHs S G A (T, lns, hr, tx, kp, mt, pl, rf) n) (hrf : 0 ≤ rf ∧ rf ≤ 100000) (hG : ∀ a j, a < 83 ∨ 203 < a → G1 a j = G a j) (hp1 : cPs G1) : ∃ G', c173_127 f 64 (243 + 9 * hr) mp tk 0 (S, G1, (A, sl)) = some (-1, (S, G', (A, sl))) ∧ cHs S G' A (T, lUp lns hr (lnF (lns hr)), hr, tx, kp, mt, pl, rf + 1) (n + 1) := by
  obtain ⟨⟨a1, a2, a3, a4⟩, ⟨P, b1, b2, b3⟩, ⟨c1, c2⟩, ⟨c3, c4⟩, c5, c6, c7, c8, c9⟩ := h
  have ls := lnSt_of a1 c1
  have z0 : ∀ a j, ¬ (a = 64 ∧ j = 8) → xup2 G1 64 8 (rf + 1) a j = G1 a j := fun a j y => xup2_n y
  have p0 : cPs (xup2 G1 64 8 (rf + 1)) := hp1.ge (fun a j hz => z0 a j (by
      rcases hz with z | z | z | z | z | z | z | ⟨z, z1, z2, k, z3⟩ | z | z | z | ⟨k, z1, z2, z3⟩ <;> omega))
  obtain ⟨G', k1, k2, k3, k4, k5⟩ := k_7 (f := f) (m := (A, sl)) (by omega) ls (lnPt_of p0 c1)
  have g : ∀ a j, a < 83 ∨ 203 < a → ¬ (a = 64 ∧ j = 8) → ¬ (243 + 9 * hr ≤ a ∧ a ≤ 243 + 9 * hr + 8) → G' a j = G a j := fun a j y1 y2 y3 => by rw [k2 a j (by omega) (by omega) (by omega), z0 a j y2, hG a j y1]
  have gl : ∀ a j, 242 < a → ¬ (a = 243 + 9 * hr ∧ (j = 7 ∨ j = 8)) → a ≠ 243 + 9 * hr + 7 → a ≠ 243 + 9 * hr + 8 → G' a j = G a j := fun a j y1 y2 y3 y4 => by rw [k2 a j y2 y3 y4, z0 a j (by omega), hG a j (by omega)]
  have sf : xSf A G G' := fun a j y1 y2 => g a j (by omega) (by omega) (by omega)
  refine ⟨G', sw_173f a1 ls.1 (by rw [hG _ _ (by omega)]; exact c5) hrf k1, ⟨⟨a1, p0.ge (fun a j hz => k2 a j (by
        rcases hz with z | z | z | z | z | z | z | ⟨z, z1, z2, k, z3⟩ | z | z | z | ⟨k, z1, z2, z3⟩ <;> omega) (by
        rcases hz with z | z | z | z | z | z | z | ⟨z, z1, z2, k, z3⟩ | z | z | z | ⟨k, z1, z2, z3⟩ <;> omega) (by
        rcases hz with z | z | z | z | z | z | z | ⟨z, z1, z2, k, z3⟩ | z | z | z | ⟨k, z1, z2, z3⟩ <;> omega)), a3.ge (fun a j y1 y2 => g a j (by omega) (by omega) (by omega)), a4⟩, ⟨P, b1.ge (Nat.le_refl _) (fun _ _ => rfl) sf (by rw [g _ _ (by omega) (by omega) (by omega)]; exact Int.le_refl _), fun y hy => ?_, ?_⟩, ⟨c1, by rw [g _ _ (by omega) (by omega) (by omega)]; exact c2⟩, ⟨by rw [g _ _ (by omega) (by omega) (by omega)]; exact c3, by rw [g _ _ (by omega) (by omega) (by omega)]; omega⟩, ?_, by rw [g _ _ (by omega) (by omega) (by omega)]; exact c6, c7.ge (g _ _ (by omega) (by omega) (by omega)) (fun p => g _ _ (by omega) (by omega) (by omega)), c8.ge (fun _ _ => rfl) (fun a j y1 y2 => g a j (by omega) (by omega) (by omega)) ⟨g _ _ (by omega) (by omega) (by omega), g _ _ (by omega) (by omega) (by omega)⟩, c9.ge ⟨g _ _ (by omega) (by omega) (by omega), g _ _ (by omega) (by omega) (by omega)⟩ (fun j => g _ _ (by omega) (by omega) (by omega))⟩⟩
  · unfold lUp
    by_cases d : y = hr
    · rw [if_pos d, d]
      have L : cLn T S G A P (243 + 9 * hr) (lns hr) := b2 hr c1
      obtain ⟨s, M, hm⟩ := L.mo
      obtain ⟨h1, ⟨h2, h3⟩, h4, _, _, h8, h9⟩ := L
      exact ⟨h1.ge (Nat.le_refl _) (fun _ _ => rfl) sf ⟨gl _ _ (by omega) (by omega) (by omega) (by omega), gl _ _ (by omega) (by omega) (by omega) (by omega), fun j _ _ => gl _ _ (by omega) (by omega) (by omega) (by omega)⟩, ⟨fun p hp => by rw [gl _ _ (by omega) (by omega) (by omega) (by omega)]; exact h2 p hp, fun c hc => by rw [gl _ _ (by omega) (by omega) (by omega) (by omega)]; exact h3 c hc⟩, .inl ⟨rfl, k3⟩, ⟨s, hm.2.1, cPn.nil k4⟩, cCt.nil k5, by rw [gl _ _ (by omega) (by omega) (by omega) (by omega)]; exact h8, by rw [gl _ _ (by omega) (by omega) (by omega) (by omega)]; exact h9⟩
    · rw [if_neg d]
      exact (b2 y hy).ge (Nat.le_refl _) (fun _ _ => rfl) sf (fun a j y1 y2 => gl a j (by omega) (by omega) (by omega) (by omega))
  · unfold lUp
    rw [if_pos rfl]
    exact b3.ge (Nat.le_refl _) (fun _ _ => rfl) sf ⟨g _ _ (by omega) (by omega) (by omega), g _ _ (by omega) (by omega) (by omega)⟩
  · rw [k2 _ _ (by omega) (by omega) (by omega), xup2_s]
end
end
