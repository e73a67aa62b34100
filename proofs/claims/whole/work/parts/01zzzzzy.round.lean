/-! round: what is told and worked -/
/-- CHANGES one behind another -/
def chA (s : pPg) : List pPe → (Nat → List pRw) → (Nat → List pRw) → Prop
  | [], R, R' => R' = R
  | e :: ps, R, R' => ∃ R1, chR s e R R1 ∧ chA s ps R1 R'
/-- rows of INPUTS before CHANGES -/
def qR0 (so s : pPg) (fr : Prop) (F : List pFc) (R : Nat → List pRw) : Prop := (fr ∧ qFt s (kpC so s) F R) ∨ (¬ fr ∧ qFt s (fun p => pIn s.2.1 (p : Int) = true) F R)
theorem hCat_c {α : Type} {g g' : Nat → List (Int × α)} {b : Nat} : ∀ k, (∀ r, b < r → r ≤ b + k → g r = g' r) → hCat g b k = hCat g' b k
  | 0, _ => rfl
  | k + 1, h => by
    show hCat g b k ++ g (b + k + 1) = hCat g' b k ++ g' (b + k + 1)
    rw [hCat_c k (fun r r1 r2 => h r r1 (by omega)), h (b + k + 1) (by omega) (by omega)]
/-- one moment more -/
def hAd (H : Nat → sMo) (r : Nat) (mo : sMo) : Nat → sMo := fun x => if x = r then mo else H x
theorem hAd_s {H : Nat → sMo} {r : Nat} {mo : sMo} : hAd H r mo r = mo := if_pos rfl
theorem hAd_n {H : Nat → sMo} {r x : Nat} {mo : sMo} (h : x ≠ r) : hAd H r mo x = H x := if_neg h
section
variable {H : Nat → sMo} {b k : Nat} {mo : sMo}
theorem hAd_lg : hCat (hLg (hAd H (b + k + 1) mo)) b (k + 1) = hCat (hLg H) b k ++ lgR ((b + k + 1 : Nat) : Int) mo.2.1 (H (b + k)).2.1 := by
  show hCat (hLg (hAd H (b + k + 1) mo)) b k ++ hLg (hAd H (b + k + 1) mo) (b + k + 1) = _
  have e : hLg (hAd H (b + k + 1) mo) (b + k + 1) = lgR ((b + k + 1 : Nat) : Int) mo.2.1 (H (b + k)).2.1 := by
    unfold hLg
    rw [hAd_s, hAd_n (by omega), show b + k + 1 - 1 = b + k by omega]
  rw [hCat_c (g' := hLg H) k (fun r r1 r2 => by
    unfold hLg
    rw [hAd_n (by omega), hAd_n (by omega)]), e]
theorem hAd_cg : hCat (hCg (hAd H (b + k + 1) mo)) b (k + 1) = hCat (hCg H) b k ++ cgN ((b + k + 1 : Nat) : Int) (H (b + k)).2.2.1 mo.2.2.2.1 72 := by
  show hCat (hCg (hAd H (b + k + 1) mo)) b k ++ hCg (hAd H (b + k + 1) mo) (b + k + 1) = _
  have e : hCg (hAd H (b + k + 1) mo) (b + k + 1) = cgN ((b + k + 1 : Nat) : Int) (H (b + k)).2.2.1 mo.2.2.2.1 72 := by
    unfold hCg
    rw [hAd_s, hAd_n (by omega), show b + k + 1 - 1 = b + k by omega]
  rw [hCat_c (g' := hCg H) k (fun r r1 r2 => by
    unfold hCg
    rw [hAd_n (by omega), hAd_n (by omega)]), e]
theorem hAd_eg : hCat (hEg (hAd H (b + k + 1) mo)) b (k + 1) = hCat (hEg H) b k ++ (if mo.2.2.2.2 = true then [(((b + k + 1 : Nat) : Int), ((H (b + k)).1 : Int))] else []) := by
  show hCat (hEg (hAd H (b + k + 1) mo)) b k ++ hEg (hAd H (b + k + 1) mo) (b + k + 1) = _
  have e : hEg (hAd H (b + k + 1) mo) (b + k + 1) = (if mo.2.2.2.2 = true then [(((b + k + 1 : Nat) : Int), ((H (b + k)).1 : Int))] else []) := by
    unfold hEg
    rw [hAd_s, hAd_n (by omega), show b + k + 1 - 1 = b + k by omega]
  rw [hCat_c (g' := hEg H) k (fun r r1 r2 => by
    unfold hEg
    rw [hAd_n (by omega), hAd_n (by omega)]), e]
end
section
variable {f o h q c : Nat} {s so : pPg}
/-- rows as CHANGES leave them -/
def okR (s : pPg) (R : Nat → List pRw) : Prop := ∀ p, p < s.1.length → (R p).Pairwise rwLt ∧ ∀ y ∈ R p, y.2 = 0 ∧ ∀ x ∈ y.1, vOk x
theorem chR.ok {e : pPe} {R R' : Nat → List pRw} (h : chR s e R R') (hR : okR s R) (he : ∀ x ∈ e.2.2, vOk x) : okR s R' := fun p hp => by
  obtain ⟨a1, a2, a3⟩ := h p hp
  obtain ⟨b1, b2⟩ := hR p hp
  refine ⟨a1, fun y hy => ?_⟩
  rcases (a3 y).mp hy with z | ⟨_, z | z | z⟩
  · exact b2 y z.2
  · exact b2 y z.2.1
  · exact b2 y z.2.2
  · rcases z.2.2 with w | w
    · exact b2 y w.1
    · rw [w]
      exact ⟨rfl, he⟩
theorem l_298_90 {fr : Int} {ps : List pPe} (hf : 1000 < f) (hok : qOk s) (hkn : ∀ p, p < s.1.length → pIn s.2.1 (p : Int) = true → qKy s p ≤ qN s p) (hh : h < 4) (ho : o = 123 + 29 * h) (hv : ∀ e ∈ ps, ∀ x ∈ e.2.2, vOk x) : ∀ (d x fu : Nat) (G : xG_) (R : Nat → List pRw), x + d = ps.length → d < fu → rPe G o ps → rEn G q c s R → okR s R → (∀ p, p < s.1.length → (R p).length + d ≤ 519) →
    ∃ G' R' fu', g298_90 f fu o fr (x : Int) G = g298_90 f (fu' + 1) o fr (ps.length : Int) G' ∧ chA s (ps.drop x) R R' ∧ rEn G' q c s R' ∧ okR s R' ∧ ∀ a j, ¬ (107 ≤ a ∧ a ≤ 109) → G' a j = G a j := by
  intro d
  induction d with
  | zero =>
    intro x fu G R h1 h2 h3 h4 h5 h6
    obtain ⟨fu, rfl⟩ : ∃ t, fu = t + 1 := ⟨fu - 1, by omega⟩
    have hx : x = ps.length := by omega
    subst hx
    refine ⟨G, R, fu, rfl, ?_, h4, h5, fun _ _ _ => rfl⟩
    rw [List.drop_length]
    rfl
  | succ d ih =>
    intro x fu G R h1 h2 h3 h4 h5 h6
    obtain ⟨fu, rfl⟩ : ∃ t, fu = t + 1 := ⟨fu - 1, by omega⟩
    have hx : x < ps.length := by omega
    have hl := h3.2.1
    obtain ⟨G1, R1, u1, u2, u3, u4⟩ := l_301 (f := f) (M := R) (by omega) hok hkn h4 (fun p hp => (h5 p hp).1) (fun p hp => by have := h6 p hp; omega) hh ho h3 hx
    have he : ps.getD x dPe ∈ ps := by
      rw [getD_e hx]
      exact List.getElem_mem _
    have e : xwr ((x : Int) + 1) = ((x + 1 : Nat) : Int) := by rw [xwr_g _ (by omega) (by omega)]; omega
    obtain ⟨e1, e2, e3, e4⟩ := h4
    have hE1 : rEn G1 q c s R1 := ⟨e1.ge (fun j => u2 _ _ (by omega)) (fun a j _ _ _ _ _ => u2 _ _ (by omega)), fun y hy => by rw [u2 _ _ (by omega)]; exact e2 y hy, ⟨fun p hp => by rw [u2 _ _ (by omega)]; exact e3.1 p hp, fun p hp => by rw [u2 _ _ (by omega)]; exact e3.2 p hp⟩, u3⟩
    obtain ⟨G', R', fu', k1, k2, k3, k4, k5⟩ := ih (x + 1) fu G1 R1 (by omega) (by omega) (h3.ge' (fun a j _ _ => u2 _ _ (by omega))) hE1 (u4.ok h5 (hv _ he)) (fun p hp => by have := (u4 p hp).2.1; have := h6 p hp; omega)
    refine ⟨G', R', fu', ?_, ?_, k3, k4, fun a j z => (k5 a j z).trans (u2 a j z)⟩
    · rw [← k1]
      show g298_90b (g298_90 f fu) f o fr (x : Int) G = _
      unfold g298_90b
      rw [h3.1, if_neg (by omega), u1, Option.bind_some, e]
    · rw [drop_d (d := dPe) hx]
      exact ⟨R1, u4, k2⟩
/-- what a round changes -/
def xfRd (o : Nat) (G G' : xG_) : Prop := ∀ a j, ¬ (a = 0 ∧ (j ≤ 11 ∨ 21 ≤ j ∧ j ≤ 27 ∨ 37 ≤ j ∧ j ≤ 61 ∨ 63 ≤ j ∧ j ≤ 65 ∨ j = 74 ∨ 89 ≤ j ∧ j ≤ 91)) → ¬ (1 ≤ a ∧ a ≤ 71) → ¬ (107 ≤ a ∧ a ≤ 121) → ¬ (o ≤ a ∧ a ≤ o + 28) → ¬ (243 ≤ a ∧ a ≤ 252) → ¬ (258 ≤ a ∧ a ≤ 270) → G' a j = G a j
theorem xfRd.tr {G G1 G2 : xG_} (h1 : xfRd o G G1) (h2 : xfRd o G1 G2) : xfRd o G G2 := fun a j q1 q2 q3 q4 q5 q6 => (h2 a j q1 q2 q3 q4 q5 q6).trans (h1 a j q1 q2 q3 q4 q5 q6)
/-- the INPUTS of a round -/
theorem l_298_54 {fr : Int} {G : xG_} {T : List (List Int)} {m e e' : Nat} {F : List pFc} {M : Nat → List pRw} (hf : 1000100 < f) (hh : h < 4) (ho : o = 123 + 29 * h) (hC : rC G) (hT : rTxs G T m) (he : e < T.length) (h1 : G o 1 = (e : Int)) (hso : qPr (T.getD e []) = .inr so) (hoko : qOk so) (he' : e' < T.length) (hs : qPr (T.getD e' []) = .inr s) (hok : qOk s) (hfr : fr = 0 → s = so) (hF : rFa G (o + 1) F) (hM : qSt1 so M) (hFa : qFa so M F) :
    ∃ G' R' q c, g298_54 f o fr (e' : Int) 2 G = g298_90 f f o fr 0 G' ∧ rEn G' q c s R' ∧ okR s R' ∧ (∀ p, p < s.1.length → (R' p).length ≤ 100) ∧ qR0 so s (fr ≠ 0) F R' ∧ rFa G' 243 F ∧ (∀ a j, ¬ (a = 0 ∧ (j ≤ 11 ∨ 21 ≤ j ∧ j ≤ 27)) → ¬ (1 ≤ a ∧ a ≤ 71) → ¬ (107 ≤ a ∧ a ≤ 109) → ¬ (243 ≤ a ∧ a ≤ 246) → G' a j = G a j) := by
  obtain ⟨G1, q, c, k1, k2, k3, k4, k5⟩ := l_295 (f := f) (o := 2) (by omega) (by omega) hC hT he' hs hok.2.2
  have hF1 : rFa G1 (o + 1) F := hF.ge (k5 _ _ (by omega) (by omega) (by omega)) (fun a j _ _ => k5 _ _ (by omega) (by omega) (by omega))
  obtain ⟨G2, u1, u2, u3⟩ := l_194 (f := f) (b := 243) (b1 := o + 1) (by omega) (by unfold isFb; omega) (by unfold isFb; omega) (by omega) hF1
  have z2 : ∀ a j, a < 243 ∨ 246 < a → G2 a j = G1 a j := fun a j q => u3 a j (by omega) (by omega) (by omega) (by omega)
  have hb : isFb (o + 1) := by unfold isFb; omega
  have hP2 : rPr G2 2 q c s := k2.ge (fun j => z2 _ _ (by omega)) (fun a j _ _ _ _ _ => z2 _ _ (by omega))
  have hPn2 : rPn G2 2 s := fun y hy => by rw [z2 _ _ (by omega)]; exact k3 y hy
  have hPk2 : rPk G2 2 s := ⟨fun p hp => by rw [z2 _ _ (by omega)]; exact k4.1 p hp, fun p hp => by rw [z2 _ _ (by omega)]; exact k4.2 p hp⟩
  have hF2 : rFa G2 (o + 1) F := hF1.ge (z2 _ _ (by omega)) (fun a j _ _ => z2 _ _ (by omega))
  have hcnt : ∀ p, p < s.1.length → F.countP (fun y => decide (y.1 = qNm s p ∧ y.2.length = qN s p)) ≤ 100 := fun p hp => hFa.cnt hoko hM.1.1 _ _
  have hFo : qFo s F := hFa.fo2 hoko hM.1.1
  have e0 : g298_54 f o fr (e' : Int) 2 G = (if fr = 0 then ((g297 f (o + 1) G2).bind fun R215 => g298_88 f o fr R215) else ((g299 f o G2).bind fun R220 => g298_88 f o fr R220)) := by
    unfold g298_54
    rw [k1, Option.bind_some, u1, Option.bind_some]
  have okof : ∀ {cd : Nat → Prop} {R' : Nat → List pRw}, qFt s cd F R' → okR s R' ∧ ∀ p, p < s.1.length → (R' p).length ≤ 100 := fun {cd R'} h => by
    refine ⟨fun p hp => ⟨(h p hp).1, fun y hy => ?_⟩, fun p hp => Nat.le_trans (h p hp).2.1 (hcnt p hp)⟩
    obtain ⟨z1, z2, z3, z4⟩ := ((h p hp).2.2 y).mp hy
    exact ⟨z2, fun x hx => hFo.2.2 _ z3 x hx⟩
  by_cases cf : fr = 0
  · obtain ⟨G3, R', v1, v2, v3, v4⟩ := l_297 (f := f) (by omega) hok hb hP2 hPn2 hF2 hFo
    obtain ⟨o1, o2⟩ := okof v4
    refine ⟨G3, R', q, c, ?_, ⟨hP2.ge (fun j => v2 _ _ (by omega)) (fun a j _ _ _ _ _ => v2 _ _ (by omega)), fun y hy => by rw [v2 _ _ (by omega)]; exact hPn2 y hy, ⟨fun p hp => by rw [v2 _ _ (by omega)]; exact hPk2.1 p hp, fun p hp => by rw [v2 _ _ (by omega)]; exact hPk2.2 p hp⟩, v3⟩, o1, o2, .inr ⟨fun z => z cf, v4⟩, u2.ge (v2 _ _ (by omega)) (fun a j _ _ => v2 _ _ (by omega)), fun a j q1 q2 q3 q4 => by rw [v2 a j q3, z2 a j (by omega), k5 a j q1 (by omega) (by omega)]⟩
    rw [e0, if_pos cf, v1, Option.bind_some]
    rfl
  · have hC2 : rC G2 := by
      have z : ∀ j, 12 ≤ j → j ≤ 20 → G2 0 j = G 0 j := fun j _ _ => by rw [z2 _ _ (by omega), k5 _ _ (by omega) (by omega) (by omega)]
      obtain ⟨k1, k2, k3, k4, k5, k6, k7, k8, k9⟩ := hC
      exact ⟨by rw [z _ (by decide) (by decide)]; exact k1, by rw [z _ (by decide) (by decide)]; exact k2, by rw [z _ (by decide) (by decide)]; exact k3, by rw [z _ (by decide) (by decide)]; exact k4, by rw [z _ (by decide) (by decide)]; exact k5, by rw [z _ (by decide) (by decide)]; exact k6, by rw [z _ (by decide) (by decide)]; exact k7, by rw [z _ (by decide) (by decide)]; exact k8, by rw [z _ (by decide) (by decide)]; exact k9⟩
    have zz : ∀ a j, ¬ (a = 0 ∧ (j ≤ 11 ∨ 21 ≤ j ∧ j ≤ 27)) → ¬ (1 ≤ a ∧ a ≤ 36) → a < 243 → G2 a j = G a j := fun a j q1 q2 q3 => by rw [z2 _ _ (by omega), k5 _ _ q1 (by omega) (by omega)]
    have hT2 : rTxs G2 T m := hT.ge (zz _ _ (by omega) (by omega) (by omega)) (zz _ _ (by omega) (by omega) (by omega)) (fun a j _ => zz _ _ (by omega) (by omega) (by omega))
    obtain ⟨G3, R', v1, v2, v3, v4⟩ := l_299 (f := f) (o := o) (e := e) (by omega) hok hoko hb hC2 hT2 he (by rw [zz _ _ (by omega) (by omega) (by omega)]; exact h1) hso hP2 hPn2 hF2 hFo (fun y hy r hr hn => by
      obtain ⟨p, a1, a2, w, a3, a4⟩ := (hFa.2 y).mp hy
      have := nm_inj hoko hr a1 (by rw [hn, a2])
      subst this
      rw [← a4]
      exact ((hM.1.1 r a1).2.2 w a3).1)
    obtain ⟨o1, o2⟩ := okof v4
    refine ⟨G3, R', q, c, ?_, ⟨hP2.ge (fun j => v2 _ _ (by omega) (by omega) (by omega) (by omega)) (fun a j _ _ _ _ _ => v2 _ _ (by omega) (by omega) (by omega) (by omega)), fun y hy => by rw [v2 _ _ (by omega) (by omega) (by omega) (by omega)]; exact hPn2 y hy, ⟨fun p hp => by rw [v2 _ _ (by omega) (by omega) (by omega) (by omega)]; exact hPk2.1 p hp, fun p hp => by rw [v2 _ _ (by omega) (by omega) (by omega) (by omega)]; exact hPk2.2 p hp⟩, v3⟩, o1, o2, .inl ⟨cf, v4⟩, u2.ge (v2 _ _ (by omega) (by omega) (by omega) (by omega)) (fun a j _ _ => v2 _ _ (by omega) (by omega) (by omega) (by omega)), fun a j q1 q2 q3 q4 => by rw [v2 a j q1 (by omega) (by omega) q3, z2 a j (by omega), k5 a j q1 (by omega) (by omega)]⟩
    rw [e0, if_neg cf, v1, Option.bind_some]
    rfl
end
