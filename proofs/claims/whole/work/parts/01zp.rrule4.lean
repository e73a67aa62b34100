/-! The reference reads rules: all ITEMS; all of a rule -/
section
variable {f q n o r cb F : Nat} {B : Nat → Int} {lm : Bool} {N : List Int} {M : List pMn}
theorem l_ritl_bad {x p : Int} {fu : Nat} {G : xG_} {L : Nat → Int} (hfu : 0 < fu) (h : L 7 ≠ -1) : g237_53 f fu x p (xlx G L) = some (xlx G L) := by
  obtain ⟨fu, rfl⟩ : ∃ t, fu = t + 1 := ⟨fu - 1, by omega⟩
  show g237_53b (g237_53 f fu) f _ _ _ = _
  unfold g237_53b
  rw [l_sign, if_neg (fun q => h q.1)]
  simp only [Option.bind_some]
  rw [if_pos trivial, l_r89_bad h]
theorem rRP.frame {G G1 : xG_} {L L1 : Nat → Int} {c c1 : Nat} {p : Int} {pl : Nat} {e e1 : xG_ → Option xG_} {P : Nat ⊕ (((Int × Int × Int) × List pCd) × pRs × Nat)} (h : rRP f q B n lm o r cb G1 L1 c1 N M p pl e1 P) (he : e (xlx G L) = e1 (xlx G1 L1)) (hf : xfg o r c (min M.length 420) N.length G G1) (hfl : ∀ a j, (o + 2 ≤ a ∧ a ≤ o + 3 ∨ o + 6 ≤ a ∧ a ≤ o + 8) → G1 a j = G a j) (hc : c ≤ c1) : rRP f q B n lm o r cb G L c N M p pl e P := by
  unfold rRP at *
  rw [he]
  cases P with
  | inl w =>
    obtain ⟨G', L', a1, a2, a3⟩ := h
    exact ⟨G', L', a1, a2, hf.tr a3 (Nat.le_refl _) hc (Nat.le_refl _) (Nat.le_refl _)⟩
  | inr z =>
    obtain ⟨G', L', c', a1, a2, a3, a4, a5, a6, a7, a8, a9, a10, a11⟩ := h
    refine ⟨G', L', c', a1, a2, hf.tr a3 (Nat.le_refl _) hc (Nat.le_refl _) (Nat.le_refl _), fun a j ha => ?_, a5, a6, a7, a8, a9, by omega, a11⟩
    rw [a4 a j ha, hfl a j ha]
/-- ITEMS behind the first one, and what is behind them -/
def pRest (t : tStr) (F : Nat) (N : List Int) (M : List pMn) (p : Int) (pl k : Nat) (s : pIt) : Nat ⊕ (((Int × Int × Int) × List pCd) × pRs × Nat) :=
  pbind (pItems t F k s) fun a => pbind (pNeed t 41 a.2.2.2) fun j => pbind (pBody t F N a.1 (M ++ [(p, pl, (a.2.2.1.length : Int), 3)]) j) fun z => .inr ((a.2.1, a.2.2.1), z)
theorem l_ritl {p : Int} {pl : Nat} (hf : n + 20 < f) (hcb : cb + n + 3 ≤ 6200) (hr : r < 24) (hp : 0 ≤ p ∧ p < 16) : ∀ (k fu : Nat), k < fu → ∀ (i c : Nat) (G : xG_) (L : Nat → Int) (V : List (Int × Nat)) (g : Int × Int × Int) (I : List pCd), I.length + k = 4 → 4 * (n + 1 - i) + 4 ≤ F → rIS G q B n lm o r c V g I → rNs G o N → rMs G o q M → G (o + 19) r = 0 → G 0 24 = 0 → G o 9 = (r : Int) → rAt q B n lm i L → c ≤ cb + i →
    rRP f q B n lm o r cb G L c N M p pl (g237_53 f fu ((q : Int) + pl) p) (pRest (tstr B n lm) F N M p pl k (V, g, I, i)) := by
  intro k
  induction k with
  | zero =>
    intro fu hfu i c G L V g I hk hF hS hN hM h19 h24 h9 hA hc
    obtain ⟨fu, rfl⟩ : ∃ t, fu = t + 1 := ⟨fu - 1, by omega⟩
    have hE := hS.1.1
    have ho := hE.2.2.2.2
    have h1 := l_r89 (f := f) (F := F) (pl := pl) hf hcb hF hr hS hN hM h19 h24 h9 hp hA hc
    refine rRP.frame h1 ?_ (.rf _ _ _ _ _ _) (fun _ _ _ => rfl) (Nat.le_refl _)
    show g237_53b (g237_53 f fu) f _ _ _ = _
    unfold g237_53b
    rw [l_sign]
    simp only [Option.bind_some, i10]
    split
    · rfl
    · rw [xlx_o _ _ (by omega), hE.2.2.2.1, if_neg (by omega), xlx_o _ _ (by omega), hS.1.2.1, if_pos (by omega), Int.toNat_natCast, Int.toNat_natCast, xlx_o _ _ (by omega), hS.2.1, if_pos (by omega)]
  | succ k ih =>
    intro fu hfu i c G L V g I hk hF hS hN hM h19 h24 h9 hA hc
    obtain ⟨fu, rfl⟩ : ∃ t, fu = t + 1 := ⟨fu - 1, by omega⟩
    have hE := hS.1.1
    have ho := hE.2.2.2.2
    have hs := hA.issign (f := f) hE (c := 44) (by unfold isSg; omega)
    rw [show rsc 44 = 44 from rfl] at hs
    have es : g237_53 f (fu + 1) ((q : Int) + pl) p (xlx G L) = if kK (tstr B n lm) i = 44 then ((g213 f (xlx G L)).bind fun R172 => ((g238 f R172).bind fun R177 => g237_53 f fu ((q : Int) + pl) p R177)) else g237_89 f ((q : Int) + pl) p (xlx G L) := by
      show g237_53b (g237_53 f fu) f _ _ _ = _
      unfold g237_53b
      rw [hs]
      simp only [Option.bind_some, i10]
      by_cases c1 : kK (tstr B n lm) i = 44
      · rw [if_neg (fun h => h c1), if_pos c1, xlx_o _ _ (by omega), hE.2.2.2.1, if_neg (by omega), xlx_o _ _ (by omega), hS.1.2.1, if_pos (by omega), Int.toNat_natCast, Int.toNat_natCast, xlx_o _ _ (by omega), hS.2.1, if_neg (by omega)]
      · rw [if_pos c1, if_neg c1]
    unfold pRest pItems
    by_cases c1 : kK (tstr B n lm) i = 44
    · show rRP f q B n lm o r cb G L c N M p pl (g237_53 f (fu + 1) ((q : Int) + pl) p) (pbind (if kK (tstr B n lm) i = 44 then pbind (pItem (tstr B n lm) F (V, g, I, i + 1)) fun s' => pItems (tstr B n lm) F k s' else .inr (V, g, I, i)) _)
      rw [if_pos c1, pbind_as]
      rw [if_pos c1] at es
      obtain ⟨_, L1, p1, p2⟩ := hA.sg (f := f) hf hE c1 (by unfold isSg; omega)
      rw [p1] at es
      simp only [Option.bind_some] at es
      have h1 := l_item (f := f) (F := F) hf hcb (show 4 * (n + 1 - (i + 1)) + 2 ≤ F by omega) hS p2 (show c ≤ cb + (i + 1) by omega) (by omega)
      unfold rIP at h1
      cases hp2 : pItem (tstr B n lm) F (V, g, I, i + 1) with
      | inl w =>
        rw [hp2] at h1
        obtain ⟨G1, L2, a1, a2, a3, a4⟩ := h1
        refine ⟨G1, L2, ?_, a2, a3.fg (by omega)⟩
        rw [es, a1]
        exact l_ritl_bad (by omega) (by omega)
      | inr s =>
        rw [hp2] at h1
        obtain ⟨G1, L2, c2, a1, a2, a3, a4, a5, a6⟩ := h1
        have hle := pItem_le hp2
        simp only at hle
        have h2 := ih fu (by omega) s.2.2.2 c2 G1 L2 s.1 s.2.1 s.2.2.1 (by omega) (by omega) a4 ⟨by rw [a3 _ _ (by omega)]; exact hN.1, hN.2.1, fun j hj => by rw [a3 _ _ (by omega)]; exact hN.2.2 j hj⟩ (hM.fr (a3 _ _ (by omega)) (fun a j _ _ => a3 _ _ (by omega))) (by rw [a3 _ _ (by omega)]; exact h19) (by rw [a3 _ _ (by omega)]; exact h24) (by rw [a3 _ _ (by omega)]; exact h9) a2 a6
        refine rRP.frame (P := pRest (tstr B n lm) F N M p pl k s) h2 ?_ (a3.fg (by omega)) (fun a j ha => a3 _ _ (by omega)) a5
        rw [es, a1]
        rfl
    · show rRP f q B n lm o r cb G L c N M p pl (g237_53 f (fu + 1) ((q : Int) + pl) p) (pbind (if kK (tstr B n lm) i = 44 then pbind (pItem (tstr B n lm) F (V, g, I, i + 1)) fun s' => pItems (tstr B n lm) F k s' else .inr (V, g, I, i)) _)
      rw [if_neg c1]
      rw [if_neg c1] at es
      exact rRP.frame (l_r89 (f := f) (F := F) (pl := pl) hf hcb hF hr hS hN hM h19 h24 h9 hp hA hc) es (.rf _ _ _ _ _ _) (fun _ _ _ => rfl) (Nat.le_refl _)
/-- a rule, but for its HEAD's predicate -/
theorem pRule_e {t : tStr} {N : List Int} {ins : List (Int × Int × Int)} {outs : List Int} {M : List pMn} {R : List pRu} {i : Nat} : pRule t F (N, ins, outs, M, R, i) = if R.length = 24 then .inl (kS t i) else pbind (pPred t N i) fun p => pbind (pbind (pNeed t 40 p.2.2) fun j => pbind (pItem t F ([], (0, -1, -1), [], j)) fun a => pRest t F p.2.1 M p.1 (kS t i) 3 a) fun z => .inr (z.2.1.1, ins, outs, z.2.1.2.2.2.1, R ++ [(p.1, kS t i, z.1.1, z.1.2, z.2.1.2.1, z.2.1.2.2.1)], z.2.2) := by
  unfold pRule pRest pBody
  simp only [pbind_as, pbind_r]
end
