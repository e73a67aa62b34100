/-! predicate, edits, edit, place, forget, met; feed, end -/
section
variable {f m n hr : Nat} {T : List (List Int)} {lns : Nat → sLn}
/-- which predicates changed in the latest round -/
def lnCh (ln : sLn) (s : pPg) (p : Nat) : Prop := ln.2.2.1.2.2 = true ∧ ∃ x, x ∈ lgR ((ln.2.1.1 + ln.2.1.2.1 : Nat) : Int) (lMo ln).2.1 (ln.1 (ln.2.1.1 + ln.2.1.2.1 - 1)).2.1 ∧ ofP s x.2.2 p
/-- predicate(): thrown, value -/
def stPd (T : List (List Int)) (ln : sLn) (p w t v : Int) : Prop := ∃ s M, isMo T (lMo ln) s M ∧ ((0 ≤ p ∧ p < s.1.length) ∧ t = 0 ∧ (w = 0 → v = (qN s p.toNat : Int)) ∧ (w = 1 → v = pKy s.2.1 p) ∧ (w = 2 → v = b01 (pIn s.2.1 p)) ∧ (w = 3 → v = b01 (pOu s.2.2.1 p)) ∧ (w = 4 → v = (qRs s.1.length s.2.2.2.2.1 p.toNat : Int)) ∧ (w = 5 → v = ln.2.2.1.1 p.toNat) ∧ (w = 6 → v = ((M p.toNat).length : Int)) ∧ (w = 7 → (v = 0 ∨ v = 1) ∧ (v = 1 ↔ lnCh ln s p.toNat)) ∧ ((w < 0 ∨ 7 < w) → v = -1) ∨ ¬ (0 ≤ p ∧ p < s.1.length) ∧ t = 1 ∧ v = 0)
theorem l_378 {G : xG_} {p w : Int} (hf : 1000100 < f) (h : rHb G T m lns hr n) :
    ∃ t v G', g378 f p w G = some (v, G') ∧ stPd T (lns hr) p w t v ∧ rHb G' T m lns hr n ∧ G' 0 74 = t ∧ G' 0 63 = G 0 63 ∧ xfHo G G' := by
  obtain ⟨G1, q, c, s, M, k1, k2, k3, k4, k5, k6, k7⟩ := l_ld0 hf h
  have hok := k2.2.2.1
  have hnp := hok.1.1
  have h62 := k4.2.2.1
  have h4 := k4.2.2.2.1
  have e24 : g378_24 f G1 = some (0, xup2 G1 0 74 1) := by
    unfold g378_24
    rw [l_321]
    rfl
  by_cases c1 : 0 ≤ p ∧ p < (s.1.length : Int)
  · obtain ⟨x, rfl⟩ : ∃ x : Nat, p = (x : Int) := ⟨p.toNat, by omega⟩
    have hx : x < s.1.length := by omega
    have hx16 : 0 ≤ (x : Int) ∧ (x : Int) < 16 := by omega
    obtain ⟨s', M', b1, b2, b3⟩ := k4.l1
    obtain ⟨es, eM⟩ := isMo_u k2 b1
    subst es
    obtain ⟨f1, f2, f3, f4⟩ := k3.1.2.2.2.1 x (by omega)
    have g4 : G1 (2 + 2) x = (qN s x : Int) := by
      have := k3.2.1 x hx
      have h2 := (pNn_in hok.1 (x : Int)).1
      unfold qN
      rw [this]
      omega
    have g7 : G1 (2 + 5) x = (qRs s.1.length s.2.2.2.2.1 x : Int) := k3.2.2.1.2 x hx
    have cx := b2.2.2.2.2.2.2.2.2.1
    have hch : (G1 (123 + 29 * hr + 19) x = 0 ∨ G1 (123 + 29 * hr + 19) x = 1) ∧ (G1 (123 + 29 * hr + 19) x = 1 ↔ lnCh (lns hr) s x) := by
      cases hb : (lns hr).2.2.1.2.2 with
      | true =>
        obtain ⟨y1, y2⟩ := cx.1 hb x (by omega)
        refine ⟨y2, ?_⟩
        rw [y1]
        exact ⟨fun z => ⟨hb, z⟩, fun z => z.2⟩
      | false =>
        have y := cx.2 hb x (by omega)
        rw [y]
        refine ⟨.inl rfl, fun z => absurd z (by decide), fun z => ?_⟩
        have := z.1
        rw [hb] at this
        cases this
    have e0 : g378 f (x : Int) w G = (if w < 0 ∨ 7 < w then (some (-1, G1)) else (if w = 0 then some (G1 (2 + 2) x, G1) else (if w = 1 then some (G1 (2 + 3) x, G1) else (if w = 2 then (if (G1 (2 + 6) x) = 0 then g378_125 f (0) G1 else g378_125 f (1) G1) else (if w = 3 then (if (G1 (2 + 7) x) = 0 then g378_143 f (0) G1 else g378_143 f (1) G1) else (if w = 4 then some (G1 (2 + 5) x, G1) else (if w = 5 then some (G1 (123 + 29 * hr + 18) x, G1) else (if w = 6 then some (G1 (108) x, G1) else some (G1 (123 + 29 * hr + 19) x, G1))))))))) := by
      unfold g378
      rw [Option.bind_some, k1, Option.bind_some, if_neg (by omega), k3.1.1.1, if_pos c1.2, h62, if_pos (by omega), Int.toNat_natCast, Int.toNat_natCast, if_pos hx16, if_pos hx16, if_pos hx16, if_pos hx16, if_pos hx16, if_pos hx16, if_pos hx16, if_pos hx16]
    have b0 : ∀ b : Bool, (if b01 b = 0 then some ((0 : Int), G1) else some (1, G1)) = some (b01 b, G1) := fun b => by cases b <;> rfl
    have fin : ∀ v : Int, g378 f (x : Int) w G = some (v, G1) → ((w = 0 → v = (qN s x : Int)) ∧ (w = 1 → v = pKy s.2.1 (x : Int)) ∧ (w = 2 → v = b01 (pIn s.2.1 (x : Int))) ∧ (w = 3 → v = b01 (pOu s.2.2.1 (x : Int))) ∧ (w = 4 → v = (qRs s.1.length s.2.2.2.2.1 x : Int)) ∧ (w = 5 → v = (lns hr).2.2.1.1 x) ∧ (w = 6 → v = ((M x).length : Int)) ∧ (w = 7 → (v = 0 ∨ v = 1) ∧ (v = 1 ↔ lnCh (lns hr) s x)) ∧ ((w < 0 ∨ 7 < w) → v = -1)) → ∃ t v G', g378 f (x : Int) w G = some (v, G') ∧ stPd T (lns hr) (x : Int) w t v ∧ rHb G' T m lns hr n ∧ G' 0 74 = t ∧ G' 0 63 = G 0 63 ∧ xfHo G G' := fun v he hv => ⟨0, v, G1, he, ⟨s, M, k2, .inl ⟨c1, rfl, by rw [Int.toNat_natCast]; exact hv⟩⟩, k4, k5, k6, k7⟩
    by_cases d : w < 0 ∨ 7 < w
    · exact fin (-1) (by rw [e0, if_pos d]) ⟨fun z => by omega, fun z => by omega, fun z => by omega, fun z => by omega, fun z => by omega, fun z => by omega, fun z => by omega, fun z => by omega, fun _ => rfl⟩
    rw [if_neg d] at e0
    by_cases d0 : w = 0
    · exact fin _ (by rw [e0, if_pos d0, g4]) ⟨fun z => rfl, fun z => by omega, fun z => by omega, fun z => by omega, fun z => by omega, fun z => by omega, fun z => by omega, fun z => by omega, fun z => absurd z d⟩
    rw [if_neg d0] at e0
    by_cases d1 : w = 1
    · exact fin _ (by rw [e0, if_pos d1, f2]) ⟨fun z => by omega, fun z => rfl, fun z => by omega, fun z => by omega, fun z => by omega, fun z => by omega, fun z => by omega, fun z => by omega, fun z => absurd z d⟩
    rw [if_neg d1] at e0
    by_cases d2 : w = 2
    · exact fin _ (by rw [e0, if_pos d2, f1]; exact b0 _) ⟨fun z => by omega, fun z => by omega, fun z => rfl, fun z => by omega, fun z => by omega, fun z => by omega, fun z => by omega, fun z => by omega, fun z => absurd z d⟩
    rw [if_neg d2] at e0
    by_cases d3 : w = 3
    · exact fin _ (by rw [e0, if_pos d3, f3]; exact b0 _) ⟨fun z => by omega, fun z => by omega, fun z => by omega, fun z => rfl, fun z => by omega, fun z => by omega, fun z => by omega, fun z => by omega, fun z => absurd z d⟩
    rw [if_neg d3] at e0
    by_cases d4 : w = 4
    · exact fin _ (by rw [e0, if_pos d4, g7]) ⟨fun z => by omega, fun z => by omega, fun z => by omega, fun z => by omega, fun z => rfl, fun z => by omega, fun z => by omega, fun z => by omega, fun z => absurd z d⟩
    rw [if_neg d4] at e0
    by_cases d5 : w = 5
    · exact fin _ (by rw [e0, if_pos d5]) ⟨fun z => by omega, fun z => by omega, fun z => by omega, fun z => by omega, fun z => by omega, fun z => b2.2.2.2.2.2.1 x (by omega), fun z => by omega, fun z => by omega, fun z => absurd z d⟩
    rw [if_neg d5] at e0
    by_cases d6 : w = 6
    · exact fin _ (by rw [e0, if_pos d6]) ⟨fun z => by omega, fun z => by omega, fun z => by omega, fun z => by omega, fun z => by omega, fun z => by omega, fun z => (k3.2.2.2 x hx).1.1, fun z => by omega, fun z => absurd z d⟩
    rw [if_neg d6] at e0
    exact fin _ e0 ⟨fun z => by omega, fun z => by omega, fun z => by omega, fun z => by omega, fun z => by omega, fun z => by omega, fun z => by omega, fun z => hch, fun z => absurd z d⟩
  · obtain ⟨w1, w2, w3, w4⟩ := k4.lost k6 k7
    refine ⟨1, 0, _, ?_, ⟨s, M, k2, .inr ⟨c1, rfl, rfl⟩⟩, w1, w2, w3, w4⟩
    unfold g378
    rw [Option.bind_some, k1, Option.bind_some, k3.1.1.1, e24]
    by_cases d : p < 0
    · rw [if_pos d]
    · rw [if_neg d, if_neg (by omega)]
/-- the edits of the latest round -/
def lnEs (ln : sLn) (s : pPg) (E : List pEd) : Prop := (ln.2.2.1.2.2 = true → qEd s (lMo ln).2.1 (ln.1 (ln.2.1.1 + ln.2.1.2.1 - 1)).2.1 E) ∧ (ln.2.2.1.2.2 = false → E = [])
theorem l_379 {G : xG_} (h : rHb G T m lns hr n) : ∃ s M E, isMo T (lMo (lns hr)) s M ∧ lnEs (lns hr) s E ∧ g379 f G = some ((E.length : Int), xup2 G 0 74 0) := by
  have h62 := h.2.2.1
  have h4 := h.2.2.2.1
  obtain ⟨s, M, b1, b2, b3⟩ := h.l1
  obtain ⟨E, e1, e2⟩ := b2.2.2.2.2.2.2.2.1
  refine ⟨s, M, E, b1, e2, ?_⟩
  unfold g379
  rw [Option.bind_some, xup2_n (by omega), h62, if_pos (by omega), Int.toNat_natCast, xup2_n (by omega), e1.1]
/-- edit(): thrown, value -/
def stEt (T : List (List Int)) (ln : sLn) (i w t v : Int) : Prop := ∃ s M E, isMo T (lMo ln) s M ∧ lnEs ln s E ∧ (((0 ≤ i ∧ i < E.length) ∧ 0 ≤ w ∧ w ≤ 1 + (qN s (E.getD i.toNat dEd).1 : Int)) ∧ t = 0 ∧ v = (if w = 0 then ((E.getD i.toNat dEd).1 : Int) else if w = 1 then (E.getD i.toNat dEd).2.1 else (E.getD i.toNat dEd).2.2.getD (w - 2).toNat 0) ∨ ¬ ((0 ≤ i ∧ i < E.length) ∧ 0 ≤ w ∧ w ≤ 1 + (qN s (E.getD i.toNat dEd).1 : Int)) ∧ t = 1 ∧ v = 0)
theorem l_380 {G : xG_} {i w : Int} (hf : 1000100 < f) (h : rHb G T m lns hr n) :
    ∃ t v G', g380 f i w G = some (v, G') ∧ stEt T (lns hr) i w t v ∧ rHb G' T m lns hr n ∧ G' 0 74 = t ∧ G' 0 63 = G 0 63 ∧ xfHo G G' := by
  obtain ⟨G1, q, c, s, M, k1, k2, k3, k4, k5, k6, k7⟩ := l_ld0 hf h
  have hok := k2.2.2.1
  have hnp := hok.1.1
  have h62 := k4.2.2.1
  have h4 := k4.2.2.2.1
  obtain ⟨s', M', b1, b2, b3⟩ := k4.l1
  obtain ⟨es, eM⟩ := isMo_u k2 b1
  subst es
  obtain ⟨E, e1, e2⟩ := b2.2.2.2.2.2.2.2.1
  have hE : lnEs (lns hr) s E := e2
  have e55 : g380_55 f G1 = some (0, xup2 G1 0 74 1) := by
    unfold g380_55
    rw [l_321]
    rfl
  have lost : ¬ ((0 ≤ i ∧ i < E.length) ∧ 0 ≤ w ∧ w ≤ 1 + (qN s (E.getD i.toNat dEd).1 : Int)) → g380 f i w G = some (0, xup2 G1 0 74 1) → ∃ t v G', g380 f i w G = some (v, G') ∧ stEt T (lns hr) i w t v ∧ rHb G' T m lns hr n ∧ G' 0 74 = t ∧ G' 0 63 = G 0 63 ∧ xfHo G G' := fun hc he => by
    obtain ⟨w1, w2, w3, w4⟩ := k4.lost k6 k7
    exact ⟨1, 0, _, he, ⟨s, M, E, k2, hE, .inr ⟨hc, rfl, rfl⟩⟩, w1, w2, w3, w4⟩
  have ho : ∀ r : Option (Int × xG_), (if 0 ≤ (G1 0 62) ∧ (G1 0 62) < 4 then r else none) = r := fun r => by rw [h62, if_pos (by omega)]
  by_cases c1 : i < 0
  · refine lost (by omega) ?_
    unfold g380
    rw [Option.bind_some, k1, Option.bind_some, ho, if_pos c1, e55]
  by_cases c2 : (E.length : Int) ≤ i
  · refine lost (by omega) ?_
    unfold g380
    rw [Option.bind_some, k1, Option.bind_some, ho, if_neg c1, h62, Int.toNat_natCast, e1.1, if_pos c2, e55]
  by_cases c3 : w < 0
  · refine lost (by omega) ?_
    unfold g380
    rw [Option.bind_some, k1, Option.bind_some, ho, if_neg c1, h62, Int.toNat_natCast, e1.1, if_neg c2, if_pos c3, e55]
  obtain ⟨x, rfl⟩ : ∃ x : Nat, i = (x : Int) := ⟨i.toNat, by omega⟩
  have hx : x < E.length := by omega
  have hl := e1.2.1
  obtain ⟨y1, y2, y3⟩ := e1.2.2 x hx
  have hm : E.getD x dEd ∈ E := by
    rw [getD_e hx]
    exact List.getElem_mem _
  obtain ⟨p1, p2, p3, p4⟩ : (E.getD x dEd).1 < s.1.length ∧ _ ∧ (E.getD x dEd).2.2.length = qN s (E.getD x dEd).1 ∧ _ := by
    cases hb : (lns hr).2.2.1.2.2 with
    | true => exact ((hE.1 hb).2 _).mp hm
    | false => rw [hE.2 hb] at hx; exact absurd hx (Nat.not_lt_zero x)
  have g4 : G1 (2 + 2) (E.getD x dEd).1 = (qN s (E.getD x dEd).1 : Int) := by
    have := k3.2.1 (E.getD x dEd).1 p1
    have h2 := (pNn_in hok.1 ((E.getD x dEd).1 : Int)).1
    unfold qN
    rw [this]
    omega
  have hq4 : qN s (E.getD x dEd).1 ≤ 4 := by have := (pNn_in hok.1 ((E.getD x dEd).1 : Int)).2; unfold qN; omega
  have ew : xwr (1 + (qN s (E.getD x dEd).1 : Int)) = 1 + (qN s (E.getD x dEd).1 : Int) := xwr_g _ (by omega) (by omega)
  rw [Int.toNat_natCast] at lost
  have hx2 : 0 ≤ (x : Int) ∧ (x : Int) < 3400 := by omega
  have e0 : g380 f (x : Int) w G = (if w ≤ 1 + (qN s (E.getD x dEd).1 : Int) then (if ¬ w = 0 then (if ¬ w = (1) then (if 0 ≤ (xwr ((xwr ((xwr ((4) * (x : Int))) + w)) - (2))) ∧ (xwr ((xwr ((xwr ((4) * (x : Int))) + w)) - (2))) < 13600 then g380_102 f (G1 (123 + 29 * hr + 23) (xwr ((xwr ((xwr ((4) * (x : Int))) + w)) - (2))).toNat) G1 else none) else g380_102 f (E.getD x dEd).2.1 G1) else g380_102 f ((E.getD x dEd).1 : Int) G1) else g380_55 f G1) := by
    unfold g380
    rw [Option.bind_some, k1, Option.bind_some, ho, if_neg c1, h62, Int.toNat_natCast, e1.1, if_neg c2, if_neg c3, if_pos hx2, Int.toNat_natCast, y1, if_pos (by omega), Int.toNat_natCast, g4, ew, if_pos hx2, if_pos hx2, y2]
  by_cases c4 : w ≤ 1 + (qN s (E.getD x dEd).1 : Int)
  · rw [if_pos c4] at e0
    have fin : ∀ v : Int, g380 f (x : Int) w G = some (v, G1) → v = (if w = 0 then ((E.getD x dEd).1 : Int) else if w = 1 then (E.getD x dEd).2.1 else (E.getD x dEd).2.2.getD (w - 2).toNat 0) → ∃ t v G', g380 f (x : Int) w G = some (v, G') ∧ stEt T (lns hr) (x : Int) w t v ∧ rHb G' T m lns hr n ∧ G' 0 74 = t ∧ G' 0 63 = G 0 63 ∧ xfHo G G' := fun v he hv => ⟨0, v, G1, he, ⟨s, M, E, k2, hE, .inl ⟨by rw [Int.toNat_natCast]; omega, rfl, by rw [Int.toNat_natCast]; exact hv⟩⟩, k4, k5, k6, k7⟩
    by_cases d0 : w = 0
    · exact fin _ (by rw [e0, if_neg (fun z => z d0)]; rfl) (by rw [if_pos d0])
    · rw [if_pos d0] at e0
      by_cases d1 : w = 1
      · exact fin _ (by rw [e0, if_neg (fun z => z d1)]; rfl) (by rw [if_neg d0, if_pos d1])
      · obtain ⟨z, hz⟩ : ∃ z : Nat, w = ((z + 2 : Nat) : Int) := ⟨(w - 2).toNat, by omega⟩
        have e4 : xwr (xwr (xwr (4 * (x : Int)) + w) - 2) = ((4 * x + z : Nat) : Int) := by
          rw [xwr_g (4 * (x : Int)) (by omega) (by omega), xwr_g (4 * (x : Int) + w) (by omega) (by omega), xwr_g _ (by omega) (by omega)]
          omega
        refine fin _ (by rw [e0, if_pos d1, e4, if_pos (by omega), Int.toNat_natCast, y3 z (by omega)]; rfl) ?_
        rw [if_neg d0, if_neg d1, show (w - 2).toNat = z by omega]
  · exact lost (by omega) (by rw [e0, if_neg c4, e55])
/-- place() -/
theorem l_364 {G : xG_} : g364 f G = some (G 0 75, xup2 G 0 74 0) := by
  unfold g364
  rw [Option.bind_some, xup2_n (by omega)]
/-- forget() -/
theorem l_367 {G : xG_} (hf : 100 < f) (h : rHb G T m lns hr n) :
    ∃ G', g367 f G = some (((lns hr).2.2.2.1.1.length : Int), G') ∧ rHb G' T m (fun k => if k = hr then lnF (lns k) else lns k) hr n ∧ G' 0 74 = 0 ∧ G' 0 63 = G 0 63 ∧ xfHo G G' := by
  have h62 := h.2.2.1
  have h4 := h.2.2.2.1
  have hc := h.c
  obtain ⟨a1, a2, a3, a4, a5, a6, a7, a8, a9⟩ := h
  obtain ⟨s, M, b1, b2, b3⟩ := a5 hr a4
  obtain ⟨G1, u1, u2, u3, u4, u5⟩ := l_202 (f := f) (o := 123 + 29 * hr) (G := xup2 G 0 74 0) (by omega)
  have z : ∀ a j, ¬ (a = 0 ∧ j = 74) → ¬ (a = 123 + 29 * hr ∧ (j = 33 ∨ j = 34)) → ¬ (a = 123 + 29 * hr + 26 ∧ j < 72) → G1 a j = G a j := fun a j q1 q2 q3 => by rw [u5 a j q2 q3, xup2_n (by omega)]
  have hl := b2.2.2.2.2.2.2.2.2.2.1.1.1
  refine ⟨G1, ?_, ?_, ?_, ?_, fun a j q1 q2 q3 q4 q5 => z a j (by omega) (by omega) (by omega)⟩
  · unfold g367
    rw [Option.bind_some, xup2_n (by omega), h62, if_pos (by omega), if_pos (by omega), Int.toNat_natCast, u1, Option.bind_some, xup2_n (by omega), hl]
  · refine rHb.of ⟨a1.ge (fun j _ _ => z _ _ (by omega) (by omega) (by omega)), a2.ge (z _ _ (by omega) (by omega) (by omega)) (z _ _ (by omega) (by omega) (by omega)) (fun a j _ => z _ _ (by omega) (by omega) (by omega)), fun k hk => ?_⟩ (by rw [z _ _ (by omega) (by omega) (by omega)]; exact a3) a4 (by rw [z _ _ (by omega) (by omega) (by omega)]; exact a6) (by rw [z _ _ (by omega) (by omega) (by omega)]; exact a7) (by rw [z _ _ (by omega) (by omega) (by omega), z _ _ (by omega) (by omega) (by omega)]; exact a8) ?_
    · obtain ⟨s', M', x1, x2, x3⟩ := a5 k hk
      by_cases d : k = hr
      · simp only [if_pos d]
        rw [d] at x1 x2 x3 ⊢
        refine ⟨s', M', x1, ?_, ?_⟩
        · obtain ⟨r1, ⟨r2, r3, r4, r5⟩, r6, r7, r8, r9, r10, ⟨E, r11, r12⟩, r18, ⟨r13, r14, r15⟩, r16, r17⟩ := x2
          have zl : ∀ a j, 123 + 29 * hr ≤ a → ¬ (a = 123 + 29 * hr ∧ (j = 33 ∨ j = 34)) → a ≠ 123 + 29 * hr + 26 → G1 a j = G a j := fun a j q1 q2 q3 => z _ _ (by omega) q2 (by omega)
          exact ⟨⟨r1.1.ge (zl _ _ (by omega) (by omega) (by omega)) (fun a j _ _ => zl _ _ (by omega) (by omega) (by omega)), r1.2.1.ge (zl _ _ (by omega) (by omega) (by omega)) (fun a j _ _ => zl _ _ (by omega) (by omega) (by omega)), r1.2.2.1.ge (zl _ _ (by omega) (by omega) (by omega)) (fun a j _ _ => zl _ _ (by omega) (by omega) (by omega)), r1.2.2.2⟩, ⟨by rw [zl _ _ (by omega) (by omega) (by omega)]; exact r2, by rw [zl _ _ (by omega) (by omega) (by omega)]; exact r3, by rw [zl _ _ (by omega) (by omega) (by omega)]; exact r4, by rw [zl _ _ (by omega) (by omega) (by omega)]; exact r5⟩, r6.ge (zl _ _ (by omega) (by omega) (by omega)) (fun a j _ _ => zl _ _ (by omega) (by omega) (by omega)), fun c hc => by rw [zl _ _ (by omega) (by omega) (by omega)]; exact r7 c hc, fun c hc => by rw [zl _ _ (by omega) (by omega) (by omega), zl _ _ (by omega) (by omega) (by omega)]; exact r8 c hc, fun p hp => by rw [zl _ _ (by omega) (by omega) (by omega)]; exact r9 p hp, fun c hc => by rw [zl _ _ (by omega) (by omega) (by omega)]; exact r10 c hc, ⟨E, r11.ge (zl _ _ (by omega) (by omega) (by omega)) (fun a j _ _ => zl _ _ (by omega) (by omega) (by omega)), r12⟩, r18.ge (fun j => zl _ _ (by omega) (by omega) (by omega)), ⟨⟨u2, Nat.zero_le _, fun x hx => absurd hx (Nat.not_lt_zero x)⟩, u3, fun c hc => u4 c hc⟩, by rw [zl _ _ (by omega) (by omega) (by omega)]; exact r16, by rw [zl _ _ (by omega) (by omega) (by omega)]; exact r17⟩
        · obtain ⟨q1, q2, q3, q4, q5, q6, q7, q8⟩ := x3
          exact ⟨q1, q2, q3, q4, q5, q6, q7, fun e he => (by cases he), .inl rfl, fun _ => .inl rfl⟩
      · simp only [if_neg d]
        exact ⟨s', M', x1, x2.ge (fun a j _ _ => z _ _ (by omega) (by omega) (by omega)), x3⟩
    · have hl := a9.ge (G' := G1) (fun j _ _ => z _ _ (by omega) (by omega) (by omega)) (fun a j _ _ => z _ _ (by omega) (by omega) (by omega)) (fun a j _ _ => z _ _ (by omega) (by omega) (by omega))
      intro e1 y hy e2 s M hM
      refine hl e1 y hy e2 s M ?_
      by_cases d : y = hr
      · simp only [if_pos d] at hM
        exact hM
      · simp only [if_neg d] at hM
        exact hM
  · rw [u5 _ _ (by omega) (by omega), xup2_s]
  · exact z _ _ (by omega) (by omega) (by omega)
/-- what merge met -/
def rMt (G : xG_) (mt : Int × List Int) : Prop := G 0 82 = mt.1 ∧ G 0 83 = (mt.2.length : Int) ∧ mt.2.length ≤ 4 ∧ ∀ j, j < mt.2.length → G 257 j = mt.2.getD j 0
def stMe (mt : Int × List Int) (w t v : Int) : Prop := (mt.1 ≠ -1 ∧ 0 ≤ w ∧ w ≤ mt.2.length) ∧ t = 0 ∧ v = (if w = 0 then mt.1 else mt.2.getD (w - 1).toNat 0) ∨ ¬ (mt.1 ≠ -1 ∧ 0 ≤ w ∧ w ≤ mt.2.length) ∧ t = 1 ∧ v = 0
theorem l_330 {G : xG_} {w : Int} {mt : Int × List Int} (h : rMt G mt) : ∃ t v G', g330 f w G = some (v, G') ∧ stMe mt w t v ∧ G' 0 74 = t ∧ ∀ a j, ¬ (a = 0 ∧ j = 74) → G' a j = G a j := by
  obtain ⟨h1, h2, h3, h4⟩ := h
  have e25 : ∀ Z : xG_, g330_25 f Z = some (0, xup2 Z 0 74 1) := fun Z => by
    unfold g330_25
    rw [l_321]
    rfl
  have z : ∀ a j, ¬ (a = 0 ∧ j = 74) → xup2 G 0 74 0 a j = G a j := fun a j q => xup2_n (by omega)
  have e0 : g330 f w G = (if mt.1 = (-1) then g330_25 f (xup2 G 0 74 0) else (if w < 0 then g330_25 f (xup2 G 0 74 0) else (if w ≤ (mt.2.length : Int) then (if ¬ w = 0 then (if 0 ≤ (xwr (w - (1))) ∧ (xwr (w - (1))) < 4 then g330_51 f (G 257 (xwr (w - (1))).toNat) (xup2 G 0 74 0) else none) else g330_51 f mt.1 (xup2 G 0 74 0)) else g330_25 f (xup2 G 0 74 0)))) := by
    unfold g330
    rw [Option.bind_some, z _ _ (by omega), z _ _ (by omega), z _ _ (by omega), h1, h2]
  have lost : ¬ (mt.1 ≠ -1 ∧ 0 ≤ w ∧ w ≤ mt.2.length) → g330 f w G = g330_25 f (xup2 G 0 74 0) → ∃ t v G', g330 f w G = some (v, G') ∧ stMe mt w t v ∧ G' 0 74 = t ∧ ∀ a j, ¬ (a = 0 ∧ j = 74) → G' a j = G a j := fun hc he => ⟨1, 0, _, by rw [he, e25], .inr ⟨hc, rfl, rfl⟩, xup2_s _ _ _ _, fun a j q => by rw [xup2_n (by omega)]; exact z a j q⟩
  by_cases c1 : mt.1 = -1
  · exact lost (fun q => q.1 c1) (by rw [e0, if_pos c1])
  by_cases c2 : w < 0
  · exact lost (by omega) (by rw [e0, if_neg c1, if_pos c2])
  by_cases c3 : w ≤ (mt.2.length : Int)
  · rw [if_neg c1, if_neg c2, if_pos c3] at e0
    by_cases c4 : w = 0
    · refine ⟨0, mt.1, _, by rw [e0, if_neg (fun q => q c4)]; rfl, .inl ⟨⟨c1, by omega, c3⟩, rfl, by rw [if_pos c4]⟩, xup2_s _ _ _ _, z⟩
    · obtain ⟨x, hx⟩ : ∃ x : Nat, w = ((x + 1 : Nat) : Int) := ⟨(w - 1).toNat, by omega⟩
      have ew : xwr (w - 1) = (x : Int) := by rw [xwr_g _ (by omega) (by omega)]; omega
      refine ⟨0, mt.2.getD x 0, _, by rw [e0, if_pos c4, ew, if_pos (by omega), Int.toNat_natCast, h4 x (by omega)]; rfl, .inl ⟨⟨c1, by omega, c3⟩, rfl, by rw [if_neg c4, show (w - 1).toNat = x by omega]⟩, xup2_s _ _ _ _, z⟩
  · exact lost (by omega) (by rw [e0, if_neg c1, if_neg c2, if_neg c3])
end
