section
/-! THE CLASS: the SHEET: countWorked() whole -/
def xL3 (ln : Nat) (G G' : xG_) : Prop := ∀ a j, a ≠ ln + 3 → G' a j = G a j
/-- what countWorked() looks at -/
def cCw (S : Nat → Nat × Nat × Nat) (G : xG_) (mo q ln tp : Nat) (s : pPg) (X : fXs) (to : Nat → Nat) (fr : Int) : Prop := cNe S G mo q s ∧ G mo 2 = (tp : Int) ∧ cTt S G tp X to ∧ G mo 6 = fr ∧ (S ln = (1, 1, 14) ∧ S (ln + 3) = (2, 3, 72) ∧ S (ln + 7) = (2, 0, 72) ∧ G ln 6 = ((ln + 3 : Nat) : Int) ∧ G ln 12 = ((ln + 7 : Nat) : Int)) ∧ (242 < ln ∧ mo ≠ ln + 3 ∧ q ≠ ln + 3 ∧ q + 1 ≠ ln + 3 ∧ tp ≠ ln + 3 ∧ ∀ c, c < 72 → to c + 2 < ln + 3 ∨ ln + 3 < to c)
/-- a CELL is worked -/
def cwP (X : fXs) (s : pPg) (told : Nat → Prop) (Dm ch : Nat) (fr : Int) (c : Nat) : Prop := X c ≠ none ∧ (told c ∨ (∃ x, x < 72 ∧ (xRd X c).testBit x = true ∧ Dm.testBit x = true) ∨ ((fr = 1 ∧ xRn X c = true) ∨ ∃ p, p < s.1.length ∧ (xRo X s c).testBit p = true ∧ ch.testBit p = true))
section
variable {f mo q ln tp : Nat} {S : Nat → Nat × Nat × Nat} {G G' G'' : xG_} {m : Nat × Nat} {s : pPg} {X : fXs} {to : Nat → Nat} {fr : Int} {ch c Dm : Nat}
theorem xL3.tr (h : xL3 ln G G') (h' : xL3 ln G' G'') : xL3 ln G G'' := fun a j p => by rw [h' a j p, h a j p]
theorem cCw.ge (h : cCw S G mo q ln tp s X to fr) (hx : xL3 ln G G') : cCw S G' mo q ln tp s X to fr := by
  obtain ⟨⟨a1, a2, a3, a4, a5, a6, a7, a8⟩, b1, ⟨t1, t2, t3⟩, b3, ⟨l1, l2, l3, l4, l5⟩, z0, z1, z2, z3, z4, z5⟩ := h
  refine ⟨⟨a1, by rw [hx _ _ (by omega)]; exact a2, a3, by rw [hx _ _ z1]; exact a4, a5, a6.ge (fun j _ _ _ => hx _ _ z2), ⟨by rw [hx _ _ z2]; exact a7.1, a7.2.1, fun k hk => by rw [hx _ _ z3]; exact a7.2.2 k hk⟩, a8⟩, by rw [hx _ _ z1]; exact b1, ⟨t1, t2, fun c hc => ?_⟩, by rw [hx _ _ z1]; exact b3, ⟨l1, l2, l3, by rw [hx _ _ (by omega)]; exact l4, by rw [hx _ _ (by omega)]; exact l5⟩, z0, z1, z2, z3, z4, z5⟩
  obtain ⟨c1, c2⟩ := t3 c hc
  have hz := z5 c hc
  refine ⟨by rw [hx _ _ z4]; exact c1, ?_⟩
  rcases c2 with q | ⟨q1, e, q2, q3⟩
  · exact .inl q
  · exact .inr ⟨q1, e, q2, q3.ge (fun _ _ _ => rfl) (fun a j y1 y2 => hx _ _ (by omega))⟩
theorem st_103s {lo hi : Int} {fu : Nat} (hf : 100 < f) (hch : ch < 2147483648) (h : cCw S G mo q ln tp s X to fr) (hm : rM9 lo hi Dm) (hc : c < 72) (hv : 0 ≤ G (ln + 3) c ∧ G (ln + 3) c ≤ 100000) : ∃ b, isB b (cwP X s (fun c => ¬ G (ln + 7) c = 0) Dm ch fr c) ∧ c103_103 f (fu + 1) 216 ln (ch : Int) lo hi (c : Int) (S, G, m) = c103_103 f fu 216 ln (ch : Int) lo hi ((c + 1 : Nat) : Int) (S, (if b = 1 then xup2 G (ln + 3) c (G (ln + 3) c + 1) else G), m) := by
  obtain ⟨hN, b1, ⟨t1, t2, t3⟩, b3, ⟨l1, l2, l3, l4, l5⟩, z0, z1, z2, z3, z4, z5⟩ := h
  have hs := hN.1
  have h0 := hN.2.1
  have m1 := hN.2.2.1
  obtain ⟨c1, c2⟩ := t3 c hc
  have ec : xwr ((c : Int) + 1) = ((c + 1 : Nat) : Int) := by rw [xwr_g _ (by omega) (by omega)]; omega
  have ev : xwr (G (ln + 3) c + 1) = G (ln + 3) c + 1 := xwr_g _ (by omega) (by omega)
  have g0 : cq_gr 7 0 5 216 (S, G, m) = some mo := by
    show (if S 216 = (1, 7, 5) then some (G 216 0).toNat else none) = _
    rw [if_pos (s216 hs), h0, Int.toNat_natCast]
  have gt : cq_gr 2 2 8 mo (S, G, m) = some tp := by
    show (if S mo = (1, 2, 8) then some (G mo 2).toNat else none) = _
    rw [if_pos m1, b1, Int.toNat_natCast]
  have ga : cq_ar tp (c : Int) (S, G, m) = some (to c) := by
    unfold cq_ar
    show (if (S tp).1 = 2 ∧ 5 ≤ (S tp).2.1 ∧ 0 ≤ (c : Int) ∧ (c : Int) < ((S tp).2.2 : Int) then some (G tp (c : Int).toNat).toNat else none) = _
    rw [t1, if_pos ⟨rfl, by decide, by omega, by show (c : Int) < ((72 : Nat) : Int); omega⟩, Int.toNat_natCast, c1, Int.toNat_natCast]
  have gl : cq_gr 1 12 14 ln (S, G, m) = some (ln + 7) := by
    show (if S ln = (1, 1, 14) then some (G ln 12).toNat else none) = _
    rw [if_pos l1, l5, Int.toNat_natCast]
  have gb : cq_ab (ln + 7) (c : Int) (S, G, m) = some (G (ln + 7) c) := by
    unfold cq_ab
    show (if (S (ln + 7)).1 = 2 ∧ (S (ln + 7)).2.1 < 2 ∧ 0 ≤ (c : Int) ∧ (c : Int) < ((S (ln + 7)).2.2 : Int) then some (G (ln + 7) (c : Int).toNat) else none) = _
    rw [l3, if_pos ⟨rfl, by decide, by omega, by show (c : Int) < ((72 : Nat) : Int); omega⟩, Int.toNat_natCast]
  have gw : cq_gr 1 6 14 ln (S, G, m) = some (ln + 3) := by
    show (if S ln = (1, 1, 14) then some (G ln 6).toNat else none) = _
    rw [if_pos l1, l4, Int.toNat_natCast]
  have gwa : cq_a 3 (ln + 3) (c : Int) (S, G, m) = some (G (ln + 3) c) := by
    unfold cq_a
    show (if (S (ln + 3)).1 = 2 ∧ (S (ln + 3)).2.1 = 3 ∧ 0 ≤ (c : Int) ∧ (c : Int) < ((S (ln + 3)).2.2 : Int) then some (G (ln + 3) (c : Int).toNat) else none) = _
    rw [l2, if_pos ⟨rfl, rfl, by omega, by show (c : Int) < ((72 : Nat) : Int); omega⟩, Int.toNat_natCast]
  have gws : cq_s 3 (ln + 3) (c : Int) (G (ln + 3) c + 1) (S, G, m) = some (S, xup2 G (ln + 3) c (G (ln + 3) c + 1), m) := by
    unfold cq_s
    show (if (S (ln + 3)).1 = 2 ∧ (S (ln + 3)).2.1 = 3 ∧ 0 ≤ (c : Int) ∧ (c : Int) < ((S (ln + 3)).2.2 : Int) then _ else none) = _
    rw [l2, if_pos ⟨rfl, rfl, by omega, by show (c : Int) < ((72 : Nat) : Int); omega⟩]
    rfl
  have yes : c103_159 (c103_103 f fu) f 216 ln (ch : Int) lo hi (c : Int) (S, G, m) = c103_103 f fu 216 ln (ch : Int) lo hi ((c + 1 : Nat) : Int) (S, xup2 G (ln + 3) c (G (ln + 3) c + 1), m) := by
    unfold c103_159 c103_170
    rw [gw, Option.bind_some, gwa, Option.bind_some, ev, gws, Option.bind_some, ec]
  have no : c103_170 (c103_103 f fu) f 216 ln (ch : Int) lo hi (c : Int) (S, G, m) = c103_103 f fu 216 ln (ch : Int) lo hi ((c + 1 : Nat) : Int) (S, G, m) := by
    unfold c103_170
    rw [ec]
  have e0 : c103_103 f (fu + 1) 216 ln (ch : Int) lo hi (c : Int) (S, G, m) = (if to c = 0 then c103_170 (c103_103 f fu) f 216 ln (ch : Int) lo hi (c : Int) (S, G, m) else ((cq_gr 1 12 14 ln (S, G, m)).bind fun v122 => ((cq_ab (v122) (c : Int) (S, G, m)).bind fun v124 => (if ¬ (v124) = 0 then c103_159 (c103_103 f fu) f 216 ln (ch : Int) lo hi (c : Int) (S, G, m) else ((cq_is 0 5 (to c) (S, G, m)).bind fun _ => ((c3 f (to c) lo hi (S, G, m)).bind fun R127 => (if ¬ (R127.1) = 0 then c103_159 (c103_103 f fu) f 216 ln (ch : Int) lo hi (c : Int) R127.2 else ((cq_is 7 5 216 R127.2).bind fun _ => ((c104 f 216 (to c) (ch : Int) R127.2).bind fun R134 => (if (R134.1) = 0 then c103_170 (c103_103 f fu) f 216 ln (ch : Int) lo hi (c : Int) R134.2 else c103_159 (c103_103 f fu) f 216 ln (ch : Int) lo hi (c : Int) R134.2)))))))))) := by
    show c103_103b (c103_103 f fu) f 216 _ _ _ _ _ _ = _
    unfold c103_103b
    rw [if_neg (by omega), g0, Option.bind_some, gt, Option.bind_some, ga, Option.bind_some]
  rcases c2 with ⟨q1, q2⟩ | ⟨q1, e, q2, q3⟩
  · refine ⟨0, .inr ⟨rfl, fun w => w.1 q2⟩, ?_⟩
    rw [e0, if_pos q1, no, if_neg (by decide)]
  · have o0 : ¬ to c = 0 := by omega
    rw [if_neg o0, gl, Option.bind_some, gb, Option.bind_some] at e0
    have hn : X c ≠ none := by rw [q2]; exact fun z => nomatch z
    by_cases ct : G (ln + 7) c = 0
    · rw [if_neg (fun z => z ct)] at e0
      obtain ⟨K, F, ⟨k1, _⟩, _, _, k7, _⟩ := id q3
      have eis : cq_is 0 5 (to c) (S, G, m) = some () := if_pos k1
      rw [eis, Option.bind_some, k_3 k1, Option.bind_some] at e0
      have iff := rM9_and k7 hm.1
      have erd : xRd X c = nRd e.1 := by unfold xRd; rw [q2]
      have ern : xRn X c = nNm e.1 := by unfold xRn; rw [q2]
      have ero : xRo X s c = nOf s e.1 := by unfold xRo; rw [q2]
      by_cases ca : ¬ xand8 (G (to c) 2) lo = 0 ∨ ¬ xand8 (G (to c) 3) hi = 0
      · obtain ⟨x, x1, x2, x3⟩ := iff.mp ca
        refine ⟨1, .inl ⟨rfl, hn, .inr (.inl ⟨x, x1, by rw [erd]; exact x2, x3⟩)⟩, ?_⟩
        rw [e0, if_pos ca, if_pos (show ¬ (1 : Int) = 0 by decide), yes, if_pos rfl]
      · rw [if_neg ca, if_neg (show ¬ ¬ (0 : Int) = 0 from fun z => z rfl)] at e0
        obtain ⟨b, b1', b2'⟩ := k_104 (f := f) (m := m) (ch := ch) hf hch hN q1 q3 b3
        have eis2 : cq_is 7 5 216 (S, G, m) = some () := if_pos (s216 hs)
        rw [eis2, Option.bind_some, b1', Option.bind_some] at e0
        refine ⟨b, ?_, ?_⟩
        · have hP : cwP X s (fun c => ¬ G (ln + 7) c = 0) Dm ch fr c ↔ ((fr = 1 ∧ nNm e.1 = true) ∨ ∃ p, p < s.1.length ∧ (nOf s e.1).testBit p = true ∧ ch.testBit p = true) := by
            unfold cwP
            rw [ern, ero, erd]
            constructor
            · rintro ⟨_, w | w | w⟩
              · exact (w ct).elim
              · exact (ca (iff.mpr w)).elim
              · exact w
            · intro w; exact ⟨hn, .inr (.inr w)⟩
          unfold isB at b2' ⊢
          rw [hP]
          exact b2'
        · rw [e0]
          rcases b2' with ⟨w, _⟩ | ⟨w, _⟩
          · rw [w, if_neg (show ¬ (1 : Int) = 0 by decide), yes, if_pos rfl]
          · rw [w, if_pos rfl, no, if_neg (by decide)]
    · refine ⟨1, .inl ⟨rfl, hn, .inl ct⟩, ?_⟩
      rw [e0, if_pos ct, yes, if_pos rfl]
theorem k_103b {lo hi : Int} (hf : 100 < f) (hch : ch < 2147483648) (hm : rM9 lo hi Dm) (told : Nat → Prop) : ∀ (d c fu : Nat) (G : xG_), c + d = 72 → d < fu → cCw S G mo q ln tp s X to fr → (∀ y, c ≤ y → y < 72 → 0 ≤ G (ln + 3) y ∧ G (ln + 3) y ≤ 100000) → (∀ y, ¬ G (ln + 7) y = 0 ↔ told y) → ∃ G', c103_103 f fu 216 ln (ch : Int) lo hi (c : Int) (S, G, m) = some (S, G', m) ∧ xL3 ln G G' ∧ (∀ y, y < c → G' (ln + 3) y = G (ln + 3) y) ∧ ∀ y, c ≤ y → y < 72 → (cwP X s told Dm ch fr y → G' (ln + 3) y = G (ln + 3) y + 1) ∧ (¬ cwP X s told Dm ch fr y → G' (ln + 3) y = G (ln + 3) y) := by
  intro d
  induction d with
  | zero =>
    intro c fu G e1 e2 h hv ht
    obtain ⟨fu, rfl⟩ : ∃ t, fu = t + 1 := ⟨fu - 1, by omega⟩
    refine ⟨G, ?_, fun _ _ _ => rfl, fun _ _ => rfl, fun y y1 y2 => by omega⟩
    show c103_103b (c103_103 f fu) f 216 _ _ _ _ _ _ = _
    unfold c103_103b
    rw [if_pos (by omega)]
  | succ d ih =>
    intro c fu G e1 e2 h hv ht
    obtain ⟨fu, rfl⟩ : ∃ t, fu = t + 1 := ⟨fu - 1, by omega⟩
    obtain ⟨b, b1, b2⟩ := st_103s (m := m) (fu := fu) hf hch h hm (by omega : c < 72) (hv c (Nat.le_refl _) (by omega))
    have et : (fun c => ¬ G (ln + 7) c = 0) = told := funext (fun y => propext (ht y))
    rw [et] at b1
    have hx : xL3 ln G (if b = 1 then xup2 G (ln + 3) c (G (ln + 3) c + 1) else G) := fun a j z => by
      split
      · exact xup2_n (by omega)
      · rfl
    have hy : ∀ y, y ≠ c → (if b = 1 then xup2 G (ln + 3) c (G (ln + 3) c + 1) else G) (ln + 3) y = G (ln + 3) y := fun y z => by
      split
      · exact xup2_n (by omega)
      · rfl
    have hcc : (cwP X s told Dm ch fr c → (if b = 1 then xup2 G (ln + 3) c (G (ln + 3) c + 1) else G) (ln + 3) c = G (ln + 3) c + 1) ∧ (¬ cwP X s told Dm ch fr c → (if b = 1 then xup2 G (ln + 3) c (G (ln + 3) c + 1) else G) (ln + 3) c = G (ln + 3) c) := by
      rcases b1 with ⟨w1, w2⟩ | ⟨w1, w2⟩
      · rw [if_pos w1, xup2_s]
        exact ⟨fun _ => rfl, fun z => (z w2).elim⟩
      · rw [if_neg (by omega)]
        exact ⟨fun z => (w2 z).elim, fun _ => rfl⟩
    -- every count stays small enough for what is left: at c it is never looked at again
    obtain ⟨G', i1, i2, i3, i4⟩ : ∃ G', c103_103 f fu 216 ln (ch : Int) lo hi ((c + 1 : Nat) : Int) (S, (if b = 1 then xup2 G (ln + 3) c (G (ln + 3) c + 1) else G), m) = some (S, G', m) ∧ xL3 ln (if b = 1 then xup2 G (ln + 3) c (G (ln + 3) c + 1) else G) G' ∧ (∀ y, y < c + 1 → G' (ln + 3) y = (if b = 1 then xup2 G (ln + 3) c (G (ln + 3) c + 1) else G) (ln + 3) y) ∧ ∀ y, c + 1 ≤ y → y < 72 → (cwP X s told Dm ch fr y → G' (ln + 3) y = (if b = 1 then xup2 G (ln + 3) c (G (ln + 3) c + 1) else G) (ln + 3) y + 1) ∧ (¬ cwP X s told Dm ch fr y → G' (ln + 3) y = (if b = 1 then xup2 G (ln + 3) c (G (ln + 3) c + 1) else G) (ln + 3) y) := by
      refine ih (c + 1) fu _ (by omega) (by omega) (h.ge hx) (fun y y1 y2 => ?_) (fun y => ?_)
      · rw [hy y (by omega)]; exact hv y (by omega) y2
      · rw [hx _ _ (by omega)]; exact ht y
    refine ⟨G', b2.trans i1, hx.tr i2, fun y y1 => by rw [i3 y (by omega), hy y (by omega)], fun y y1 y2 => ?_⟩
    by_cases cy : y = c
    · rw [cy, i3 c (by omega)]; exact hcc
    · have := i4 y (by omega) y2
      rw [hy y cy] at this
      exact this
end
end
section
/-! THE CLASS: the SHEET: countWorked() as the spec says -/
section
variable {f mo q ah ac cc ln tp : Nat} {S : Nat → Nat × Nat × Nat} {G : xG_} {m : Nat × Nat} {s : pPg} {X : fXs} {to : Nat → Nat} {fr : Int} {ch : Nat} {C D : fCs} {W : Nat → Int} {H : Nat → Prop}
theorem k_103 (hf : 100 < f) (hch : ch < 2147483648) (h : cCw S G mo q ln tp s X to fr) (h1 : G 216 1 = (cc : Int)) (hcc : S cc = (2, 4, 72)) (ha : S ah = (1, 2, 8)) (h3 : G ah 3 = (ac : Int)) (hac : S ac = (2, 4, 72)) (hC : okC C) (hD : okC D) (gD : ∀ x, x < 72 → G cc x = eC (D x)) (gC : ∀ x, x < 72 → G ac x = eC (C x)) (hv : ∀ y, y < 72 → 0 ≤ G (ln + 3) y ∧ G (ln + 3) y ≤ 100000) (ht : ∀ y, ¬ G (ln + 7) y = 0 ↔ W y ≠ -1) (hH : ∀ p, p < s.1.length → (ch.testBit p = true ↔ H p)) :
    ∃ G', c103 f 216 ah ln (ch : Int) (S, G, m) = some (S, G', m) ∧ xL3 ln G G' ∧ ∀ c, c < 72 → (qCw X s (fr = 1) W C D H c → G' (ln + 3) c = G (ln + 3) c + 1) ∧ (¬ qCw X s (fr = 1) W C D H c → G' (ln + 3) c = G (ln + 3) c) := by
  obtain ⟨lo, hi, Dm, a1, a2, a3⟩ := k_103a (f := f) (m := m) (ln := ln) (ch := (ch : Int)) h.1.1 h1 hcc ha h3 hac 72 0 f 0 0 0 (by omega) (by omega) .z (fun x => by
    rw [Nat.zero_testBit]
    constructor
    · intro z; cases z
    · rintro ⟨z, _⟩; omega)
  obtain ⟨G', b1, b2, _, b4⟩ := k_103b (f := f) (m := m) (ch := ch) hf hch a2 (fun y => W y ≠ -1) 72 0 f G (by omega) (by omega) h (fun y _ hy => hv y hy) ht
  refine ⟨G', a1.trans b1, b2, fun c hc => ?_⟩
  have hP : cwP X s (fun y => W y ≠ -1) Dm ch fr c ↔ qCw X s (fr = 1) W C D H c := by
    have hd : ∀ x, x < 72 → (Dm.testBit x = true ↔ D x ≠ C x) := fun x hx => by
      rw [a3 x, gD x hx, gC x hx]
      have := eC_inj (hD x hx) (hC x hx)
      constructor
      · rintro ⟨_, z⟩ e; exact z (this.mpr e)
      · intro z; exact ⟨hx, fun e => z (this.mp e)⟩
    unfold cwP qCw
    constructor
    · rintro ⟨w0, w | ⟨x, x1, x2, x3⟩ | w | ⟨p, p1, p2, p3⟩⟩
      · exact ⟨w0, .inl w⟩
      · exact ⟨w0, .inr (.inr (.inl ⟨x, x1, x2, (hd x x1).mp x3⟩))⟩
      · exact ⟨w0, .inr (.inl w)⟩
      · exact ⟨w0, .inr (.inr (.inr ⟨p, p1, p2, (hH p p1).mp p3⟩))⟩
    · rintro ⟨w0, w | w | ⟨x, x1, x2, x3⟩ | ⟨p, p1, p2, p3⟩⟩
      · exact ⟨w0, .inl w⟩
      · exact ⟨w0, .inr (.inr (.inl w))⟩
      · exact ⟨w0, .inr (.inl ⟨x, x1, x2, (hd x x1).mpr x3⟩)⟩
      · exact ⟨w0, .inr (.inr (.inr ⟨p, p1, p2, (hH p p1).mpr p3⟩))⟩
  have := b4 c (Nat.zero_le _) hc
  rw [hP] at this
  exact this
end
end
section
/-! THE CLASS: the SHEET: settle(), the texts -/
section
variable {S : Nat → Nat × Nat × Nat} {G : xG_} {m : Nat × Nat} {x k n c z kk L y : Nat} {v : Int}
theorem o_gr (h : S x = (1, c, n)) (e : G x k = (y : Int)) : cq_gr c k n x (S, G, m) = some y := by
  show (if S x = (1, c, n) then some (G x k).toNat else none) = _
  rw [if_pos h, e, Int.toNat_natCast]
theorem o_gi (h : S x = (1, c, n)) : cq_gi c k n x (S, G, m) = some (G x k) := if_pos h
theorem o_p (h : S x = (1, c, n)) : cq_p c k n x v (S, G, m) = some (S, xup2 G x k v, m) := if_pos h
theorem o_pr (h : S x = (1, c, n)) : cq_pr c k n x y (S, G, m) = some (S, xup2 G x k (y : Int), m) := if_pos h
theorem o_ar (h : S x = (2, kk, L)) (hk : 5 ≤ kk) (hz : z < L) (e : G x z = (y : Int)) : cq_ar x (z : Int) (S, G, m) = some y := by
  unfold cq_ar
  show (if (S x).1 = 2 ∧ 5 ≤ (S x).2.1 ∧ 0 ≤ (z : Int) ∧ (z : Int) < ((S x).2.2 : Int) then some (G x (z : Int).toNat).toNat else none) = _
  rw [h, if_pos ⟨rfl, hk, by omega, by show (z : Int) < ((L : Nat) : Int); omega⟩, Int.toNat_natCast, e, Int.toNat_natCast]
theorem o_ab (h : S x = (2, 0, L)) (hz : z < L) : cq_ab x (z : Int) (S, G, m) = some (G x z) := by
  unfold cq_ab
  show (if (S x).1 = 2 ∧ (S x).2.1 < 2 ∧ 0 ≤ (z : Int) ∧ (z : Int) < ((S x).2.2 : Int) then some (G x (z : Int).toNat) else none) = _
  rw [h, if_pos ⟨rfl, by show 0 < 2; decide, by omega, by show (z : Int) < ((L : Nat) : Int); omega⟩, Int.toNat_natCast]
theorem o_sr (h : S x = (2, 5, L)) (hz : z < L) (hy : y = 0 ∨ S y = (1, 0, 5)) : cq_sr x (z : Int) y (S, G, m) = some (S, xup2 G x z (y : Int), m) := by
  unfold cq_sr
  show (if (S x).1 = 2 ∧ 5 ≤ (S x).2.1 ∧ 0 ≤ (z : Int) ∧ (z : Int) < ((S x).2.2 : Int) ∧ (y = 0 ∨ (S y).1 = 1 ∧ (S x).2.1 = (S y).2.1 + 5) then _ else _) = _
  rw [h, if_pos ⟨rfl, by show 5 ≤ 5; decide, by omega, by show (z : Int) < ((L : Nat) : Int); omega, by
    rcases hy with q | q
    · exact .inl q
    · right; rw [q]; exact ⟨rfl, rfl⟩⟩]
  rfl
end
section
variable {f ah be ln tb c fu A sl : Nat} {S : Nat → Nat × Nat × Nat} {G : xG_} {m : Nat × Nat} {ch u : Int}
/-- what is used -/
theorem sw_99u {x : Nat} (hb : S be = (1, 2, 8)) (h2 : G be 2 = (tb : Int)) (ht : S tb = (2, 5, 72)) (hc : c < 72) (hx : G tb c = (x : Int)) {r27 : Nat → Nat → Nat → Nat → Int → Int → Int → xT_ → Option xT_} : c99_89 r27 f 216 ah be ln ch u (c : Int) (S, G, m) = r27 216 ah be ln ch (xor_ u (if x = 0 then 0 else 1)) ((c + 1 : Nat) : Int) (S, G, m) := by
  have ec : xwr ((c : Int) + 1) = ((c + 1 : Nat) : Int) := by rw [xwr_g _ (by omega) (by omega)]; omega
  unfold c99_89 c99_106
  rw [o_gr hb h2, Option.bind_some, o_ar ht (by decide) hc hx, Option.bind_some]
  by_cases h : x = 0
  · rw [if_pos h, if_pos h, ec]
  · rw [if_neg h, if_neg h, ec]
theorem sw_99n (hl : S ln = (1, 1, 14)) (h12 : G ln 12 = ((ln + 7 : Nat) : Int)) (hs7 : S (ln + 7) = (2, 0, 72)) (hc : c < 72) (h0 : G (ln + 7) c = 0) : c99_27 f (fu + 1) 216 ah be ln ch u (c : Int) (S, G, m) = c99_89 (c99_27 f fu) f 216 ah be ln ch u (c : Int) (S, G, m) := by
  show c99_27b (c99_27 f fu) f 216 _ _ _ _ _ _ _ = _
  unfold c99_27b
  rw [if_neg (by omega), o_gr hl h12, Option.bind_some, o_ab hs7 hc, Option.bind_some, if_pos h0]
/-- a text is put -/
theorem sw_99p {n o : Nat} {r27 : Nat → Nat → Nat → Nat → Int → Int → Int → xT_ → Option xT_} (hb : S be = (1, 2, 8)) (h2 : G be 2 = (tb : Int)) (ht : S tb = (2, 5, 72)) (hc : c < 72) (hl : S ln = (1, 1, 14)) (h13 : G ln 13 = ((ln + 8 : Nat) : Int)) (hs8 : S (ln + 8) = (2, 5, 72)) (ho : G (ln + 8) c = (o : Int)) (hy : o = 0 ∨ S o = (1, 0, 5)) (h5 : G be 5 = (n : Int)) (hn : n ≤ 100) (hbt : be ≠ tb) : c99_65 r27 f 216 ah be ln ch u (c : Int) (S, G, m) = c99_89 r27 f 216 ah be ln ch u (c : Int) (S, xup2 (xup2 G tb c (o : Int)) be 5 ((n + 1 : Nat) : Int), m) := by
  have en : xwr ((n : Int) + 1) = ((n + 1 : Nat) : Int) := by rw [xwr_g _ (by omega) (by omega)]; omega
  have e5 : xup2 G tb c (o : Int) be 5 = (n : Int) := by rw [xup2_n (by omega)]; exact h5
  unfold c99_65
  rw [o_gr hb h2, Option.bind_some, o_gr hl h13, Option.bind_some, o_ar hs8 (by decide) hc ho, Option.bind_some, o_sr ht hc hy, Option.bind_some, o_gi hb, Option.bind_some, e5, en, o_p hb, Option.bind_some]
theorem sw_99y {n : Nat} (hb : S be = (1, 2, 8)) (hl : S ln = (1, 1, 14)) (h12 : G ln 12 = ((ln + 7 : Nat) : Int)) (hs7 : S (ln + 7) = (2, 0, 72)) (hc : c < 72) (h0 : ¬ G (ln + 7) c = 0) (h5 : G be 5 = (n : Int)) (hn : 0 < n) : c99_27 f (fu + 1) 216 ah be ln ch u (c : Int) (S, G, m) = c99_65 (c99_27 f fu) f 216 ah be ln ch u (c : Int) (S, G, m) := by
  show c99_27b (c99_27 f fu) f 216 _ _ _ _ _ _ _ = _
  unfold c99_27b
  rw [if_neg (by omega), o_gr hl h12, Option.bind_some, o_ab hs7 hc, Option.bind_some, if_neg h0, o_gi hb, Option.bind_some, if_pos (by omega)]
/-- the texts are copied -/
theorem sw_99f {tp : Nat} (hb : S be = (1, 2, 8)) (hl : S ln = (1, 1, 14)) (h12 : G ln 12 = ((ln + 7 : Nat) : Int)) (hs7 : S (ln + 7) = (2, 0, 72)) (hc : c < 72) (h0 : ¬ G (ln + 7) c = 0) (h5 : G be 5 = 0) (ha : S ah = (1, 2, 8)) (h2 : G ah 2 = (tp : Int)) (ht : S tp = (2, 5, 72)) (hbA : be ≠ A) : c99_27 f (fu + 1) 216 ah be ln ch u (c : Int) (S, G, (A, sl)) = c99_65 (c99_27 f fu) f 216 ah be ln ch u (c : Int) (xup1 S A (2, 5, 72), xup2 (xz1 G A (G tp)) be 2 (A : Int), (A + 1, sl + 72)) := by
  have ecl : cq_cl 5 tp (S, G, (A, sl)) = some (A, (xup1 S A (2, 5, 72), xz1 G A (G tp), (A + 1, sl + 72))) := by
    have e0 : cq_cl 5 tp (S, G, (A, sl)) = some (A, cq_mk (S tp) (G tp) (S tp).2.2 (S, G, (A, sl))) := if_pos ⟨by show (S tp).1 = 2; rw [ht], by show (S tp).2.1 = 5; rw [ht], .inr (by decide)⟩
    rw [e0, ht]
    rfl
  have eca : cq_ca 5 A (xup1 S A (2, 5, 72), xz1 G A (G tp), (A + 1, sl + 72)) = some () := if_pos ⟨by show (xup1 S A (2, 5, 72) A).1 = 2; rw [xup1_s], by show (xup1 S A (2, 5, 72) A).2.1 = 5; rw [xup1_s]⟩
  have hb' : xup1 S A (2, 5, 72) be = (1, 2, 8) := by rw [xup1_n (by omega)]; exact hb
  show c99_27b (c99_27 f fu) f 216 _ _ _ _ _ _ _ = _
  unfold c99_27b
  rw [if_neg (by omega), o_gr hl h12, Option.bind_some, o_ab hs7 hc, Option.bind_some, if_neg h0, o_gi hb, Option.bind_some, if_neg (fun z => z h5), o_gr ha h2, Option.bind_some, ecl, Option.bind_some, eca, Option.bind_some, o_pr hb', Option.bind_some]
end
end
section
/-! THE CLASS: the SHEET: settle(), the loop over the texts -/
/-- the text of a CELL behind a round, c of them told -/
def xT9 (G : xG_) (ln tp c y : Nat) : Int := if y < c ∧ ¬ G (ln + 7) y = 0 then G (ln + 8) y else G tp y
/-- how many texts are told -/
def tC9 (G : xG_) (ln : Nat) : Nat → Nat
  | 0 => 0
  | c + 1 => tC9 G ln c + (if G (ln + 7) c = 0 then 0 else 1)
/-- what stays while texts are settled -/
def sE9 (S : Nat → Nat × Nat × Nat) (G : xG_) (A ah be ln tp : Nat) : Prop := (be < A ∧ ah < A ∧ ln + 8 < A ∧ tp < A) ∧ (S be = (1, 2, 8) ∧ S ah = (1, 2, 8) ∧ G ah 2 = (tp : Int) ∧ S tp = (2, 5, 72)) ∧ (be ≠ ah ∧ be ≠ tp ∧ be ≠ ln ∧ be ≠ ln + 7 ∧ be ≠ ln + 8) ∧ (S ln = (1, 1, 14) ∧ S (ln + 7) = (2, 0, 72) ∧ S (ln + 8) = (2, 5, 72) ∧ G ln 12 = ((ln + 7 : Nat) : Int) ∧ G ln 13 = ((ln + 8 : Nat) : Int)) ∧ (∀ y, y < 72 → ∃ o : Nat, G (ln + 8) y = (o : Int) ∧ (o = 0 ∨ S o = (1, 0, 5) ∧ o < A)) ∧ ∀ y, y < 72 → ∃ o : Nat, G tp y = (o : Int)
def sI9 (S0 : Nat → Nat × Nat × Nat) (G0 : xG_) (A sl be ln tp c : Nat) (S : Nat → Nat × Nat × Nat) (G : xG_) (m : Nat × Nat) (n : Nat) (u : Int) : Prop := (∀ a, a < A → S a = S0 a) ∧ (∀ a j, a < A → ¬ (a = be ∧ (j = 2 ∨ j = 5)) → G a j = G0 a j) ∧ (G be 5 = (n : Int) ∧ n ≤ c ∧ n = tC9 G0 ln c) ∧ ((n = 0 ∧ G be 2 = (tp : Int) ∧ m = (A, sl) ∧ S = S0 ∧ ∀ y, y < c → G0 (ln + 7) y = 0) ∨ (0 < n ∧ G be 2 = (A : Int) ∧ S A = (2, 5, 72) ∧ m = (A + 1, sl + 72) ∧ (∀ y, y < 72 → G A y = xT9 G0 ln tp c y) ∧ ∃ y, y < c ∧ ¬ G0 (ln + 7) y = 0)) ∧ isB u (∃ y, y < c ∧ xT9 G0 ln tp 72 y ≠ 0)
theorem xor_01 : xor_ 0 0 = 0 ∧ xor_ 0 1 = 1 ∧ xor_ 1 0 = 1 ∧ xor_ 1 1 = 1 := by decide
section
variable {f ah be ln tp A sl : Nat} {S0 : Nat → Nat × Nat × Nat} {G0 : xG_} {ch : Int}
theorem u_nx {u : Int} {c x : Nat} (h : isB u (∃ y, y < c ∧ xT9 G0 ln tp 72 y ≠ 0)) (hx : xT9 G0 ln tp 72 c = (x : Int)) : isB (xor_ u (if x = 0 then 0 else 1)) (∃ y, y < c + 1 ∧ xT9 G0 ln tp 72 y ≠ 0) := by
  obtain ⟨x1, x2, x3, x4⟩ := xor_01
  have hiff : (∃ y, y < c + 1 ∧ xT9 G0 ln tp 72 y ≠ 0) ↔ (∃ y, y < c ∧ xT9 G0 ln tp 72 y ≠ 0) ∨ ¬ x = 0 := by
    constructor
    · rintro ⟨y, y1, y2⟩
      by_cases cy : y = c
      · right
        rw [cy, hx] at y2
        omega
      · exact .inl ⟨y, by omega, y2⟩
    · rintro (⟨y, y1, y2⟩ | q)
      · exact ⟨y, by omega, y2⟩
      · exact ⟨c, by omega, by rw [hx]; omega⟩
  unfold isB at h ⊢
  rw [hiff]
  by_cases cx : x = 0
  · rw [if_pos cx]
    rcases h with ⟨h1, h2⟩ | ⟨h1, h2⟩
    · rw [h1, x3]; exact .inl ⟨rfl, .inl h2⟩
    · rw [h1, x1]; exact .inr ⟨rfl, fun z => z.elim h2 (fun w => w cx)⟩
  · rw [if_neg cx]
    rcases h with ⟨h1, h2⟩ | ⟨h1, h2⟩
    · rw [h1, x4]; exact .inl ⟨rfl, .inl h2⟩
    · rw [h1, x2]; exact .inl ⟨rfl, .inr cx⟩
theorem k_99l (hE : sE9 S0 G0 A ah be ln tp) : ∀ (d c fu : Nat) (S : Nat → Nat × Nat × Nat) (G : xG_) (m : Nat × Nat) (n : Nat) (u : Int), c + d = 72 → d < fu → sI9 S0 G0 A sl be ln tp c S G m n u → ∃ fu' S' G' m' n' u', 0 < fu' ∧ c99_27 f fu 216 ah be ln ch u (c : Int) (S, G, m) = c99_27 f fu' 216 ah be ln ch u' ((72 : Nat) : Int) (S', G', m') ∧ sI9 S0 G0 A sl be ln tp 72 S' G' m' n' u' := by
  obtain ⟨⟨hb, ha, hl8, htp⟩, ⟨sb, sa, ga, st⟩, ⟨n1, n2, n3, n4, n5⟩, ⟨l0, l7, l8, g12, g13⟩, hlt, hto⟩ := hE
  intro d
  induction d with
  | zero =>
    intro c fu S G m n u e1 e2 h
    have : c = 72 := by omega
    rw [this] at h ⊢
    exact ⟨fu, S, G, m, n, u, by omega, rfl, h⟩
  | succ d ih =>
    intro c fu S G m n u e1 e2 h
    obtain ⟨fu, rfl⟩ : ∃ t, fu = t + 1 := ⟨fu - 1, by omega⟩
    obtain ⟨hS, hG, ⟨h5, hn, hnc⟩, hc, hu⟩ := h
    have hc72 : c < 72 := by omega
    have sb' : S be = (1, 2, 8) := by rw [hS _ hb]; exact sb
    have l0' : S ln = (1, 1, 14) := by rw [hS _ (by omega)]; exact l0
    have l7' : S (ln + 7) = (2, 0, 72) := by rw [hS _ (by omega)]; exact l7
    have l8' : S (ln + 8) = (2, 5, 72) := by rw [hS _ (by omega)]; exact l8
    have g12' : G ln 12 = ((ln + 7 : Nat) : Int) := by rw [hG _ _ (by omega) (by omega)]; exact g12
    have g13' : G ln 13 = ((ln + 8 : Nat) : Int) := by rw [hG _ _ (by omega) (by omega)]; exact g13
    have lt7 : ln + 7 < A := Nat.lt_of_le_of_lt (Nat.add_le_add_left (by decide) _) hl8
    have t7 : G (ln + 7) c = G0 (ln + 7) c := hG _ _ lt7 (fun z => n4 z.1.symm)
    have t8 : G (ln + 8) c = G0 (ln + 8) c := hG _ _ hl8 (fun z => n5 z.1.symm)
    have xc : xT9 G0 ln tp 72 c = if ¬ G0 (ln + 7) c = 0 then G0 (ln + 8) c else G0 tp c := by
      unfold xT9
      by_cases q : G0 (ln + 7) c = 0
      · rw [if_neg (fun z => z.2 q), if_neg (fun z => z q)]
      · rw [if_pos ⟨hc72, q⟩, if_pos q]
    have xn : ∀ y, y ≠ c → xT9 G0 ln tp (c + 1) y = xT9 G0 ln tp c y := fun y z => by
      unfold xT9
      by_cases q : y < c ∧ ¬ G0 (ln + 7) y = 0
      · rw [if_pos q, if_pos ⟨by omega, q.2⟩]
      · rw [if_neg q, if_neg (fun w => q ⟨by omega, w.2⟩)]
    have xcc : xT9 G0 ln tp (c + 1) c = xT9 G0 ln tp 72 c := by
      rw [xc]
      unfold xT9
      by_cases q : G0 (ln + 7) c = 0
      · rw [if_neg (fun z => z.2 q), if_neg (fun z => z q)]
      · rw [if_pos ⟨by omega, q⟩, if_pos q]
    by_cases q0 : G0 (ln + 7) c = 0
    · -- not told
      have e0 := sw_99n (f := f) (fu := fu) (ah := ah) (be := be) (ch := ch) (u := u) (m := m) l0' g12' l7' hc72 (by rw [t7]; exact q0)
      rw [if_neg (fun z => z q0)] at xc
      obtain ⟨x, hx⟩ := hto c hc72
      rw [hx] at xc
      have xs : xT9 G0 ln tp (c + 1) c = xT9 G0 ln tp c c := by
        unfold xT9
        rw [if_neg (fun z => z.2 q0), if_neg (fun z => z.2 q0)]
      rcases hc with ⟨c1, c2, c3, c4, c5⟩ | ⟨c1, c2, c3, c4, c5, c6⟩
      · have e1' := sw_99u (f := f) (ah := ah) (ln := ln) (ch := ch) (u := u) (m := m) (r27 := c99_27 f fu) sb' c2 (by rw [c4]; exact st) hc72 (by rw [hG _ _ htp (by omega)]; exact hx)
        obtain ⟨fu', S', G', m', n', u', i1, i2, i3⟩ := ih (c + 1) fu S G m n _ (by omega) (by omega) ⟨hS, hG, ⟨h5, by omega, by show n = tC9 G0 ln c + _; rw [if_pos q0]; exact hnc⟩, .inl ⟨c1, c2, c3, c4, fun y hy => by
          by_cases cy : y = c
          · rw [cy]; exact q0
          · exact c5 y (by omega)⟩, u_nx hu xc⟩
        exact ⟨fu', S', G', m', n', u', i1, (e0.trans e1').trans i2, i3⟩
      · have e1' := sw_99u (f := f) (ah := ah) (ln := ln) (ch := ch) (u := u) (m := m) (r27 := c99_27 f fu) sb' c2 c3 hc72 (by rw [c5 c hc72, ← xs, xcc]; exact xc)
        obtain ⟨fu', S', G', m', n', u', i1, i2, i3⟩ := ih (c + 1) fu S G m n _ (by omega) (by omega) ⟨hS, hG, ⟨h5, by omega, by show n = tC9 G0 ln c + _; rw [if_pos q0]; exact hnc⟩, .inr ⟨c1, c2, c3, c4, fun y hy => by
          by_cases cy : y = c
          · rw [cy, xs]; exact c5 c hc72
          · rw [xn y cy]; exact c5 y hy, by
          obtain ⟨y, y1, y2⟩ := c6
          exact ⟨y, by omega, y2⟩⟩, u_nx hu xc⟩
        exact ⟨fu', S', G', m', n', u', i1, (e0.trans e1').trans i2, i3⟩
    · -- told
      rw [if_pos q0] at xc
      obtain ⟨o, ho1, ho2⟩ := hlt c hc72
      rw [ho1] at xc
      have q0' : ¬ G (ln + 7) c = 0 := by rw [t7]; exact q0
      rcases hc with ⟨c1, c2, c3, c4, c5⟩ | ⟨c1, c2, c3, c4, c5, c6⟩
      · subst c3 c4
        rw [c1] at h5
        have e0 := sw_99f (f := f) (fu := fu) (ah := ah) (be := be) (ln := ln) (ch := ch) (u := u) (A := A) (sl := sl) sb' l0' g12' l7' hc72 q0' h5 sa (by rw [hG _ _ ha (by omega)]; exact ga) st (by omega)
        have z1 : ∀ a j, a < A → ¬ (a = be ∧ j = 2) → xup2 (xz1 G A (G tp)) be 2 (A : Int) a j = G a j := fun a j y1 y2 => by rw [xup2_n y2, xz1_n _ (by omega)]
        have zA : ∀ j, xup2 (xz1 G A (G tp)) be 2 (A : Int) A j = G tp j := fun j => by rw [xup2_n (by omega), xz1_s]
        have sA : ∀ a, a < A → xup1 S A (2, 5, 72) a = S a := fun a ha => xup1_n (by omega)
        have e1' := sw_99p (f := f) (ah := ah) (be := be) (ln := ln) (ch := ch) (u := u) (m := (A + 1, sl + 72)) (S := xup1 S A (2, 5, 72)) (G := xup2 (xz1 G A (G tp)) be 2 (A : Int)) (tb := A) (n := 0) (o := o) (r27 := c99_27 f fu) (by rw [sA _ hb]; exact sb') (xup2_s _ _ _ _) (xup1_s _ _ _) hc72 (by rw [sA _ (by omega)]; exact l0') (by rw [z1 _ _ (by omega) (by omega)]; exact g13') (by rw [sA _ (by omega)]; exact l8') (by rw [z1 _ _ (by omega) (by omega), t8]; exact ho1) (by
          rcases ho2 with w | ⟨w1, w2⟩
          · exact .inl w
          · right; rw [sA _ w2]; exact w1) (by rw [z1 _ _ hb (by omega)]; exact h5) (by omega) (by omega)
        have z2 : ∀ a j, ¬ (a = A ∧ j = c) → ¬ (a = be ∧ j = 5) → xup2 (xup2 (xup2 (xz1 G A (G tp)) be 2 (A : Int)) A c (o : Int)) be 5 ((0 + 1 : Nat) : Int) a j = xup2 (xz1 G A (G tp)) be 2 (A : Int) a j := fun a j y1 y2 => by rw [xup2_n y2, xup2_n y1]
        have zc : xup2 (xup2 (xup2 (xz1 G A (G tp)) be 2 (A : Int)) A c (o : Int)) be 5 ((0 + 1 : Nat) : Int) A c = (o : Int) := by rw [xup2_n (by omega), xup2_s]
        have b2' : xup2 (xup2 (xup2 (xz1 G A (G tp)) be 2 (A : Int)) A c (o : Int)) be 5 ((0 + 1 : Nat) : Int) be 2 = (A : Int) := by rw [z2 _ _ (by omega) (by omega), xup2_s]
        have e2' := sw_99u (f := f) (ah := ah) (ln := ln) (ch := ch) (u := u) (m := (A + 1, sl + 72)) (x := o) (r27 := c99_27 f fu) (S := xup1 S A (2, 5, 72)) (by rw [sA _ hb]; exact sb') b2' (xup1_s _ _ _) hc72 zc
        obtain ⟨fu', S', G', m', n', u', i1, i2, i3⟩ := ih (c + 1) fu _ _ _ 1 _ (by omega) (by omega) ⟨fun a ha => sA a ha, fun a j y1 y2 => by rw [z2 _ _ (by omega) (by omega), z1 _ _ y1 (by omega)]; exact hG a j y1 y2, ⟨xup2_s _ _ _ _, by omega, by show 1 = tC9 G0 ln c + _; rw [if_neg q0, ← hnc, c1]⟩, .inr ⟨by decide, b2', xup1_s _ _ _, rfl, fun y hy => by
          by_cases cy : y = c
          · rw [cy, zc, xcc]; exact xc.symm
          · rw [z2 _ _ (by omega) (by omega), zA, xn y cy]
            unfold xT9
            rw [if_neg (fun w => w.2 (c5 y w.1)), hG _ _ htp (by omega)], ⟨c, by omega, q0⟩⟩, u_nx hu xc⟩
        exact ⟨fu', S', G', m', n', u', i1, ((e0.trans e1').trans e2').trans i2, i3⟩
      · have e0 := sw_99y (f := f) (fu := fu) (ah := ah) (be := be) (ln := ln) (ch := ch) (u := u) (m := m) sb' l0' g12' l7' hc72 q0' h5 c1
        have e1' := sw_99p (f := f) (ah := ah) (be := be) (ln := ln) (ch := ch) (u := u) (m := m) (tb := A) (o := o) (r27 := c99_27 f fu) sb' c2 c3 hc72 l0' g13' l8' (by rw [t8]; exact ho1) (by
          rcases ho2 with w | ⟨w1, w2⟩
          · exact .inl w
          · right; rw [hS _ w2]; exact w1) h5 (by omega) (by omega)
        have z2 : ∀ a j, ¬ (a = A ∧ j = c) → ¬ (a = be ∧ j = 5) → xup2 (xup2 G A c (o : Int)) be 5 ((n + 1 : Nat) : Int) a j = G a j := fun a j y1 y2 => by rw [xup2_n y2, xup2_n y1]
        have zc : xup2 (xup2 G A c (o : Int)) be 5 ((n + 1 : Nat) : Int) A c = (o : Int) := by rw [xup2_n (by omega), xup2_s]
        have b2' : xup2 (xup2 G A c (o : Int)) be 5 ((n + 1 : Nat) : Int) be 2 = (A : Int) := by rw [z2 _ _ (by omega) (by omega)]; exact c2
        have e2' := sw_99u (f := f) (ah := ah) (ln := ln) (ch := ch) (u := u) (m := m) (x := o) (r27 := c99_27 f fu) sb' b2' c3 hc72 zc
        obtain ⟨fu', S', G', m', n', u', i1, i2, i3⟩ := ih (c + 1) fu S _ m (n + 1) _ (by omega) (by omega) ⟨hS, fun a j y1 y2 => by rw [z2 _ _ (by omega) (by omega)]; exact hG a j y1 y2, ⟨xup2_s _ _ _ _, by omega, by show n + 1 = tC9 G0 ln c + _; rw [if_neg q0, ← hnc]⟩, .inr ⟨by omega, b2', c3, c4, fun y hy => by
          by_cases cy : y = c
          · rw [cy, zc, xcc]; exact xc.symm
          · rw [z2 _ _ (by omega) (by omega), xn y cy]; exact c5 y hy, ⟨c, by omega, q0⟩⟩, u_nx hu xc⟩
        exact ⟨fu', S', G', m', n', u', i1, ((e0.trans e1').trans e2').trans i2, i3⟩
end
end
section
/-! The SHEET hangs on the values of rows alone -/
section
variable {s : pPg} {M M' : Nat → List pRw} {C : fCs}
def vSm (s : pPg) (M M' : Nat → List pRw) : Prop := ∀ p, p < s.1.length → (M p).map (·.1) = (M' p).map (·.1)
theorem fRl_v {kd : Int} {k : Nat} : ∀ (R R' : List pRw) (i : Nat) (v : Int), R.map (·.1) = R'.map (·.1) → fRl kd k R i v = fRl kd k R' i v
  | [], [], _, _, _ => rfl
  | [], r' :: R', _, _, h => by cases h
  | r :: R, [], _, _, h => by cases h
  | r :: R, r' :: R', i, v, h => by
    rw [List.map_cons, List.map_cons] at h
    injection h with h1 h2
    have h1' : r.1 = r'.1 := h1
    show fRl kd k R (i + 1) _ = fRl kd k R' (i + 1) _
    rw [h1']
    exact fRl_v R R' (i + 1) _ h2
theorem fRo_v (hn : s.1.Nodup) (h : vSm s M M') (kd k x : Int) : fRo s M kd k x = fRo s M' kd k x := by
  unfold fRo
  rcases pIdx_get (x := x) hn with ⟨z, _⟩ | ⟨p, p1, p2, _⟩
  · rw [if_pos (.inl z), if_pos (.inl z)]
  · rw [p2, Int.toNat_natCast]
    have hp := h p p1
    have hl : (M p).length = (M' p).length := by
      have := congrArg List.length hp
      rw [List.length_map, List.length_map] at this
      exact this
    rw [hl, fRl_v _ _ _ _ hp]
theorem fW_v (hn : s.1.Nodup) (h : vSm s M M') {N : List pNd} : ∀ n i, fW N C s M n i = fW N C s M' n i
  | 0, _ => rfl
  | n + 1, i => by
    show (if (N.getD i dNd).1 = 1 then _ else _) = (if (N.getD i dNd).1 = 1 then _ else _)
    rw [fW_v hn h n, fW_v hn h n, fW_v hn h n, fRo_v hn h]
theorem fSh_v (hn : s.1.Nodup) (h : vSm s M M') (X : fXs) : fSh X s M = fSh X s M' := by
  have : ∀ k, fShI X s M k = fShI X s M' k := by
    intro k
    induction k with
    | zero => rfl
    | succ k ih =>
      show qCv X s M (fShI X s M k) = qCv X s M' (fShI X s M' k)
      rw [ih]
      funext c
      unfold qCv
      cases X c with
      | none => rfl
      | some e =>
        show (if xCy X c then _ else wCv (fWr e.1 e.2 (fShI X s M' k) s M)) = (if xCy X c then _ else wCv (fWr e.1 e.2 (fShI X s M' k) s M'))
        unfold fWr
        rw [fW_v hn h]
  exact this 73
/-- a SHEET without texts -/
theorem fSh_no {X : fXs} (hX : okX X) {c : Nat} (hc : c < 72) (h : X c = none) : fSh X s M c = (0, 0) := by
  rw [fSh_fix hX hc]
  unfold qCv
  rw [h]
end
end
