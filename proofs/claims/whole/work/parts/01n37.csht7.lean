section
/-! THE CLASS: the SHEET: countWorked() whole -/
def xL3 (ln : Nat) (G G' : xG_) : Prop := ∀ a j, a ≠ ln + 3 → G' a j = G a j
/-- what countWorked() looks at -/
def cCw (S : Nat → Nat × Nat × Nat) (G : xG_) (mo q ln tp : Nat) (s : pPg) (X : fXs) (to : Nat → Nat) (fr : Int) : Prop := cNe S G mo q s ∧ G mo 2 = (tp : Int) ∧ cTt S G tp X to ∧ G mo 6 = fr ∧ (S ln = (1, 1, 14) ∧ S (ln + 3) = (2, 3, 72) ∧ S (ln + 7) = (2, 0, 72) ∧ G ln 6 = ((ln + 3 : Nat) : Int) ∧ G ln 12 = ((ln + 7 : Nat) : Int)) ∧ (242 < ln ∧ mo ≠ ln + 3 ∧ q ≠ ln + 3 ∧ q + 1 ≠ ln + 3 ∧ tp ≠ ln + 3 ∧ ∀ c, c < 72 → to c + 2 < ln + 3 ∨ ln + 3 < to c)
/-- a CELL is worked -/
def cwP (X : fXs) (s : pPg) (told : Nat → Prop) (Dm ch : Nat) (fr : Int) (c : Nat) : Prop := X c ≠ none ∧ (told c ∨ (∃ x, x < 72 ∧ (xRd X c).testBit x = true ∧ Dm.testBit x = true) ∨ ((fr = 1 ∧ xRn X c = true) ∨ ∃ p, p < s.1.length ∧ (xRo X s c).testBit p = true ∧ ch.testBit p = true))
section
variable {f mo q ln tp : Nat} {S : Nat → Nat × Nat × Nat} {G G' G'' : xG_} {m : Nat × Nat} {s : pPg} {X : fXs} {to : Nat → Nat} {fr : Int} {ch c Dm : Nat}
theorem xL3.tr (h : xL3 ln G G') (h' : xL3 ln G' G'') : xL3 ln G G'' := fun a j p => by rw [h' a j p, h a j p]
theorem cCw.ge (h : cCw S G mo q ln tp s X to fr) (hx : xL3 ln G G') : cCw S G' mo q ln tp s X to fr := by
  obtain ⟨⟨a1, a2, a3, a4, a5, a6, a7, a8⟩, b1, ⟨t1, t2, t3⟩, b3, ⟨l1, l2, l3, l4, l5⟩, z0, z1, z2, z3, z4, z5⟩ := h
  refine ⟨⟨a1, by rw [hx _ _ (by omega)]; exact a2, a3, by rw [hx _ _ z1]; exact a4, a5, a6.ge (fun j _ _ _ => hx _ _ z2), ⟨by rw [hx _ _ z2]; exact a7.1, a7.2.1, fun k hk => by rw [hx _ _ z3]; exact a7.2.2 k hk⟩, a8⟩, by rw [hx _ _ z1]; exact b1, ⟨t1, t2, fun c hc => ?_⟩, by rw [hx _ _ z1]; exact b3, ⟨l1, l2, l3, by rw [hx _ _ (by omega)]; exact l4, by rw [hx _ _ (by omega)]; exact l5⟩, z0, z1, z2, z3, z4, z5⟩
  obtain ⟨c1, c2⟩ := t3 c hc
  have hz := z5 c hc
  refine ⟨by rw [hx _ _ z4]; exact c1, ?_⟩
  rcases c2 with q | ⟨q1, e, q2, q3⟩
  · exact .inl q
  · exact .inr ⟨q1, e, q2, q3.ge (fun _ _ _ => rfl) (fun a j y1 y2 => hx _ _ (by omega))⟩
theorem st_103s {lo hi : Int} {fu : Nat} (hf : 100 < f) (hch : ch < 2147483648) (h : cCw S G mo q ln tp s X to fr) (hm : rM9 lo hi Dm) (hc : c < 72) (hv : 0 ≤ G (ln + 3) c ∧ G (ln + 3) c ≤ 100000) : ∃ b, isB b (cwP X s (fun c => ¬ G (ln + 7) c = 0) Dm ch fr c) ∧ c103_103 f (fu + 1) 216 ln (ch : Int) lo hi (c : Int) (S, G, m) = c103_103 f fu 216 ln (ch : Int) lo hi ((c + 1 : Nat) : Int) (S, (if b = 1 then xup2 G (ln + 3) c (G (ln + 3) c + 1) else G), m) := by
  obtain ⟨hN, b1, ⟨t1, t2, t3⟩, b3, ⟨l1, l2, l3, l4, l5⟩, z0, z1, z2, z3, z4, z5⟩ := h
  have hs := hN.1
  have h0 := hN.2.1
  have m1 := hN.2.2.1
  obtain ⟨c1, c2⟩ := t3 c hc
  have ec : xwr ((c : Int) + 1) = ((c + 1 : Nat) : Int) := by rw [xwr_g _ (by omega) (by omega)]; omega
  have ev : xwr (G (ln + 3) c + 1) = G (ln + 3) c + 1 := xwr_g _ (by omega) (by omega)
  have g0 : cq_gr 7 0 5 216 (S, G, m) = some mo := by
    show (if S 216 = (1, 7, 5) then some (G 216 0).toNat else none) = _
    rw [if_pos (s216 hs), h0, Int.toNat_natCast]
  have gt : cq_gr 2 2 8 mo (S, G, m) = some tp := by
    show (if S mo = (1, 2, 8) then some (G mo 2).toNat else none) = _
    rw [if_pos m1, b1, Int.toNat_natCast]
  have ga : cq_ar tp (c : Int) (S, G, m) = some (to c) := by
    unfold cq_ar
    show (if (S tp).1 = 2 ∧ 5 ≤ (S tp).2.1 ∧ 0 ≤ (c : Int) ∧ (c : Int) < ((S tp).2.2 : Int) then some (G tp (c : Int).toNat).toNat else none) = _
    rw [t1, if_pos ⟨rfl, by decide, by omega, by show (c : Int) < ((72 : Nat) : Int); omega⟩, Int.toNat_natCast, c1, Int.toNat_natCast]
  have gl : cq_gr 1 12 14 ln (S, G, m) = some (ln + 7) := by
    show (if S ln = (1, 1, 14) then some (G ln 12).toNat else none) = _
    rw [if_pos l1, l5, Int.toNat_natCast]
  have gb : cq_ab (ln + 7) (c : Int) (S, G, m) = some (G (ln + 7) c) := by
    unfold cq_ab
    show (if (S (ln + 7)).1 = 2 ∧ (S (ln + 7)).2.1 < 2 ∧ 0 ≤ (c : Int) ∧ (c : Int) < ((S (ln + 7)).2.2 : Int) then some (G (ln + 7) (c : Int).toNat) else none) = _
    rw [l3, if_pos ⟨rfl, by decide, by omega, by show (c : Int) < ((72 : Nat) : Int); omega⟩, Int.toNat_natCast]
  have gw : cq_gr 1 6 14 ln (S, G, m) = some (ln + 3) := by
    show (if S ln = (1, 1, 14) then some (G ln 6).toNat else none) = _
    rw [if_pos l1, l4, Int.toNat_natCast]
  have gwa : cq_a 3 (ln + 3) (c : Int) (S, G, m) = some (G (ln + 3) c) := by
    unfold cq_a
    show (if (S (ln + 3)).1 = 2 ∧ (S (ln + 3)).2.1 = 3 ∧ 0 ≤ (c : Int) ∧ (c : Int) < ((S (ln + 3)).2.2 : Int) then some (G (ln + 3) (c : Int).toNat) else none) = _
    rw [l2, if_pos ⟨rfl, rfl, by omega, by show (c : Int) < ((72 : Nat) : Int); omega⟩, Int.toNat_natCast]
  have gws : cq_s 3 (ln + 3) (c : Int) (G (ln + 3) c + 1) (S, G, m) = some (S, xup2 G (ln + 3) c (G (ln + 3) c + 1), m) := by
    unfold cq_s
    show (if (S (ln + 3)).1 = 2 ∧ (S (ln + 3)).2.1 = 3 ∧ 0 ≤ (c : Int) ∧ (c : Int) < ((S (ln + 3)).2.2 : Int) then _ else none) = _
    rw [l2, if_pos ⟨rfl, rfl, by omega, by show (c : Int) < ((72 : Nat) : Int); omega⟩]
    rfl
  have yes : c103_159 (c103_103 f fu) f 216 ln (ch : Int) lo hi (c : Int) (S, G, m) = c103_103 f fu 216 ln (ch : Int) lo hi ((c + 1 : Nat) : Int) (S, xup2 G (ln + 3) c (G (ln + 3) c + 1), m) := by
    unfold c103_159 c103_170
    rw [gw, Option.bind_some, gwa, Option.bind_some, ev, gws, Option.bind_some, ec]
  have no : c103_170 (c103_103 f fu) f 216 ln (ch : Int) lo hi (c : Int) (S, G, m) = c103_103 f fu 216 ln (ch : Int) lo hi ((c + 1 : Nat) : Int) (S, G, m) := by
    unfold c103_170
    rw [ec]
  have e0 : c103_103 f (fu + 1) 216 ln (ch : Int) lo hi (c : Int) (S, G, m) = (if to c = 0 then c103_170 (c103_103 f fu) f 216 ln (ch : Int) lo hi (c : Int) (S, G, m) else ((cq_gr 1 12 14 ln (S, G, m)).bind fun v122 => ((cq_ab (v122) (c : Int) (S, G, m)).bind fun v124 => (if ¬ (v124) = 0 then c103_159 (c103_103 f fu) f 216 ln (ch : Int) lo hi (c : Int) (S, G, m) else ((cq_is 0 5 (to c) (S, G, m)).bind fun _ => ((c3 f (to c) lo hi (S, G, m)).bind fun R127 => (if ¬ (R127.1) = 0 then c103_159 (c103_103 f fu) f 216 ln (ch : Int) lo hi (c : Int) R127.2 else ((cq_is 7 5 216 R127.2).bind fun _ => ((c104 f 216 (to c) (ch : Int) R127.2).bind fun R134 => (if (R134.1) = 0 then c103_170 (c103_103 f fu) f 216 ln (ch : Int) lo hi (c : Int) R134.2 else c103_159 (c103_103 f fu) f 216 ln (ch : Int) lo hi (c : Int) R134.2)))))))))) := by
    show c103_103b (c103_103 f fu) f 216 _ _ _ _ _ _ = _
    unfold c103_103b
    rw [if_neg (by omega), g0, Option.bind_some, gt, Option.bind_some, ga, Option.bind_some]
  rcases c2 with ⟨q1, q2⟩ | ⟨q1, e, q2, q3⟩
  · refine ⟨0, .inr ⟨rfl, fun w => w.1 q2⟩, ?_⟩
    rw [e0, if_pos q1, no, if_neg (by decide)]
  · have o0 : ¬ to c = 0 := by omega
    rw [if_neg o0, gl, Option.bind_some, gb, Option.bind_some] at e0
    have hn : X c ≠ none := by rw [q2]; exact fun z => nomatch z
    by_cases ct : G (ln + 7) c = 0
    · rw [if_neg (fun z => z ct)] at e0
      obtain ⟨K, F, ⟨k1, _⟩, _, _, k7, _⟩ := id q3
      have eis : cq_is 0 5 (to c) (S, G, m) = some () := if_pos k1
      rw [eis, Option.bind_some, k_3 k1, Option.bind_some] at e0
      have iff := rM9_and k7 hm.1
      have erd : xRd X c = nRd e.1 := by unfold xRd; rw [q2]
      have ern : xRn X c = nNm e.1 := by unfold xRn; rw [q2]
      have ero : xRo X s c = nOf s e.1 := by unfold xRo; rw [q2]
      by_cases ca : ¬ xand8 (G (to c) 2) lo = 0 ∨ ¬ xand8 (G (to c) 3) hi = 0
      · obtain ⟨x, x1, x2, x3⟩ := iff.mp ca
        refine ⟨1, .inl ⟨rfl, hn, .inr (.inl ⟨x, x1, by rw [erd]; exact x2, x3⟩)⟩, ?_⟩
        rw [e0, if_pos ca, if_pos (show ¬ (1 : Int) = 0 by decide), yes, if_pos rfl]
      · rw [if_neg ca, if_neg (show ¬ ¬ (0 : Int) = 0 from fun z => z rfl)] at e0
        obtain ⟨b, b1', b2'⟩ := k_104 (f := f) (m := m) (ch := ch) hf hch hN q1 q3 b3
        have eis2 : cq_is 7 5 216 (S, G, m) = some () := if_pos (s216 hs)
        rw [eis2, Option.bind_some, b1', Option.bind_some] at e0
        refine ⟨b, ?_, ?_⟩
        · have hP : cwP X s (fun c => ¬ G (ln + 7) c = 0) Dm ch fr c ↔ ((fr = 1 ∧ nNm e.1 = true) ∨ ∃ p, p < s.1.length ∧ (nOf s e.1).testBit p = true ∧ ch.testBit p = true) := by
            unfold cwP
            rw [ern, ero, erd]
            constructor
            · rintro ⟨_, w | w | w⟩
              · exact (w ct).elim
              · exact (ca (iff.mpr w)).elim
              · exact w
            · intro w; exact ⟨hn, .inr (.inr w)⟩
          unfold isB at b2' ⊢
          rw [hP]
          exact b2'
        · rw [e0]
          rcases b2' with ⟨w, _⟩ | ⟨w, _⟩
          · rw [w, if_neg (show ¬ (1 : Int) = 0 by decide), yes, if_pos rfl]
          · rw [w, if_pos rfl, no, if_neg (by decide)]
    · refine ⟨1, .inl ⟨rfl, hn, .inl ct⟩, ?_⟩
      rw [e0, if_pos ct, yes, if_pos rfl]
theorem k_103b {lo hi : Int} (hf : 100 < f) (hch : ch < 2147483648) (hm : rM9 lo hi Dm) (told : Nat → Prop) : ∀ (d c fu : Nat) (G : xG_), c + d = 72 → d < fu → cCw S G mo q ln tp s X to fr → (∀ y, c ≤ y → y < 72 → 0 ≤ G (ln + 3) y ∧ G (ln + 3) y ≤ 100000) → (∀ y, ¬ G (ln + 7) y = 0 ↔ told y) → ∃ G', c103_103 f fu 216 ln (ch : Int) lo hi (c : Int) (S, G, m) = some (S, G', m) ∧ xL3 ln G G' ∧ (∀ y, y < c → G' (ln + 3) y = G (ln + 3) y) ∧ ∀ y, c ≤ y → y < 72 → (cwP X s told Dm ch fr y → G' (ln + 3) y = G (ln + 3) y + 1) ∧ (¬ cwP X s told Dm ch fr y → G' (ln + 3) y = G (ln + 3) y) := by
  intro d
  induction d with
  | zero =>
    intro c fu G e1 e2 h hv ht
    obtain ⟨fu, rfl⟩ : ∃ t, fu = t + 1 := ⟨fu - 1, by omega⟩
    refine ⟨G, ?_, fun _ _ _ => rfl, fun _ _ => rfl, fun y y1 y2 => by omega⟩
    show c103_103b (c103_103 f fu) f 216 _ _ _ _ _ _ = _
    unfold c103_103b
    rw [if_pos (by omega)]
  | succ d ih =>
    intro c fu G e1 e2 h hv ht
    obtain ⟨fu, rfl⟩ : ∃ t, fu = t + 1 := ⟨fu - 1, by omega⟩
    obtain ⟨b, b1, b2⟩ := st_103s (m := m) (fu := fu) hf hch h hm (by omega : c < 72) (hv c (Nat.le_refl _) (by omega))
    have et : (fun c => ¬ G (ln + 7) c = 0) = told := funext (fun y => propext (ht y))
    rw [et] at b1
    have hx : xL3 ln G (if b = 1 then xup2 G (ln + 3) c (G (ln + 3) c + 1) else G) := fun a j z => by
      split
      · exact xup2_n (by omega)
      · rfl
    have hy : ∀ y, y ≠ c → (if b = 1 then xup2 G (ln + 3) c (G (ln + 3) c + 1) else G) (ln + 3) y = G (ln + 3) y := fun y z => by
      split
      · exact xup2_n (by omega)
      · rfl
    have hcc : (cwP X s told Dm ch fr c → (if b = 1 then xup2 G (ln + 3) c (G (ln + 3) c + 1) else G) (ln + 3) c = G (ln + 3) c + 1) ∧ (¬ cwP X s told Dm ch fr c → (if b = 1 then xup2 G (ln + 3) c (G (ln + 3) c + 1) else G) (ln + 3) c = G (ln + 3) c) := by
      rcases b1 with ⟨w1, w2⟩ | ⟨w1, w2⟩
      · rw [if_pos w1, xup2_s]
        exact ⟨fun _ => rfl, fun z => (z w2).elim⟩
      · rw [if_neg (by omega)]
        exact ⟨fun z => (w2 z).elim, fun _ => rfl⟩
    -- every count stays small enough for what is left: at c it is never looked at again
    obtain ⟨G', i1, i2, i3, i4⟩ : ∃ G', c103_103 f fu 216 ln (ch : Int) lo hi ((c + 1 : Nat) : Int) (S, (if b = 1 then xup2 G (ln + 3) c (G (ln + 3) c + 1) else G), m) = some (S, G', m) ∧ xL3 ln (if b = 1 then xup2 G (ln + 3) c (G (ln + 3) c + 1) else G) G' ∧ (∀ y, y < c + 1 → G' (ln + 3) y = (if b = 1 then xup2 G (ln + 3) c (G (ln + 3) c + 1) else G) (ln + 3) y) ∧ ∀ y, c + 1 ≤ y → y < 72 → (cwP X s told Dm ch fr y → G' (ln + 3) y = (if b = 1 then xup2 G (ln + 3) c (G (ln + 3) c + 1) else G) (ln + 3) y + 1) ∧ (¬ cwP X s told Dm ch fr y → G' (ln + 3) y = (if b = 1 then xup2 G (ln + 3) c (G (ln + 3) c + 1) else G) (ln + 3) y) := by
      refine ih (c + 1) fu _ (by omega) (by omega) (h.ge hx) (fun y y1 y2 => ?_) (fun y => ?_)
      · rw [hy y (by omega)]; exact hv y (by omega) y2
      · rw [hx _ _ (by omega)]; exact ht y
    refine ⟨G', b2.trans i1, hx.tr i2, fun y y1 => by rw [i3 y (by omega), hy y (by omega)], fun y y1 y2 => ?_⟩
    by_cases cy : y = c
    · rw [cy, i3 c (by omega)]; exact hcc
    · have := i4 y (by omega) y2
      rw [hy y cy] at this
      exact this
end
end
section
/-! THE CLASS: the SHEET: countWorked() as the spec says -/
section
variable {f mo q ah ac cc ln tp : Nat} {S : Nat → Nat × Nat × Nat} {G : xG_} {m : Nat × Nat} {s : pPg} {X : fXs} {to : Nat → Nat} {fr : Int} {ch : Nat} {C D : fCs} {W : Nat → Int} {H : Nat → Prop}
theorem k_103 (hf : 100 < f) (hch : ch < 2147483648) (h : cCw S G mo q ln tp s X to fr) (h1 : G 216 1 = (cc : Int)) (hcc : S cc = (2, 4, 72)) (ha : S ah = (1, 2, 8)) (h3 : G ah 3 = (ac : Int)) (hac : S ac = (2, 4, 72)) (hC : okC C) (hD : okC D) (gD : ∀ x, x < 72 → G cc x = eC (D x)) (gC : ∀ x, x < 72 → G ac x = eC (C x)) (hv : ∀ y, y < 72 → 0 ≤ G (ln + 3) y ∧ G (ln + 3) y ≤ 100000) (ht : ∀ y, ¬ G (ln + 7) y = 0 ↔ W y ≠ -1) (hH : ∀ p, p < s.1.length → (ch.testBit p = true ↔ H p)) :
    ∃ G', c103 f 216 ah ln (ch : Int) (S, G, m) = some (S, G', m) ∧ xL3 ln G G' ∧ ∀ c, c < 72 → (qCw X s (fr = 1) W C D H c → G' (ln + 3) c = G (ln + 3) c + 1) ∧ (¬ qCw X s (fr = 1) W C D H c → G' (ln + 3) c = G (ln + 3) c) := by
  obtain ⟨lo, hi, Dm, a1, a2, a3⟩ := k_103a (f := f) (m := m) (ln := ln) (ch := (ch : Int)) h.1.1 h1 hcc ha h3 hac 72 0 f 0 0 0 (by omega) (by omega) .z (fun x => by
    rw [Nat.zero_testBit]
    constructor
    · intro z; cases z
    · rintro ⟨z, _⟩; omega)
  obtain ⟨G', b1, b2, _, b4⟩ := k_103b (f := f) (m := m) (ch := ch) hf hch a2 (fun y => W y ≠ -1) 72 0 f G (by omega) (by omega) h (fun y _ hy => hv y hy) ht
  refine ⟨G', a1.trans b1, b2, fun c hc => ?_⟩
  have hP : cwP X s (fun y => W y ≠ -1) Dm ch fr c ↔ qCw X s (fr = 1) W C D H c := by
    have hd : ∀ x, x < 72 → (Dm.testBit x = true ↔ D x ≠ C x) := fun x hx => by
      rw [a3 x, gD x hx, gC x hx]
      have := eC_inj (hD x hx) (hC x hx)
      constructor
      · rintro ⟨_, z⟩ e; exact z (this.mpr e)
      · intro z; exact ⟨hx, fun e => z (this.mp e)⟩
    unfold cwP qCw
    constructor
    · rintro ⟨w0, w | ⟨x, x1, x2, x3⟩ | w | ⟨p, p1, p2, p3⟩⟩
      · exact ⟨w0, .inl w⟩
      · exact ⟨w0, .inr (.inr (.inl ⟨x, x1, x2, (hd x x1).mp x3⟩))⟩
      · exact ⟨w0, .inr (.inl w)⟩
      · exact ⟨w0, .inr (.inr (.inr ⟨p, p1, p2, (hH p p1).mp p3⟩))⟩
    · rintro ⟨w0, w | w | ⟨x, x1, x2, x3⟩ | ⟨p, p1, p2, p3⟩⟩
      · exact ⟨w0, .inl w⟩
      · exact ⟨w0, .inr (.inr (.inl w))⟩
      · exact ⟨w0, .inr (.inl ⟨x, x1, x2, (hd x x1).mpr x3⟩)⟩
      · exact ⟨w0, .inr (.inr (.inr ⟨p, p1, p2, (hH p p1).mpr p3⟩))⟩
  have := b4 c (Nat.zero_le _) hc
  rw [hP] at this
  exact this
end
end
section
/-! THE CLASS: the SHEET: settle(), the texts -/
section
variable {S : Nat → Nat × Nat × Nat} {G : xG_} {m : Nat × Nat} {x k n c z kk L y : Nat} {v : Int}
theorem o_gr (h : S x = (1, c, n)) (e : G x k = (y : Int)) : cq_gr c k n x (S, G, m) = some y := by
  show (if S x = (1, c, n) then some (G x k).toNat else none) = _
  rw [if_pos h, e, Int.toNat_natCast]
theorem o_gi (h : S x = (1, c, n)) : cq_gi c k n x (S, G, m) = some (G x k) := if_pos h
theorem o_p (h : S x = (1, c, n)) : cq_p c k n x v (S, G, m) = some (S, xup2 G x k v, m) := if_pos h
theorem o_pr (h : S x = (1, c, n)) : cq_pr c k n x y (S, G, m) = some (S, xup2 G x k (y : Int), m) := if_pos h
theorem o_ar (h : S x = (2, kk, L)) (hk : 5 ≤ kk) (hz : z < L) (e : G x z = (y : Int)) : cq_ar x (z : Int) (S, G, m) = some y := by
  unfold cq_ar
  show (if (S x).1 = 2 ∧ 5 ≤ (S x).2.1 ∧ 0 ≤ (z : Int) ∧ (z : Int) < ((S x).2.2 : Int) then some (G x (z : Int).toNat).toNat else none) = _
  rw [h, if_pos ⟨rfl, hk, by omega, by show (z : Int) < ((L : Nat) : Int); omega⟩, Int.toNat_natCast, e, Int.toNat_natCast]
theorem o_ab (h : S x = (2, 0, L)) (hz : z < L) : cq_ab x (z : Int) (S, G, m) = some (G x z) := by
  unfold cq_ab
  show (if (S x).1 = 2 ∧ (S x).2.1 < 2 ∧ 0 ≤ (z : Int) ∧ (z : Int) < ((S x).2.2 : Int) then some (G x (z : Int).toNat) else none) = _
  rw [h, if_pos ⟨rfl, by show 0 < 2; decide, by omega, by show (z : Int) < ((L : Nat) : Int); omega⟩, Int.toNat_natCast]
theorem o_sr (h : S x = (2, 5, L)) (hz : z < L) (hy : y = 0 ∨ S y = (1, 0, 5)) : cq_sr x (z : Int) y (S, G, m) = some (S, xup2 G x z (y : Int), m) := by
  unfold cq_sr
  show (if (S x).1 = 2 ∧ 5 ≤ (S x).2.1 ∧ 0 ≤ (z : Int) ∧ (z : Int) < ((S x).2.2 : Int) ∧ (y = 0 ∨ (S y).1 = 1 ∧ (S x).2.1 = (S y).2.1 + 5) then _ else _) = _
  rw [h, if_pos ⟨rfl, by show 5 ≤ 5; decide, by omega, by show (z : Int) < ((L : Nat) : Int); omega, by
    rcases hy with q | q
    · exact .inl q
    · right; rw [q]; exact ⟨rfl, rfl⟩⟩]
  rfl
end
section
variable {f ah be ln tb c fu A sl : Nat} {S : Nat → Nat × Nat × Nat} {G : xG_} {m : Nat × Nat} {ch u : Int}
/-- what is used -/
theorem sw_99u {x : Nat} (hb : S be = (1, 2, 8)) (h2 : G be 2 = (tb : Int)) (ht : S tb = (2, 5, 72)) (hc : c < 72) (hx : G tb c = (x : Int)) {r27 : Nat → Nat → Nat → Nat → Int → Int → Int → xT_ → Option xT_} : c99_89 r27 f 216 ah be ln ch u (c : Int) (S, G, m) = r27 216 ah be ln ch (xor_ u (if x = 0 then 0 else 1)) ((c + 1 : Nat) : Int) (S, G, m) := by
  have ec : xwr ((c : Int) + 1) = ((c + 1 : Nat) : Int) := by rw [xwr_g _ (by omega) (by omega)]; omega
  unfold c99_89 c99_106
  rw [o_gr hb h2, Option.bind_some, o_ar ht (by decide) hc hx, Option.bind_some]
  by_cases h : x = 0
  · rw [if_pos h, if_pos h, ec]
  · rw [if_neg h, if_neg h, ec]
theorem sw_99n (hl : S ln = (1, 1, 14)) (h12 : G ln 12 = ((ln + 7 : Nat) : Int)) (hs7 : S (ln + 7) = (2, 0, 72)) (hc : c < 72) (h0 : G (ln + 7) c = 0) : c99_27 f (fu + 1) 216 ah be ln ch u (c : Int) (S, G, m) = c99_89 (c99_27 f fu) f 216 ah be ln ch u (c : Int) (S, G, m) := by
  show c99_27b (c99_27 f fu) f 216 _ _ _ _ _ _ _ = _
  unfold c99_27b
  rw [if_neg (by omega), o_gr hl h12, Option.bind_some, o_ab hs7 hc, Option.bind_some, if_pos h0]
/-- a text is put -/
theorem sw_99p {n o : Nat} {r27 : Nat → Nat → Nat → Nat → Int → Int → Int → xT_ → Option xT_} (hb : S be = (1, 2, 8)) (h2 : G be 2 = (tb : Int)) (ht : S tb = (2, 5, 72)) (hc : c < 72) (hl : S ln = (1, 1, 14)) (h13 : G ln 13 = ((ln + 8 : Nat) : Int)) (hs8 : S (ln + 8) = (2, 5, 72)) (ho : G (ln + 8) c = (o : Int)) (hy : o = 0 ∨ S o = (1, 0, 5)) (h5 : G be 5 = (n : Int)) (hn : n ≤ 100) (hbt : be ≠ tb) : c99_65 r27 f 216 ah be ln ch u (c : Int) (S, G, m) = c99_89 r27 f 216 ah be ln ch u (c : Int) (S, xup2 (xup2 G tb c (o : Int)) be 5 ((n + 1 : Nat) : Int), m) := by
  have en : xwr ((n : Int) + 1) = ((n + 1 : Nat) : Int) := by rw [xwr_g _ (by omega) (by omega)]; omega
  have e5 : xup2 G tb c (o : Int) be 5 = (n : Int) := by rw [xup2_n (by omega)]; exact h5
  unfold c99_65
  rw [o_gr hb h2, Option.bind_some, o_gr hl h13, Option.bind_some, o_ar hs8 (by decide) hc ho, Option.bind_some, o_sr ht hc hy, Option.bind_some, o_gi hb, Option.bind_some, e5, en, o_p hb, Option.bind_some]
theorem sw_99y {n : Nat} (hb : S be = (1, 2, 8)) (hl : S ln = (1, 1, 14)) (h12 : G ln 12 = ((ln + 7 : Nat) : Int)) (hs7 : S (ln + 7) = (2, 0, 72)) (hc : c < 72) (h0 : ¬ G (ln + 7) c = 0) (h5 : G be 5 = (n : Int)) (hn : 0 < n) : c99_27 f (fu + 1) 216 ah be ln ch u (c : Int) (S, G, m) = c99_65 (c99_27 f fu) f 216 ah be ln ch u (c : Int) (S, G, m) := by
  show c99_27b (c99_27 f fu) f 216 _ _ _ _ _ _ _ = _
  unfold c99_27b
  rw [if_neg (by omega), o_gr hl h12, Option.bind_some, o_ab hs7 hc, Option.bind_some, if_neg h0, o_gi hb, Option.bind_some, if_pos (by omega)]
/-- the texts are copied -/
theorem sw_99f {tp : Nat} (hb : S be = (1, 2, 8)) (hl : S ln = (1, 1, 14)) (h12 : G ln 12 = ((ln + 7 : Nat) : Int)) (hs7 : S (ln + 7) = (2, 0, 72)) (hc : c < 72) (h0 : ¬ G (ln + 7) c = 0) (h5 : G be 5 = 0) (ha : S ah = (1, 2, 8)) (h2 : G ah 2 = (tp : Int)) (ht : S tp = (2, 5, 72)) (hbA : be ≠ A) : c99_27 f (fu + 1) 216 ah be ln ch u (c : Int) (S, G, (A, sl)) = c99_65 (c99_27 f fu) f 216 ah be ln ch u (c : Int) (xup1 S A (2, 5, 72), xup2 (xz1 G A (G tp)) be 2 (A : Int), (A + 1, sl + 72)) := by
  have ecl : cq_cl 5 tp (S, G, (A, sl)) = some (A, (xup1 S A (2, 5, 72), xz1 G A (G tp), (A + 1, sl + 72))) := by
    have e0 : cq_cl 5 tp (S, G, (A, sl)) = some (A, cq_mk (S tp) (G tp) (S tp).2.2 (S, G, (A, sl))) := if_pos ⟨by show (S tp).1 = 2; rw [ht], by show (S tp).2.1 = 5; rw [ht], .inr (by decide)⟩
    rw [e0, ht]
    rfl
  have eca : cq_ca 5 A (xup1 S A (2, 5, 72), xz1 G A (G tp), (A + 1, sl + 72)) = some () := if_pos ⟨by show (xup1 S A (2, 5, 72) A).1 = 2; rw [xup1_s], by show (xup1 S A (2, 5, 72) A).2.1 = 5; rw [xup1_s]⟩
  have hb' : xup1 S A (2, 5, 72) be = (1, 2, 8) := by rw [xup1_n (by omega)]; exact hb
  show c99_27b (c99_27 f fu) f 216 _ _ _ _ _ _ _ = _
  unfold c99_27b
  rw [if_neg (by omega), o_gr hl h12, Option.bind_some, o_ab hs7 hc, Option.bind_some, if_neg h0, o_gi hb, Option.bind_some, if_neg (fun z => z h5), o_gr ha h2, Option.bind_some, ecl, Option.bind_some, eca, Option.bind_some, o_pr hb', Option.bind_some]
end
end
section
/-! THE CLASS: the SHEET: settle(), the loop over the texts -/
/-- the text of a CELL behind a round, c of them told -/
def xT9 (G : xG_) (ln tp c y : Nat) : Int := if y < c ∧ ¬ G (ln + 7) y = 0 then G (ln + 8) y else G tp y
/-- how many texts are told -/
def tC9 (G : xG_) (ln : Nat) : Nat → Nat
  | 0 => 0
  | c + 1 => tC9 G ln c + (if G (ln + 7) c = 0 then 0 else 1)
/-- what stays while texts are settled -/
def sE9 (S : Nat → Nat × Nat × Nat) (G : xG_) (A ah be ln tp : Nat) : Prop := (be < A ∧ ah < A ∧ ln + 8 < A ∧ tp < A) ∧ (S be = (1, 2, 8) ∧ S ah = (1, 2, 8) ∧ G ah 2 = (tp : Int) ∧ S tp = (2, 5, 72)) ∧ (be ≠ ah ∧ be ≠ tp ∧ be ≠ ln ∧ be ≠ ln + 7 ∧ be ≠ ln + 8) ∧ (S ln = (1, 1, 14) ∧ S (ln + 7) = (2, 0, 72) ∧ S (ln + 8) = (2, 5, 72) ∧ G ln 12 = ((ln + 7 : Nat) : Int) ∧ G ln 13 = ((ln + 8 : Nat) : Int)) ∧ (∀ y, y < 72 → ∃ o : Nat, G (ln + 8) y = (o : Int) ∧ (o = 0 ∨ S o = (1, 0, 5) ∧ o < A)) ∧ ∀ y, y < 72 → ∃ o : Nat, G tp y = (o : Int)
def sI9 (S0 : Nat → Nat × Nat × Nat) (G0 : xG_) (A sl be ln tp c : Nat) (S : Nat → Nat × Nat × Nat) (G : xG_) (m : Nat × Nat) (n : Nat) (u : Int) : Prop := (∀ a, a < A → S a = S0 a) ∧ (∀ a j, a < A → ¬ (a = be ∧ (j = 2 ∨ j = 5)) → G a j = G0 a j) ∧ (G be 5 = (n : Int) ∧ n ≤ c ∧ n = tC9 G0 ln c) ∧ ((n = 0 ∧ G be 2 = (tp : Int) ∧ m = (A, sl) ∧ S = S0 ∧ ∀ y, y < c → G0 (ln + 7) y = 0) ∨ (0 < n ∧ G be 2 = (A : Int) ∧ S A = (2, 5, 72) ∧ m = (A + 1, sl + 72) ∧ (∀ y, y < 72 → G A y = xT9 G0 ln tp c y) ∧ ∃ y, y < c ∧ ¬ G0 (ln + 7) y = 0)) ∧ isB u (∃ y, y < c ∧ xT9 G0 ln tp 72 y ≠ 0)
theorem xor_01 : xor_ 0 0 = 0 ∧ xor_ 0 1 = 1 ∧ xor_ 1 0 = 1 ∧ xor_ 1 1 = 1 := by decide
section
variable {f ah be ln tp A sl : Nat} {S0 : Nat → Nat × Nat × Nat} {G0 : xG_} {ch : Int}
theorem u_nx {u : Int} {c x : Nat} (h : isB u (∃ y, y < c ∧ xT9 G0 ln tp 72 y ≠ 0)) (hx : xT9 G0 ln tp 72 c = (x : Int)) : isB (xor_ u (if x = 0 then 0 else 1)) (∃ y, y < c + 1 ∧ xT9 G0 ln tp 72 y ≠ 0) := by
  obtain ⟨x1, x2, x3, x4⟩ := xor_01
  have hiff : (∃ y, y < c + 1 ∧ xT9 G0 ln tp 72 y ≠ 0) ↔ (∃ y, y < c ∧ xT9 G0 ln tp 72 y ≠ 0) ∨ ¬ x = 0 := by
    constructor
    · rintro ⟨y, y1, y2⟩
      by_cases cy : y = c
      · right
        rw [cy, hx] at y2
        omega
      · exact .inl ⟨y, by omega, y2⟩
    · rintro (⟨y, y1, y2⟩ | q)
      · exact ⟨y, by omega, y2⟩
      · exact ⟨c, by omega, by rw [hx]; omega⟩
  unfold isB at h ⊢
  rw [hiff]
  by_cases cx : x = 0
  · rw [if_pos cx]
    rcases h with ⟨h1, h2⟩ | ⟨h1, h2⟩
    · rw [h1, x3]; exact .inl ⟨rfl, .inl h2⟩
    · rw [h1, x1]; exact .inr ⟨rfl, fun z => z.elim h2 (fun w => w cx)⟩
  · rw [if_neg cx]
    rcases h with ⟨h1, h2⟩ | ⟨h1, h2⟩
    · rw [h1, x4]; exact .inl ⟨rfl, .inl h2⟩
    · rw [h1, x2]; exact .inl ⟨rfl, .inr cx⟩
theorem k_99l (hE : sE9 S0 G0 A ah be ln tp) : ∀ (d c fu : Nat) (S : Nat → Nat × Nat × Nat) (G : xG_) (m : Nat × Nat) (n : Nat) (u : Int), c + d = 72 → d < fu → sI9 S0 G0 A sl be ln tp c S G m n u → ∃ fu' S' G' m' n' u', 0 < fu' ∧ c99_27 f fu 216 ah be ln ch u (c : Int) (S, G, m) = c99_27 f fu' 216 ah be ln ch u' ((72 : Nat) : Int) (S', G', m') ∧ sI9 S0 G0 A sl be ln tp 72 S' G' m' n' u' := by
  obtain ⟨⟨hb, ha, hl8, htp⟩, ⟨sb, sa, ga, st⟩, ⟨n1, n2, n3, n4, n5⟩, ⟨l0, l7, l8, g12, g13⟩, hlt, hto⟩ := hE
  intro d
  induction d with
  | zero =>
    intro c fu S G m n u e1 e2 h
    have : c = 72 := by omega
    rw [this] at h ⊢
    exact ⟨fu, S, G, m, n, u, by omega, rfl, h⟩
  | succ d ih =>
    intro c fu S G m n u e1 e2 h
    obtain ⟨fu, rfl⟩ : ∃ t, fu = t + 1 := ⟨fu - 1, by omega⟩
    obtain ⟨hS, hG, ⟨h5, hn, hnc⟩, hc, hu⟩ := h
    have hc72 : c < 72 := by omega
    have sb' : S be = (1, 2, 8) := by rw [hS _ hb]; exact sb
    have l0' : S ln = (1, 1, 14) := by rw [hS _ (by omega)]; exact l0
    have l7' : S (ln + 7) = (2, 0, 72) := by rw [hS _ (by omega)]; exact l7
    have l8' : S (ln + 8) = (2, 5, 72) := by rw [hS _ (by omega)]; exact l8
    have g12' : G ln 12 = ((ln + 7 : Nat) : Int) := by rw [hG _ _ (by omega) (by omega)]; exact g12
    have g13' : G ln 13 = ((ln + 8 : Nat) : Int) := by rw [hG _ _ (by omega) (by omega)]; exact g13
    have lt7 : ln + 7 < A := Nat.lt_of_le_of_lt (Nat.add_le_add_left (by decide) _) hl8
    have t7 : G (ln + 7) c = G0 (ln + 7) c := hG _ _ lt7 (fun z => n4 z.1.symm)
    have t8 : G (ln + 8) c = G0 (ln + 8) c := hG _ _ hl8 (fun z => n5 z.1.symm)
    have xc : xT9 G0 ln tp 72 c = if ¬ G0 (ln + 7) c = 0 then G0 (ln + 8) c else G0 tp c := by
      unfold xT9
      by_cases q : G0 (ln + 7) c = 0
      · rw [if_neg (fun z => z.2 q), if_neg (fun z => z q)]
      · rw [if_pos ⟨hc72, q⟩, if_pos q]
    have xn : ∀ y, y ≠ c → xT9 G0 ln tp (c + 1) y = xT9 G0 ln tp c y := fun y z => by
      unfold xT9
      by_cases q : y < c ∧ ¬ G0 (ln + 7) y = 0
      · rw [if_pos q, if_pos ⟨by omega, q.2⟩]
      · rw [if_neg q, if_neg (fun w => q ⟨by omega, w.2⟩)]
    have xcc : xT9 G0 ln tp (c + 1) c = xT9 G0 ln tp 72 c := by
      rw [xc]
      unfold xT9
      by_cases q : G0 (ln + 7) c = 0
      · rw [if_neg (fun z => z.2 q), if_neg (fun z => z q)]
      · rw [if_pos ⟨by omega, q⟩, if_pos q]
    by_cases q0 : G0 (ln + 7) c = 0
    · -- not told
      have e0 := sw_99n (f := f) (fu := fu) (ah := ah) (be := be) (ch := ch) (u := u) (m := m) l0' g12' l7' hc72 (by rw [t7]; exact q0)
      rw [if_neg (fun z => z q0)] at xc
      obtain ⟨x, hx⟩ := hto c hc72
      rw [hx] at xc
      have xs : xT9 G0 ln tp (c + 1) c = xT9 G0 ln tp c c := by
        unfold xT9
        rw [if_neg (fun z => z.2 q0), if_neg (fun z => z.2 q0)]
      rcases hc with ⟨c1, c2, c3, c4, c5⟩ | ⟨c1, c2, c3, c4, c5, c6⟩
      · have e1' := sw_99u (f := f) (ah := ah) (ln := ln) (ch := ch) (u := u) (m := m) (r27 := c99_27 f fu) sb' c2 (by rw [c4]; exact st) hc72 (by rw [hG _ _ htp (by omega)]; exact hx)
        obtain ⟨fu', S', G', m', n', u', i1, i2, i3⟩ := ih (c + 1) fu S G m n _ (by omega) (by omega) ⟨hS, hG, ⟨h5, by omega, by show n = tC9 G0 ln c + _; rw [if_pos q0]; exact hnc⟩, .inl ⟨c1, c2, c3, c4, fun y hy => by
          by_cases cy : y = c
          · rw [cy]; exact q0
          · exact c5 y (by omega)⟩, u_nx hu xc⟩
        exact ⟨fu', S', G', m', n', u', i1, (e0.trans e1').trans i2, i3⟩
      · have e1' := sw_99u (f := f) (ah := ah) (ln := ln) (ch := ch) (u := u) (m := m) (r27 := c99_27 f fu) sb' c2 c3 hc72 (by rw [c5 c hc72, ← xs, xcc]; exact xc)
        obtain ⟨fu', S', G', m', n', u', i1, i2, i3⟩ := ih (c + 1) fu S G m n _ (by omega) (by omega) ⟨hS, hG, ⟨h5, by omega, by show n = tC9 G0 ln c + _; rw [if_pos q0]; exact hnc⟩, .inr ⟨c1, c2, c3, c4, fun y hy => by
          by_cases cy : y = c
          · rw [cy, xs]; exact c5 c hc72
          · rw [xn y cy]; exact c5 y hy, by
          obtain ⟨y, y1, y2⟩ := c6
          exact ⟨y, by omega, y2⟩⟩, u_nx hu xc⟩
        exact ⟨fu', S', G', m', n', u', i1, (e0.trans e1').trans i2, i3⟩
    · -- told
      rw [if_pos q0] at xc
      obtain ⟨o, ho1, ho2⟩ := hlt c hc72
      rw [ho1] at xc
      have q0' : ¬ G (ln + 7) c = 0 := by rw [t7]; exact q0
      rcases hc with ⟨c1, c2, c3, c4, c5⟩ | ⟨c1, c2, c3, c4, c5, c6⟩
      · subst c3 c4
        rw [c1] at h5
        have e0 := sw_99f (f := f) (fu := fu) (ah := ah) (be := be) (ln := ln) (ch := ch) (u := u) (A := A) (sl := sl) sb' l0' g12' l7' hc72 q0' h5 sa (by rw [hG _ _ ha (by omega)]; exact ga) st (by omega)
        have z1 : ∀ a j, a < A → ¬ (a = be ∧ j = 2) → xup2 (xz1 G A (G tp)) be 2 (A : Int) a j = G a j := fun a j y1 y2 => by rw [xup2_n y2, xz1_n _ (by omega)]
        have zA : ∀ j, xup2 (xz1 G A (G tp)) be 2 (A : Int) A j = G tp j := fun j => by rw [xup2_n (by omega), xz1_s]
        have sA : ∀ a, a < A → xup1 S A (2, 5, 72) a = S a := fun a ha => xup1_n (by omega)
        have e1' := sw_99p (f := f) (ah := ah) (be := be) (ln := ln) (ch := ch) (u := u) (m := (A + 1, sl + 72)) (S := xup1 S A (2, 5, 72)) (G := xup2 (xz1 G A (G tp)) be 2 (A : Int)) (tb := A) (n := 0) (o := o) (r27 := c99_27 f fu) (by rw [sA _ hb]; exact sb') (xup2_s _ _ _ _) (xup1_s _ _ _) hc72 (by rw [sA _ (by omega)]; exact l0') (by rw [z1 _ _ (by omega) (by omega)]; exact g13') (by rw [sA _ (by omega)]; exact l8') (by rw [z1 _ _ (by omega) (by omega), t8]; exact ho1) (by
          rcases ho2 with w | ⟨w1, w2⟩
          · exact .inl w
          · right; rw [sA _ w2]; exact w1) (by rw [z1 _ _ hb (by omega)]; exact h5) (by omega) (by omega)
        have z2 : ∀ a j, ¬ (a = A ∧ j = c) → ¬ (a = be ∧ j = 5) → xup2 (xup2 (xup2 (xz1 G A (G tp)) be 2 (A : Int)) A c (o : Int)) be 5 ((0 + 1 : Nat) : Int) a j = xup2 (xz1 G A (G tp)) be 2 (A : Int) a j := fun a j y1 y2 => by rw [xup2_n y2, xup2_n y1]
        have zc : xup2 (xup2 (xup2 (xz1 G A (G tp)) be 2 (A : Int)) A c (o : Int)) be 5 ((0 + 1 : Nat) : Int) A c = (o : Int) := by rw [xup2_n (by omega), xup2_s]
        have b2' : xup2 (xup2 (xup2 (xz1 G A (G tp)) be 2 (A : Int)) A c (o : Int)) be 5 ((0 + 1 : Nat) : Int) be 2 = (A : Int) := by rw [z2 _ _ (by omega) (by omega), xup2_s]
        have e2' := sw_99u (f := f) (ah := ah) (ln := ln) (ch := ch) (u := u) (m := (A + 1, sl + 72)) (x := o) (r27 := c99_27 f fu) (S := xup1 S A (2, 5, 72)) (by rw [sA _ hb]; exact sb') b2' (xup1_s _ _ _) hc72 zc
        obtain ⟨fu', S', G', m', n', u', i1, i2, i3⟩ := ih (c + 1) fu _ _ _ 1 _ (by omega) (by omega) ⟨fun a ha => sA a ha, fun a j y1 y2 => by rw [z2 _ _ (by omega) (by omega), z1 _ _ y1 (by omega)]; exact hG a j y1 y2, ⟨xup2_s _ _ _ _, by omega, by show 1 = tC9 G0 ln c + _; rw [if_neg q0, ← hnc, c1]⟩, .inr ⟨by decide, b2', xup1_s _ _ _, rfl, fun y hy => by
          by_cases cy : y = c
          · rw [cy, zc, xcc]; exact xc.symm
          · rw [z2 _ _ (by omega) (by omega), zA, xn y cy]
            unfold xT9
            rw [if_neg (fun w => w.2 (c5 y w.1)), hG _ _ htp (by omega)], ⟨c, by omega, q0⟩⟩, u_nx hu xc⟩
        exact ⟨fu', S', G', m', n', u', i1, ((e0.trans e1').trans e2').trans i2, i3⟩
      · have e0 := sw_99y (f := f) (fu := fu) (ah := ah) (be := be) (ln := ln) (ch := ch) (u := u) (m := m) sb' l0' g12' l7' hc72 q0' h5 c1
        have e1' := sw_99p (f := f) (ah := ah) (be := be) (ln := ln) (ch := ch) (u := u) (m := m) (tb := A) (o := o) (r27 := c99_27 f fu) sb' c2 c3 hc72 l0' g13' l8' (by rw [t8]; exact ho1) (by
          rcases ho2 with w | ⟨w1, w2⟩
          · exact .inl w
          · right; rw [hS _ w2]; exact w1) h5 (by omega) (by omega)
        have z2 : ∀ a j, ¬ (a = A ∧ j = c) → ¬ (a = be ∧ j = 5) → xup2 (xup2 G A c (o : Int)) be 5 ((n + 1 : Nat) : Int) a j = G a j := fun a j y1 y2 => by rw [xup2_n y2, xup2_n y1]
        have zc : xup2 (xup2 G A c (o : Int)) be 5 ((n + 1 : Nat) : Int) A c = (o : Int) := by rw [xup2_n (by omega), xup2_s]
        have b2' : xup2 (xup2 G A c (o : Int)) be 5 ((n + 1 : Nat) : Int) be 2 = (A : Int) := by rw [z2 _ _ (by omega) (by omega)]; exact c2
        have e2' := sw_99u (f := f) (ah := ah) (ln := ln) (ch := ch) (u := u) (m := m) (x := o) (r27 := c99_27 f fu) sb' b2' c3 hc72 zc
        obtain ⟨fu', S', G', m', n', u', i1, i2, i3⟩ := ih (c + 1) fu S _ m (n + 1) _ (by omega) (by omega) ⟨hS, fun a j y1 y2 => by rw [z2 _ _ (by omega) (by omega)]; exact hG a j y1 y2, ⟨xup2_s _ _ _ _, by omega, by show n + 1 = tC9 G0 ln c + _; rw [if_neg q0, ← hnc]⟩, .inr ⟨by omega, b2', c3, c4, fun y hy => by
          by_cases cy : y = c
          · rw [cy, zc, xcc]; exact xc.symm
          · rw [z2 _ _ (by omega) (by omega), xn y cy]; exact c5 y hy, ⟨c, by omega, q0⟩⟩, u_nx hu xc⟩
        exact ⟨fu', S', G', m', n', u', i1, ((e0.trans e1').trans e2').trans i2, i3⟩
end
end
section
/-! The SHEET hangs on the values of rows alone -/
section
variable {s : pPg} {M M' : Nat → List pRw} {C : fCs}
def vSm (s : pPg) (M M' : Nat → List pRw) : Prop := ∀ p, p < s.1.length → (M p).map (·.1) = (M' p).map (·.1)
theorem fRl_v {kd : Int} {k : Nat} : ∀ (R R' : List pRw) (i : Nat) (v : Int), R.map (·.1) = R'.map (·.1) → fRl kd k R i v = fRl kd k R' i v
  | [], [], _, _, _ => rfl
  | [], r' :: R', _, _, h => by cases h
  | r :: R, [], _, _, h => by cases h
  | r :: R, r' :: R', i, v, h => by
    rw [List.map_cons, List.map_cons] at h
    injection h with h1 h2
    have h1' : r.1 = r'.1 := h1
    show fRl kd k R (i + 1) _ = fRl kd k R' (i + 1) _
    rw [h1']
    exact fRl_v R R' (i + 1) _ h2
theorem fRo_v (hn : s.1.Nodup) (h : vSm s M M') (kd k x : Int) : fRo s M kd k x = fRo s M' kd k x := by
  unfold fRo
  rcases pIdx_get (x := x) hn with ⟨z, _⟩ | ⟨p, p1, p2, _⟩
  · rw [if_pos (.inl z), if_pos (.inl z)]
  · rw [p2, Int.toNat_natCast]
    have hp := h p p1
    have hl : (M p).length = (M' p).length := by
      have := congrArg List.length hp
      rw [List.length_map, List.length_map] at this
      exact this
    rw [hl, fRl_v _ _ _ _ hp]
theorem fW_v (hn : s.1.Nodup) (h : vSm s M M') {N : List pNd} : ∀ n i, fW N C s M n i = fW N C s M' n i
  | 0, _ => rfl
  | n + 1, i => by
    show (if (N.getD i dNd).1 = 1 then _ else _) = (if (N.getD i dNd).1 = 1 then _ else _)
    rw [fW_v hn h n, fW_v hn h n, fW_v hn h n, fRo_v hn h]
theorem fSh_v (hn : s.1.Nodup) (h : vSm s M M') (X : fXs) : fSh X s M = fSh X s M' := by
  have : ∀ k, fShI X s M k = fShI X s M' k := by
    intro k
    induction k with
    | zero => rfl
    | succ k ih =>
      show qCv X s M (fShI X s M k) = qCv X s M' (fShI X s M' k)
      rw [ih]
      funext c
      unfold qCv
      cases X c with
      | none => rfl
      | some e =>
        show (if xCy X c then _ else wCv (fWr e.1 e.2 (fShI X s M' k) s M)) = (if xCy X c then _ else wCv (fWr e.1 e.2 (fShI X s M' k) s M'))
        unfold fWr
        rw [fW_v hn h]
  exact this 73
/-- a SHEET without texts -/
theorem fSh_no {X : fXs} (hX : okX X) {c : Nat} (hc : c < 72) (h : X c = none) : fSh X s M c = (0, 0) := by
  rw [fSh_fix hX hc]
  unfold qCv
  rw [h]
end
end
section
/-! THE CLASS: the SHEET: settle(), the CELLS are worked out -/
theorem cTt.lt {S S' : Nat → Nat × Nat × Nat} {G G' : xG_} {tp A : Nat} {X : fXs} {to : Nat → Nat} (h : cTt S G tp X to) (htp : tp < A) (hto : ∀ c, c < 72 → to c + 2 < A) (hS : ∀ a, a < A → S' a = S a) (hG : ∀ c, c < 72 → G' tp c = G tp c) (hF : ∀ c, c < 72 → 226 < to c → ∀ a j, to c ≤ a → a ≤ to c + 2 → G' a j = G a j) : cTt S' G' tp X to := by
  obtain ⟨h1, h2, h3⟩ := h
  refine ⟨by rw [hS _ htp]; exact h1, h2, fun c hc => ?_⟩
  obtain ⟨a1, a2⟩ := h3 c hc
  have hb := hto c hc
  refine ⟨by rw [hG c hc]; exact a1, ?_⟩
  rcases a2 with q | ⟨q1, e, q2, q3⟩
  · exact .inl q
  · exact .inr ⟨q1, e, q2, q3.ge (fun a z1 z2 => hS a (by omega)) (fun a j z1 z2 => hF c hc q1 a j z1 z2)⟩
section
variable {f ah be ln tp ac A sl q rp : Nat} {S : Nat → Nat × Nat × Nat} {G : xG_} {m : Nat × Nat} {s : pPg} {X : fXs} {to xr cr : Nat → Nat} {M : Nat → List pRw} {fr u : Int} {ch n : Nat} {C : fCs} {W : Nat → Int} {H : Nat → Prop}
/-- the end of the loop -/
theorem sw_99e {fu : Nat} {ci : Int} (hb : S be = (1, 2, 8)) (h5 : G be 5 = (n : Int)) (h6 : G be 6 = fr) : c99_27 f (fu + 1) 216 ah be ln ci u ((72 : Nat) : Int) (S, G, m) = if 0 < n ∨ (¬ u = 0 ∧ (¬ ci = 0 ∨ fr = 1)) then c99_140 f 216 ah be ln ci (S, G, m) else some (S, G, m) := by
  show c99_27b (c99_27 f fu) f 216 _ _ _ _ _ _ _ = _
  unfold c99_27b c99_172
  rw [if_pos (by decide), o_gi hb, Option.bind_some, h5]
  by_cases c1 : 0 < n
  · rw [if_pos (show (0 : Int) < (n : Int) by omega), if_pos (show 0 < n ∨ (¬ u = 0 ∧ (¬ ci = 0 ∨ fr = 1)) from .inl c1)]
  · rw [if_neg (show ¬ (0 : Int) < (n : Int) by omega)]
    by_cases c2 : u = 0
    · rw [if_pos c2, if_neg (show ¬ (0 < n ∨ (¬ u = 0 ∧ (¬ ci = 0 ∨ fr = 1))) from fun z => by rcases z with z | z; exact c1 z; exact z.1 c2)]
    · rw [if_neg c2]
      by_cases c3 : ci = 0
      · rw [if_neg (fun z => z c3), o_gi hb, Option.bind_some, h6]
        by_cases c4 : fr = 1
        · rw [if_neg (fun z => z c4), if_pos (show 0 < n ∨ (¬ u = 0 ∧ (¬ ci = 0 ∨ fr = 1)) from .inr ⟨c2, .inr c4⟩)]
        · rw [if_pos c4, if_neg (show ¬ (0 < n ∨ (¬ u = 0 ∧ (¬ ci = 0 ∨ fr = 1))) from fun z => by
            rcases z with z | ⟨_, z | z⟩
            · exact c1 z
            · exact z c3
            · exact c4 z)]
      · rw [if_pos c3, if_pos (show 0 < n ∨ (¬ u = 0 ∧ (¬ ci = 0 ∨ fr = 1)) from .inr ⟨c2, .inl c3⟩)]
theorem sw_140 {cc : Nat} {ci : Int} {S1 : Nat → Nat × Nat × Nat} {G1 G4 G5 : xG_} {m1 : Nat × Nat} {R : xT_} (hs : cSs S1) (hb : S1 be = (1, 2, 8)) (hbc : be ≠ 216) (ea : cq_na 4 72 (S, G, m) = some (cc, (S1, G1, m1))) (e1 : c100 f 216 (S1, xup2 (xup2 G1 be 3 (cc : Int)) 216 1 (cc : Int), m1) = some (S1, G4, m1)) (e2 : c102 f 216 (S1, G4, m1) = some (S1, G5, m1)) (e3 : c103 f 216 ah ln ci (S1, G5, m1) = some R) : c99_140 f 216 ah be ln ci (S, G, m) = some R := by
  have i1 : ∀ G' : xG_, cq_is 7 5 216 (S1, G', m1) = some () := fun G' => if_pos (s216 hs)
  unfold c99_140 c99_172
  rw [ea, Option.bind_some, o_pr hb, Option.bind_some, o_gr hb (xup2_s _ _ _ _), Option.bind_some, o_pr (s216 hs), Option.bind_some, i1, Option.bind_some, e1, Option.bind_some, i1, Option.bind_some, e2, Option.bind_some, i1, Option.bind_some, e3, Option.bind_some]
/-- the CELLS are worked out anew -/
theorem k_99z {nq : Nat} (hf : 700 < f) (hch : ch < 2147483648) (hs : cSs S) (hp : cPs G) (hA : 278 < A) (hb : S be = (1, 2, 8)) (hbA : 278 < be ∧ be < A) (h0 : G 216 0 = (be : Int)) (hM : cMr S G A be q rp s xr cr M) (hP : cPgm S G q nq s) (hnq : nq ≤ be ∧ 226 < q ∧ (q + 1 < 243 ∨ 278 < q)) (hok : qOk s) (hoM : okM s M) (hl : ∀ p, p < s.1.length → (M p).length ≤ 100) (hrp : 278 < rp ∧ rp < A ∧ rp ≠ be) (hxr : ∀ p, p < s.1.length → (xr p + 2 < 216 ∨ 278 < xr p) ∧ (be < xr p ∨ xr p + 2 < be))
    (h2 : G be 2 = (tp : Int)) (hT : cTt S G tp X to) (htp : tp < A ∧ tp ≠ be ∧ (tp < 243 ∨ 278 < tp)) (hto : ∀ c, c < 72 → to c + 2 < A ∧ (be < to c ∨ to c + 2 < be) ∧ (to c = 0 ∨ 278 < to c)) (hX : okX X) (h6 : G be 6 = fr)
    (ls : lnSt S ln) (lp : lnPt G ln) (hln : 242 < ln ∧ ln + 8 < 279) (ha : S ah = (1, 2, 8)) (haA : 226 < ah ∧ ah < A ∧ ah ≠ be) (h3 : G ah 3 = (ac : Int)) (hac : S ac = (2, 4, 72)) (hacA : 226 < ac ∧ ac < A ∧ ac ≠ be) (hC : okC C) (gC : ∀ x, x < 72 → G ac x = eC (C x)) (hv : ∀ y, y < 72 → 0 ≤ G (ln + 3) y ∧ G (ln + 3) y ≤ 100000) (ht : ∀ y, ¬ G (ln + 7) y = 0 ↔ W y ≠ -1) (hH : ∀ p, p < s.1.length → (ch.testBit p = true ↔ H p)) :
    ∃ S' G', c99_140 f 216 ah be ln (ch : Int) (S, G, (A, sl)) = some (S', G', (A + 1, sl + 72)) ∧ (∀ a, a < A → S' a = S a) ∧ S' A = (2, 4, 72) ∧ (∀ a j, a < A → ¬ (a = be ∧ j = 3) → ¬ (a = 216 ∧ j = 1) → ¬ (217 ≤ a ∧ a ≤ 219) → a ≠ ln + 3 → G' a j = G a j) ∧ G' be 3 = (A : Int) ∧ (∀ x, x < 72 → G' A x = eC (fSh X s M x)) ∧ ∀ c, c < 72 → (qCw X s (fr = 1) W C (fSh X s M) H c → G' (ln + 3) c = G (ln + 3) c + 1) ∧ (¬ qCw X s (fr = 1) W C (fSh X s M) H c → G' (ln + 3) c = G (ln + 3) c) := by
  have ea : cq_na 4 72 (S, G, (A, sl)) = some (A, (xup1 S A (2, 4, 72), xz1 G A (fun _ => 0), A + 1, sl + 72)) := cq_na_ok (by decide) (by decide) (by decide)
  have zS : ∀ a, a < A → xup1 S A (2, 4, 72) a = S a := fun a h => xup1_n (by omega)
  have sA : xup1 S A (2, 4, 72) A = (2, 4, 72) := xup1_s _ _ _
  generalize xup1 S A (2, 4, 72) = S1 at ea zS sA
  have hs1 : cSs S1 := fun k hk => by rw [zS _ (by omega)]; exact hs k hk
  have hb1 : S1 be = (1, 2, 8) := by rw [zS _ hbA.2]; exact hb
  -- the state before findRings()
  have z3 : ∀ a j, a < A → ¬ (a = be ∧ j = 3) → ¬ (a = 216 ∧ j = 1) → xup2 (xup2 (xz1 G A (fun _ => 0)) be 3 (A : Int)) 216 1 (A : Int) a j = G a j := fun a j y1 y2 y3 => by rw [xup2_n y3, xup2_n y2, xz1_n _ (by omega)]
  have w1 : xup2 (xup2 (xz1 G A (fun _ => 0)) be 3 (A : Int)) 216 1 (A : Int) 216 1 = (A : Int) := xup2_s _ _ _ _
  have w2 : xup2 (xup2 (xz1 G A (fun _ => 0)) be 3 (A : Int)) 216 1 (A : Int) be 3 = (A : Int) := by rw [xup2_n (by omega), xup2_s]
  generalize hG3 : xup2 (xup2 (xz1 G A (fun _ => 0)) be 3 (A : Int)) 216 1 (A : Int) = G3 at z3 w1 w2
  have hp3 : cPs G3 := hp.ge (fun a j hz => z3 a j (by
    rcases hz with z | z | z | z | z | z | z | ⟨z, z1, z2, k, z3⟩ | z | z | z | ⟨k, z1, z2, z3⟩ <;> omega) (by
    rcases hz with z | z | z | z | z | z | z | ⟨z, z1, z2, k, z3⟩ | z | z | z | ⟨k, z1, z2, z3⟩ <;> omega) (by
    rcases hz with z | z | z | z | z | z | z | ⟨z, z1, z2, k, z3⟩ | z | z | z | ⟨k, z1, z2, z3⟩ <;> omega))
  have hT3 : cTt S1 G3 tp X to := hT.lt htp.1 (fun c hc => (hto c hc).1) zS (fun c hc => z3 _ _ htp.1 (by omega) (by have := hT.2.1; omega)) (fun c hc h226 a j y1 y2 => by
    have := hto c hc
    exact z3 _ _ (by omega) (by omega) (by omega))
  have h03 : G3 216 0 = (be : Int) := by rw [z3 _ _ (by omega) (by omega) (by omega)]; exact h0
  have h23 : G3 be 2 = (tp : Int) := by rw [z3 _ _ hbA.2 (by omega) (by omega)]; exact h2
  obtain ⟨G4, a1, a2, a3⟩ := k_100 (f := f) (m := (A + 1, sl + 72)) (by omega) hs1 hp3 hb1 (by omega) h03 h23 hT3
  have z4 : ∀ a j, a < A → ¬ (a = be ∧ j = 3) → ¬ (a = 216 ∧ j = 1) → ¬ (217 ≤ a ∧ a ≤ 219) → G4 a j = G a j := fun a j y1 y2 y3 y4 => by rw [a2 _ _ (by omega) (by omega), z3 _ _ y1 y2 y3]
  have hp4 := a2.ps hp3
  have hT4 : cTt S1 G4 tp X to := hT3.ge (fun _ _ => rfl) (fun a j y => a2 _ _ (by omega) (by omega))
  have hM4 : cMr S1 G4 A be q rp s xr cr M := hM.ge2 (Nat.le_refl _) (fun a hz => zS a (by
    rcases hz with z | z | ⟨p, hp, y1, y2⟩
    · omega
    · omega
    · have := (hM.2.2.2.2 p hp).2.1; omega)) (fun a j hz => by
    rcases hz with ⟨z, zj⟩ | z | ⟨p, hp, y1, y2⟩
    · exact z4 a j (by omega) (by omega) (by omega) (by omega)
    · exact z4 a j (by omega) (by omega) (by omega) (by omega)
    · have u1 := (hM.2.2.2.2 p hp).2.1
      have u2 := hxr p hp
      exact z4 a j (by omega) (by omega) (by omega) (by omega))
  have hP4 : cPgm S1 G4 q A s := hP.ge (by omega) (fun a y => zS a (by omega)) (fun a j y1 y2 => z4 a j (by omega) (by omega) (by omega) (by omega))
  have hW : wkS S1 G4 A be A q rp tp s xr cr M X to 0 := ⟨⟨hs1, hp4, ⟨by rw [a2 _ _ (by omega) (by omega)]; exact h03, by rw [a2 _ _ (by omega) (by omega)]; exact w1⟩, ⟨sA, fun x _ hx => by
      have hx' : (0 : Nat).testBit x = true := hx
      rw [Nat.zero_testBit] at hx'
      cases hx'⟩, hM4, hP4, hok, fSh_ok hX hoM (fun p hp => Nat.le_trans (hl p hp) (by decide)), hoM, hl, ⟨by omega, by omega, hnq.2.1, by omega⟩, fun p hp => by have := (hxr p hp).1; omega⟩, a3, by rw [a2 _ _ (by omega) (by omega)]; exact h23, hT4, Nat.le_refl _, hbA.2, hrp.2.1, hA, htp.1, fun c hc => (hto c hc).1⟩
  obtain ⟨G5, b1, b2, b3⟩ := k_102 (f := f) (m := (A + 1, sl + 72)) hf hX hW
  have z5 : ∀ a j, a < A → ¬ (a = be ∧ j = 3) → ¬ (a = 216 ∧ j = 1) → ¬ (217 ≤ a ∧ a ≤ 219) → G5 a j = G a j := fun a j y1 y2 y3 y4 => by rw [b2 _ _ (by omega) (by omega), z4 _ _ y1 y2 y3 y4]
  obtain ⟨l0, _, _, l3, _, _, _, l7, _⟩ := ls
  obtain ⟨_, _, p6, _, _, _, p12, _⟩ := lp
  have hT5 : cTt S1 G5 tp X to := hT4.lt htp.1 (fun c hc => (hto c hc).1) (fun _ _ => rfl) (fun c hc => b2 _ _ (by omega) (by have := hT.2.1; omega)) (fun c hc h226 a j y1 y2 => by
    have := hto c hc
    exact b2 _ _ (by omega) (by omega))
  have hq10 : q + 10 < nq := hP.2.2.2.2.2.2.2.2
  have hCw : cCw S1 G5 be q ln tp s X to fr := by
    refine ⟨⟨hs1, by rw [b2 _ _ (by omega) (by omega), a2 _ _ (by omega) (by omega)]; exact h03, hb1, ?_, hP4.1, ?_, ?_, hok⟩, ?_, hT5, ?_, ⟨by rw [zS _ (by omega)]; exact l0, by rw [zS _ (by omega)]; exact l3, by rw [zS _ (by omega)]; exact l7, by rw [z5 _ _ (by omega) (by omega) (by omega) (by omega)]; exact p6, by rw [z5 _ _ (by omega) (by omega) (by omega) (by omega)]; exact p12⟩, by omega, by omega, by omega, by omega, by omega, fun c hc => by have := hto c hc; omega⟩
    · rw [z5 _ _ (by omega) (by omega) (by omega) (by omega)]; exact hM.2.1
    · exact hP.2.1.ge (fun j _ _ _ => z5 _ _ (by omega) (by omega) (by omega) (by omega))
    · exact ⟨by rw [z5 _ _ (by omega) (by omega) (by omega) (by omega)]; exact hP.2.2.1.1, hP.2.2.1.2.1, fun k hk => by rw [z5 _ _ (by omega) (by omega) (by omega) (by omega)]; exact hP.2.2.1.2.2 k hk⟩
    · rw [z5 _ _ (by omega) (by omega) (by omega) (by omega)]; exact h2
    · rw [z5 _ _ (by omega) (by omega) (by omega) (by omega)]; exact h6
  obtain ⟨G6, c1, c2, c3⟩ := k_103 (f := f) (m := (A + 1, sl + 72)) (ch := ch) (ah := ah) (ac := ac) (cc := A) (C := C) (D := fSh X s M) (W := W) (H := H) (by omega) hch hCw (by rw [b2 _ _ (by omega) (by omega), a2 _ _ (by omega) (by omega)]; exact w1) sA (by rw [zS _ haA.2.1]; exact ha) (by rw [z5 _ _ haA.2.1 (by omega) (by omega) (by omega)]; exact h3) (by rw [zS _ hacA.2.1]; exact hac) hC (fSh_ok hX hoM (fun p hp => Nat.le_trans (hl p hp) (by decide))) b3 (fun x hx => by rw [z5 _ _ hacA.2.1 (by omega) (by omega) (by omega)]; exact gC x hx) (fun y hy => by rw [z5 _ _ (by omega) (by omega) (by omega) (by omega)]; exact hv y hy) (fun y => by rw [z5 _ _ (by omega) (by omega) (by omega) (by omega)]; exact ht y) hH
  refine ⟨S1, G6, sw_140 hs1 hb1 (by omega) ea (by rw [hG3]; exact a1) b1 c1, zS, sA, fun a j y1 y2 y3 y4 y5 => by rw [c2 _ _ y5, z5 _ _ y1 y2 y3 y4], ?_, fun x hx => by rw [c2 _ _ (by omega)]; exact b3 x hx, fun c hc => ?_⟩
  · rw [c2 _ _ (by omega), b2 _ _ (by omega) (by omega), a2 _ _ (by omega) (by omega)]; exact w2
  · have := c3 c hc
    rw [z5 (ln + 3) c (by omega) (by omega) (by omega) (by omega)] at this
    exact this
end
end
section
/-! THE CLASS: the SHEET: settle(), up to its end -/
section
variable {f ah be ln tp ac A sl : Nat} {S : Nat → Nat × Nat × Nat} {G : xG_} {m : Nat × Nat} {ch : Int}
/-- what settle() writes first -/
def sG9 (G : xG_) (be tp ac : Nat) : xG_ := xup2 (xup2 (xup2 G 216 0 (be : Int)) be 2 (tp : Int)) be 3 (ac : Int)
theorem sG9_n {a j : Nat} (h1 : ¬ (a = 216 ∧ j = 0)) (h2 : ¬ (a = be ∧ (j = 2 ∨ j = 3))) : sG9 G be tp ac a j = G a j := by
  unfold sG9
  rw [xup2_n (by omega), xup2_n (by omega), xup2_n (by omega)]
theorem sG9_s (hb : be ≠ 216) : sG9 G be tp ac 216 0 = (be : Int) ∧ sG9 G be tp ac be 2 = (tp : Int) ∧ sG9 G be tp ac be 3 = (ac : Int) := by
  unfold sG9
  refine ⟨?_, ?_, xup2_s _ _ _ _⟩
  · rw [xup2_n (by omega), xup2_n (by omega), xup2_s]
  · rw [xup2_n (by omega), xup2_s]
theorem sw_99s (hs : cSs S) (hb : S be = (1, 2, 8)) (ha : S ah = (1, 2, 8)) (hne : be ≠ 216 ∧ ah ≠ 216 ∧ be ≠ ah) (h2 : G ah 2 = (tp : Int)) (h3 : G ah 3 = (ac : Int)) : c99 f 216 ah be ln ch (S, G, m) = c99_27 f f 216 ah be ln ch 0 0 (S, sG9 G be tp ac, m) := by
  have e2 : xup2 G 216 0 (be : Int) ah 2 = (tp : Int) := by rw [xup2_n (by omega)]; exact h2
  have e3 : xup2 (xup2 G 216 0 (be : Int)) be 2 (tp : Int) ah 3 = (ac : Int) := by rw [xup2_n (by omega), xup2_n (by omega)]; exact h3
  unfold c99
  rw [o_pr (s216 hs), Option.bind_some, o_gr ha e2, Option.bind_some, o_pr hb, Option.bind_some, o_gr ha e3, Option.bind_some, o_pr hb, Option.bind_some]
  rfl
/-- settle(), its texts -/
theorem k_99a (hf : 100 < f) (hs : cSs S) (hb : S be = (1, 2, 8)) (ha : S ah = (1, 2, 8)) (hne : be ≠ 216 ∧ ah ≠ 216 ∧ be ≠ ah) (h2 : G ah 2 = (tp : Int)) (h3 : G ah 3 = (ac : Int)) (h5 : G be 5 = 0) (hE : sE9 S (sG9 G be tp ac) A ah be ln tp) : ∃ fu S' G' m' n u, c99 f 216 ah be ln ch (S, G, (A, sl)) = c99_27 f (fu + 1) 216 ah be ln ch u ((72 : Nat) : Int) (S', G', m') ∧ sI9 S (sG9 G be tp ac) A sl be ln tp 72 S' G' m' n u := by
  have e0 := sw_99s (f := f) (ln := ln) (ch := ch) (m := (A, sl)) hs hb ha hne h2 h3
  obtain ⟨fu, S', G', m', n, u, a1, a2, a3⟩ := k_99l (f := f) (sl := sl) (ch := ch) hE 72 0 f S (sG9 G be tp ac) (A, sl) 0 0 (by omega) (by omega) ⟨fun _ _ => rfl, fun _ _ _ _ => rfl, ⟨by rw [sG9_n (by omega) (by omega)]; exact h5, Nat.le_refl _, rfl⟩, .inl ⟨rfl, (sG9_s hne.1).2.1, rfl, rfl, fun y hy => absurd hy (Nat.not_lt_zero y)⟩, .inr ⟨rfl, fun ⟨y, y1, _⟩ => absurd y1 (Nat.not_lt_zero y)⟩⟩
  obtain ⟨fu, rfl⟩ : ∃ t, fu = t + 1 := ⟨fu - 1, by omega⟩
  exact ⟨fu, S', G', m', n, u, e0.trans a2, a3⟩
end
end
section
/-! THE CLASS: a line: present(), emptyPending(), countWorked() -/
section
variable {f ln : Nat} {S : Nat → Nat × Nat × Nat} {G : xG_} {m : Nat × Nat}
theorem k_5 {r mo : Nat} (ls : lnSt S ln) (lp : lnPt G ln) (h1 : G ln 1 = (r : Int)) (hr : r < 520) (hm : G (ln + 1) r = (mo : Int)) : c5 f ln (S, G, m) = some (mo, (S, G, m)) := by
  unfold c5
  rw [o_gr ls.1 lp.1, Option.bind_some, o_gi ls.1, Option.bind_some, h1, o_ar ls.2.1 (by decide) hr hm, Option.bind_some]
theorem o_sb0 {x z L : Nat} (h : S x = (2, 0, L)) (hz : z < L) : cq_sb x (z : Int) 0 (S, G, m) = some (S, xup2 G x z 0, m) := by
  unfold cq_sb cq_s
  show (if (S x).2.1 = 1 then _ else if (S x).2.1 = 0 then (if (S x).1 = 2 ∧ (S x).2.1 = 0 ∧ 0 ≤ (z : Int) ∧ (z : Int) < ((S x).2.2 : Int) then _ else _) else _) = _
  rw [h, if_neg (show ¬ (0 : Nat) = 1 by decide), if_pos rfl, if_pos ⟨rfl, rfl, by omega, by show (z : Int) < ((L : Nat) : Int); omega⟩]
  rfl
theorem k_7l (ls : lnSt S ln) : ∀ (d c fu : Nat) (G : xG_), c + d = 72 → d < fu → lnPt G ln → (∀ y, y < c → G (ln + 7) y = 0 ∧ G (ln + 8) y = 0) → ∃ G', c7_12 f fu ln (c : Int) (S, G, m) = some (S, G', m) ∧ (∀ a j, a ≠ ln + 7 → a ≠ ln + 8 → G' a j = G a j) ∧ ∀ y, y < 72 → G' (ln + 7) y = 0 ∧ G' (ln + 8) y = 0 := by
  intro d
  induction d with
  | zero =>
    intro c fu G e1 e2 lp h
    obtain ⟨fu, rfl⟩ : ∃ t, fu = t + 1 := ⟨fu - 1, by omega⟩
    refine ⟨G, ?_, fun _ _ _ _ => rfl, fun y hy => h y (by omega)⟩
    show c7_12b (c7_12 f fu) f ln _ _ = _
    unfold c7_12b
    rw [if_pos (by omega)]
  | succ d ih =>
    intro c fu G e1 e2 lp h
    obtain ⟨fu, rfl⟩ : ∃ t, fu = t + 1 := ⟨fu - 1, by omega⟩
    have ec : xwr ((c : Int) + 1) = ((c + 1 : Nat) : Int) := by rw [xwr_g _ (by omega) (by omega)]; omega
    obtain ⟨l0, _, _, _, _, _, _, l7, l8⟩ := id ls
    obtain ⟨p0, p5, p6, p9, p10, p11, p12, p13⟩ := id lp
    have e13 : xup2 G (ln + 7) c 0 ln 13 = ((ln + 8 : Nat) : Int) := by rw [xup2_n (by omega)]; exact p13
    have z : ∀ a j, a ≠ ln + 7 → a ≠ ln + 8 → xup2 (xup2 G (ln + 7) c 0) (ln + 8) c ((0 : Nat) : Int) a j = G a j := fun a j y1 y2 => by rw [xup2_n (by omega), xup2_n (by omega)]
    have st : c7_12 f (fu + 1) ln (c : Int) (S, G, m) = c7_12 f fu ln ((c + 1 : Nat) : Int) (S, xup2 (xup2 G (ln + 7) c 0) (ln + 8) c ((0 : Nat) : Int), m) := by
      show c7_12b (c7_12 f fu) f ln _ _ = _
      unfold c7_12b
      rw [if_neg (by omega), o_gr l0 p12, Option.bind_some, o_sb0 l7 (by omega), Option.bind_some, o_gr l0 e13, Option.bind_some, o_sr l8 (by omega) (.inl rfl), Option.bind_some, ec]
    obtain ⟨G', i1, i2, i3⟩ := ih (c + 1) fu (xup2 (xup2 G (ln + 7) c 0) (ln + 8) c ((0 : Nat) : Int)) (by omega) (by omega) (by
      unfold lnPt
      rw [z _ _ (by omega) (by omega), z _ _ (by omega) (by omega), z _ _ (by omega) (by omega), z _ _ (by omega) (by omega), z _ _ (by omega) (by omega), z _ _ (by omega) (by omega), z _ _ (by omega) (by omega), z _ _ (by omega) (by omega)]
      exact lp) (fun y hy => by
      by_cases cy : y = c
      · rw [cy, xup2_s, xup2_n (by omega), xup2_s]; exact ⟨rfl, rfl⟩
      · rw [xup2_n (by omega), xup2_n (by omega), xup2_n (by omega), xup2_n (by omega)]
        exact h y (by omega))
    exact ⟨G', st.trans i1, fun a j y1 y2 => by rw [i2 a j y1 y2, z a j y1 y2], i3⟩
/-- emptyPending() -/
theorem k_7 (hf : 100 < f) (ls : lnSt S ln) (lp : lnPt G ln) : ∃ G', c7 f ln (S, G, m) = some (S, G', m) ∧ (∀ a j, ¬ (a = ln ∧ (j = 7 ∨ j = 8)) → a ≠ ln + 7 → a ≠ ln + 8 → G' a j = G a j) ∧ G' ln 7 = 0 ∧ G' ln 8 = 0 ∧ ∀ y, y < 72 → G' (ln + 7) y = 0 ∧ G' (ln + 8) y = 0 := by
  have z : ∀ a j, ¬ (a = ln ∧ (j = 7 ∨ j = 8)) → xup2 (xup2 G ln 7 ((0 : Nat) : Int)) ln 8 0 a j = G a j := fun a j y => by rw [xup2_n (by omega), xup2_n (by omega)]
  obtain ⟨G', a1, a2, a3⟩ := k_7l (f := f) (m := m) ls 72 0 f (xup2 (xup2 G ln 7 ((0 : Nat) : Int)) ln 8 0) (by omega) (by omega) (by
    unfold lnPt
    rw [z _ _ (by omega), z _ _ (by omega), z _ _ (by omega), z _ _ (by omega), z _ _ (by omega), z _ _ (by omega), z _ _ (by omega), z _ _ (by omega)]
    exact lp) (fun y hy => absurd hy (Nat.not_lt_zero y))
  refine ⟨G', ?_, fun a j y1 y2 y3 => by rw [a2 a j y2 y3, z a j y1], ?_, ?_, a3⟩
  · unfold c7
    rw [o_pr ls.1, Option.bind_some, o_p ls.1, Option.bind_some]
    exact a1
  · rw [a2 _ _ (by omega) (by omega), xup2_n (by omega), xup2_s]; rfl
  · rw [a2 _ _ (by omega) (by omega), xup2_s]
theorem k_10l {wk : Nat} {tk : Int} (hw : wk < 65536) (ls : lnSt S ln) (g5 : G ln 5 = ((ln + 2 : Nat) : Int)) : ∀ (d c fu : Nat) (G' : xG_), c + d = 16 → d < fu → (∀ a j, a ≠ ln + 2 → G' a j = G a j) → (∀ p, p < 16 → c ≤ p → G' (ln + 2) p = G (ln + 2) p) → (∀ p, p < 16 → 0 ≤ G (ln + 2) p ∧ G (ln + 2) p ≤ 100000) → (∀ p, p < c → G' (ln + 2) p = (if tk = 0 then G (ln + 2) p else 0) + if wk.testBit p = true then 1 else 0) → ∃ G'', c10_2 f fu ln (wk : Int) tk (c : Int) (S, G', m) = some (S, G'', m) ∧ (∀ a j, a ≠ ln + 2 → G'' a j = G a j) ∧ ∀ p, p < 16 → G'' (ln + 2) p = (if tk = 0 then G (ln + 2) p else 0) + if wk.testBit p = true then 1 else 0 := by
  intro d
  induction d with
  | zero =>
    intro c fu G' e1 e2 hz _ _ hp
    obtain ⟨fu, rfl⟩ : ∃ t, fu = t + 1 := ⟨fu - 1, by omega⟩
    refine ⟨G', ?_, hz, fun p h => hp p (by omega)⟩
    show c10_2b (c10_2 f fu) f ln _ _ _ _ = _
    unfold c10_2b
    rw [if_pos (by omega)]
  | succ d ih =>
    intro c fu G' e1 e2 hz hc hb hp
    obtain ⟨fu, rfl⟩ : ∃ t, fu = t + 1 := ⟨fu - 1, by omega⟩
    have ec : xwr ((c : Int) + 1) = ((c + 1 : Nat) : Int) := by rw [xwr_g _ (by omega) (by omega)]; omega
    obtain ⟨l0, _, l2, _⟩ := id ls
    have hcb := hb c (by omega)
    have hcc := hc c (by omega) (Nat.le_refl _)
    have e5 : G' ln 5 = ((ln + 2 : Nat) : Int) := by rw [hz _ _ (by omega)]; exact g5
    have ebit : xand (xshr (wk : Int) (c : Int)) 1 = if wk.testBit c = true then 1 else 0 := by
      cases hb' : wk.testBit c with
      | true => rw [(xbit (by omega) (by omega)).mpr hb']; rfl
      | false => rw [(xbit0 (by omega) (by omega)).mpr hb']; rfl
    have ea : cq_a 3 (ln + 2) (c : Int) (S, G', m) = some (G (ln + 2) c) := by
      unfold cq_a
      show (if (S (ln + 2)).1 = 2 ∧ (S (ln + 2)).2.1 = 3 ∧ 0 ≤ (c : Int) ∧ (c : Int) < ((S (ln + 2)).2.2 : Int) then some (G' (ln + 2) (c : Int).toNat) else none) = _
      rw [l2, if_pos ⟨rfl, rfl, by omega, by show (c : Int) < ((16 : Nat) : Int); omega⟩, Int.toNat_natCast, hcc]
    have es : ∀ v : Int, cq_s 3 (ln + 2) (c : Int) v (S, G', m) = some (S, xup2 G' (ln + 2) c v, m) := fun v => by
      unfold cq_s
      show (if (S (ln + 2)).1 = 2 ∧ (S (ln + 2)).2.1 = 3 ∧ 0 ≤ (c : Int) ∧ (c : Int) < ((S (ln + 2)).2.2 : Int) then _ else none) = _
      rw [l2, if_pos ⟨rfl, rfl, by omega, by show (c : Int) < ((16 : Nat) : Int); omega⟩]
      rfl
    have st : c10_2 f (fu + 1) ln (wk : Int) tk (c : Int) (S, G', m) = c10_2 f fu ln (wk : Int) tk ((c + 1 : Nat) : Int) (S, xup2 G' (ln + 2) c ((if tk = 0 then G (ln + 2) c else 0) + if wk.testBit c = true then 1 else 0), m) := by
      show c10_2b (c10_2 f fu) f ln _ _ _ _ = _
      unfold c10_2b c10_27
      rw [if_neg (by omega), o_gr l0 e5, Option.bind_some]
      by_cases ct : tk = 0
      · rw [if_pos ct, if_pos ct, Option.bind_some, ea, Option.bind_some, ebit, xwr_g _ (by split <;> omega) (by split <;> omega), es, Option.bind_some, ec]
      · rw [if_neg ct, if_neg ct, ebit, xwr_g _ (by split <;> omega) (by split <;> omega), es, Option.bind_some, ec]
    obtain ⟨G'', i1, i2, i3⟩ := ih (c + 1) fu (xup2 G' (ln + 2) c ((if tk = 0 then G (ln + 2) c else 0) + if wk.testBit c = true then 1 else 0)) (by omega) (by omega) (fun a j y => by rw [xup2_n (by omega)]; exact hz a j y) (fun p h1 h2 => by rw [xup2_n (by omega)]; exact hc p h1 (by omega)) hb (fun p h => by
      by_cases cp : p = c
      · rw [cp, xup2_s]
      · rw [xup2_n (by omega)]; exact hp p (by omega))
    exact ⟨G'', st.trans i1, i2, i3⟩
/-- countWorked() of a line -/
theorem k_10 {wk : Nat} {tk : Int} (hf : 100 < f) (hw : wk < 65536) (ls : lnSt S ln) (lp : lnPt G ln) (hb : ∀ p, p < 16 → 0 ≤ G (ln + 2) p ∧ G (ln + 2) p ≤ 100000) : ∃ G', c10 f ln (wk : Int) tk (S, G, m) = some (S, G', m) ∧ (∀ a j, a ≠ ln + 2 → G' a j = G a j) ∧ ∀ p, p < 16 → G' (ln + 2) p = (if tk = 0 then G (ln + 2) p else 0) + if wk.testBit p = true then 1 else 0 :=
  k_10l hw ls lp.2.1 16 0 f G (by omega) (by omega) (fun _ _ _ => rfl) (fun _ _ _ => rfl) hb (fun p hp => absurd hp (Nat.not_lt_zero p))
end
end
section
/-! THE CLASS: a line: append() -/
/-- over the last k rounds -/
def sR9 (g : Nat → Nat) (R : Nat) : Nat → Nat
  | 0 => 0
  | k + 1 => sR9 g R k + g (R - k)
def okK9 (mv tl tk : Nat → Nat) (R k : Nat) : Prop := sR9 mv R k ≤ 8000 ∧ sR9 tl R k ≤ 100 ∧ sR9 tk R k ≤ 7
theorem okK9.le {mv tl tk : Nat → Nat} {R : Nat} : ∀ {d k : Nat}, okK9 mv tl tk R (k + d) → okK9 mv tl tk R k
  | 0, _, h => h
  | d + 1, k, h => by
    have h' : okK9 mv tl tk R ((k + d) + 1) := h
    have : okK9 mv tl tk R (k + d) := by
      obtain ⟨h1, h2, h3⟩ := h'
      have e1 : sR9 mv R (k + d + 1) = sR9 mv R (k + d) + mv (R - (k + d)) := rfl
      have e2 : sR9 tl R (k + d + 1) = sR9 tl R (k + d) + tl (R - (k + d)) := rfl
      have e3 : sR9 tk R (k + d + 1) = sR9 tk R (k + d) + tk (R - (k + d)) := rfl
      exact ⟨by omega, by omega, by omega⟩
    exact okK9.le this
section
variable {f ln R old : Nat} {S : Nat → Nat × Nat × Nat} {G : xG_} {m : Nat × Nat} {mv tl tk mo : Nat → Nat}
theorem k_11l (ls : lnSt S ln) (g0 : G ln 0 = ((ln + 1 : Nat) : Int)) (g2 : G ln 2 = (old : Int)) (hR : R < 520) (ho : old ≤ R) (hm : ∀ r, old < r → r ≤ R → G (ln + 1) r = (mo r : Int) ∧ S (mo r) = (1, 2, 8) ∧ G (mo r) 4 = (mv r : Int) ∧ G (mo r) 5 = (tl r : Int) ∧ G (mo r) 6 = (tk r : Int)) (hb : ∀ r, mv r ≤ 100000 ∧ tl r ≤ 100000 ∧ tk r ≤ 100000) : ∀ (d k fu : Nat), k + d = R - old → d < fu → okK9 mv tl tk R k → ∃ k', c11_39 f fu ln (sR9 mv R k : Int) (sR9 tl R k : Int) (sR9 tk R k : Int) ((R - k : Nat) : Int) ((R - k : Nat) : Int) (S, G, m) = some (S, xup2 G ln 2 ((R - k' : Nat) : Int), m) ∧ okK9 mv tl tk R k' ∧ k' ≤ R - old ∧ ∀ k, k' < k → k ≤ R - old → ¬ okK9 mv tl tk R k := by
  intro d
  induction d with
  | zero =>
    intro k fu e1 e2 h
    obtain ⟨fu, rfl⟩ : ∃ t, fu = t + 1 := ⟨fu - 1, by omega⟩
    refine ⟨k, ?_, h, by omega, fun k' h1 h2 => by omega⟩
    show c11_39b (c11_39 f fu) f ln _ _ _ _ _ _ = _
    unfold c11_39b c11_124
    rw [o_gi ls.1, Option.bind_some, g2, if_pos (by omega), o_p ls.1, Option.bind_some]
  | succ d ih =>
    intro k fu e1 e2 h
    obtain ⟨fu, rfl⟩ : ∃ t, fu = t + 1 := ⟨fu - 1, by omega⟩
    obtain ⟨m1, m2, m3, m4, m5⟩ := hm (R - k) (by omega) (by omega)
    obtain ⟨b1, b2, b3⟩ := hb (R - k)
    obtain ⟨o1, o2, o3⟩ := id h
    have s1 : sR9 mv R (k + 1) = sR9 mv R k + mv (R - k) := rfl
    have s2 : sR9 tl R (k + 1) = sR9 tl R k + tl (R - k) := rfl
    have s3 : sR9 tk R (k + 1) = sR9 tk R k + tk (R - k) := rfl
    have w1 : xwr ((sR9 mv R k : Int) + (mv (R - k) : Int)) = (sR9 mv R (k + 1) : Int) := by rw [xwr_g _ (by omega) (by omega)]; omega
    have w2 : xwr ((sR9 tl R k : Int) + (tl (R - k) : Int)) = (sR9 tl R (k + 1) : Int) := by rw [xwr_g _ (by omega) (by omega)]; omega
    have w3 : xwr ((sR9 tk R k : Int) + (tk (R - k) : Int)) = (sR9 tk R (k + 1) : Int) := by rw [xwr_g _ (by omega) (by omega)]; omega
    have w4 : xwr (((R - k : Nat) : Int) - 1) = ((R - (k + 1) : Nat) : Int) := by rw [xwr_g _ (by omega) (by omega)]; omega
    have w5 : xwr (((R - k : Nat) : Int) + -1) = ((R - (k + 1) : Nat) : Int) := by rw [xwr_g _ (by omega) (by omega)]; omega
    have ear := o_ar (S := S) (G := G) (m := m) ls.2.1 (by decide : 5 ≤ 7) (by omega : R - k < 520) m1
    have g4 : cq_gi 2 4 8 (mo (R - k)) (S, G, m) = some (mv (R - k) : Int) := by rw [o_gi m2, m3]
    have g5 : cq_gi 2 5 8 (mo (R - k)) (S, G, m) = some (tl (R - k) : Int) := by rw [o_gi m2, m4]
    have g6 : cq_gi 2 6 8 (mo (R - k)) (S, G, m) = some (tk (R - k) : Int) := by rw [o_gi m2, m5]
    have e0 : c11_39 f (fu + 1) ln (sR9 mv R k : Int) (sR9 tl R k : Int) (sR9 tk R k : Int) ((R - k : Nat) : Int) ((R - k : Nat) : Int) (S, G, m) = if (8000 : Int) < (sR9 mv R (k + 1) : Int) then some (S, xup2 G ln 2 ((R - k : Nat) : Int), m) else if (100 : Int) < (sR9 tl R (k + 1) : Int) then some (S, xup2 G ln 2 ((R - k : Nat) : Int), m) else if (sR9 tk R (k + 1) : Int) ≤ 7 then c11_39 f fu ln (sR9 mv R (k + 1) : Int) (sR9 tl R (k + 1) : Int) (sR9 tk R (k + 1) : Int) ((R - (k + 1) : Nat) : Int) ((R - (k + 1) : Nat) : Int) (S, G, m) else some (S, xup2 G ln 2 ((R - k : Nat) : Int), m) := by
      show c11_39b (c11_39 f fu) f ln _ _ _ _ _ _ = _
      unfold c11_39b c11_124
      rw [o_gi ls.1, Option.bind_some, g2, if_neg (by omega), o_gr ls.1 g0, Option.bind_some, ear, Option.bind_some, g4, Option.bind_some, Option.bind_some, ear, Option.bind_some, g5, Option.bind_some, Option.bind_some, ear, Option.bind_some, g6, Option.bind_some, w1, w2, w3, w4, w5, o_p ls.1, Option.bind_some]
    have stop : ¬ okK9 mv tl tk R (k + 1) → ∀ k', k < k' → k' ≤ R - old → ¬ okK9 mv tl tk R k' := fun hn k' h1 _ ho => hn (by
      have e : k' = (k + 1) + (k' - (k + 1)) := by omega
      rw [e] at ho
      exact ho.le)
    rw [e0]
    by_cases c1 : (8000 : Int) < (sR9 mv R (k + 1) : Int)
    · rw [if_pos c1]
      exact ⟨k, rfl, h, by omega, stop (fun z => by have := z.1; omega)⟩
    · rw [if_neg c1]
      by_cases c2 : (100 : Int) < (sR9 tl R (k + 1) : Int)
      · rw [if_pos c2]
        exact ⟨k, rfl, h, by omega, stop (fun z => by have := z.2.1; omega)⟩
      · rw [if_neg c2]
        by_cases c3 : (sR9 tk R (k + 1) : Int) ≤ 7
        · rw [if_pos c3]
          exact ih (k + 1) fu (by omega) (by omega) ⟨by omega, by omega, by omega⟩
        · rw [if_neg c3]
          exact ⟨k, rfl, h, by omega, stop (fun z => by have := z.2.2; omega)⟩
end
end
section
/-! THE CLASS: a line: append() whole -/
section
variable {f ln R old be : Nat} {S : Nat → Nat × Nat × Nat} {G : xG_} {m : Nat × Nat} {mv tl tk mo : Nat → Nat}
theorem o_sr7 {x z L y : Nat} (h : S x = (2, 7, L)) (hz : z < L) (hy : S y = (1, 2, 8)) : cq_sr x (z : Int) y (S, G, m) = some (S, xup2 G x z (y : Int), m) := by
  unfold cq_sr
  show (if (S x).1 = 2 ∧ 5 ≤ (S x).2.1 ∧ 0 ≤ (z : Int) ∧ (z : Int) < ((S x).2.2 : Int) ∧ (y = 0 ∨ (S y).1 = 1 ∧ (S x).2.1 = (S y).2.1 + 5) then _ else _) = _
  rw [h, if_pos ⟨rfl, by show 5 ≤ 7; decide, by omega, by show (z : Int) < ((L : Nat) : Int); omega, by right; rw [hy]; exact ⟨rfl, rfl⟩⟩]
  rfl
/-- append() -/
theorem k_11 (hf : 600 < f) (ls : lnSt S ln) (lp : lnPt G ln) (h1 : G ln 1 = (R : Int)) (h2 : G ln 2 = (old : Int)) (hR : R + 1 < 520) (ho : old ≤ R) (hb : S be = (1, 2, 8)) (hbe : ∀ r, old < r → r ≤ R + 1 → mo r ≠ ln ∧ mo r ≠ ln + 1) (hbm : mo (R + 1) = be) (hm : ∀ r, old < r → r ≤ R → G (ln + 1) r = (mo r : Int) ∧ S (mo r) = (1, 2, 8)) (hg : ∀ r, old < r → r ≤ R + 1 → G (mo r) 4 = (mv r : Int) ∧ G (mo r) 5 = (tl r : Int) ∧ G (mo r) 6 = (tk r : Int)) (hbd : ∀ r, mv r ≤ 100000 ∧ tl r ≤ 100000 ∧ tk r ≤ 100000) :
    ∃ G' k, c11 f ln be (S, G, m) = some (S, G', m) ∧ (∀ a j, ¬ (a = ln ∧ (j = 1 ∨ j = 2)) → ¬ (a = ln + 1 ∧ j = R + 1) → G' a j = G a j) ∧ G' ln 1 = ((R + 1 : Nat) : Int) ∧ G' (ln + 1) (R + 1) = (be : Int) ∧ G' ln 2 = ((R + 1 - k : Nat) : Int) ∧ okK9 mv tl tk (R + 1) k ∧ k ≤ R + 1 - old ∧ ∀ k', k < k' → k' ≤ R + 1 - old → ¬ okK9 mv tl tk (R + 1) k' := by
  have w1 : xwr ((R : Int) + 1) = ((R + 1 : Nat) : Int) := by rw [xwr_g _ (by omega) (by omega)]; omega
  have z : ∀ a j, ¬ (a = ln ∧ j = 1) → ¬ (a = ln + 1 ∧ j = R + 1) → xup2 (xup2 G ln 1 ((R + 1 : Nat) : Int)) (ln + 1) (R + 1) (be : Int) a j = G a j := fun a j y1 y2 => by rw [xup2_n y2, xup2_n y1]
  have e0 : xup2 G ln 1 ((R + 1 : Nat) : Int) ln 0 = ((ln + 1 : Nat) : Int) := by rw [xup2_n (by omega)]; exact lp.1
  have v1 : xup2 (xup2 G ln 1 ((R + 1 : Nat) : Int)) (ln + 1) (R + 1) (be : Int) ln 1 = ((R + 1 : Nat) : Int) := by rw [xup2_n (by omega), xup2_s]
  obtain ⟨k, a1, a2, a3, a4⟩ := k_11l (f := f) (m := m) (R := R + 1) (old := old) (mv := mv) (tl := tl) (tk := tk) (mo := mo) (G := xup2 (xup2 G ln 1 ((R + 1 : Nat) : Int)) (ln + 1) (R + 1) (be : Int)) ls (by rw [z _ _ (by omega) (by omega)]; exact lp.1) (by rw [z _ _ (by omega) (by omega)]; exact h2) hR (by omega) (fun r r1 r2 => by
    obtain ⟨n1, n2⟩ := hbe r r1 r2
    obtain ⟨g4, g5, g6⟩ := hg r r1 r2
    refine ⟨?_, ?_, by rw [z _ _ (by omega) (by omega)]; exact g4, by rw [z _ _ (by omega) (by omega)]; exact g5, by rw [z _ _ (by omega) (by omega)]; exact g6⟩
    · by_cases cr : r = R + 1
      · rw [cr, xup2_s, hbm]
      · rw [z _ _ (by omega) (by omega)]; exact (hm r r1 (by omega)).1
    · by_cases cr : r = R + 1
      · rw [cr, hbm]; exact hb
      · exact (hm r r1 (by omega)).2) hbd (R + 1 - old) 0 f (by omega) (by omega) ⟨by show 0 ≤ 8000; decide, by show 0 ≤ 100; decide, by show 0 ≤ 7; decide⟩
  refine ⟨xup2 (xup2 (xup2 G ln 1 ((R + 1 : Nat) : Int)) (ln + 1) (R + 1) (be : Int)) ln 2 ((R + 1 - k : Nat) : Int), k, ?_, fun a j y1 y2 => ?_, ?_, ?_, xup2_s _ _ _ _, a2, a3, a4⟩
  · unfold c11
    have i1 : cq_gi 1 1 14 ln (S, xup2 G ln 1 ((R + 1 : Nat) : Int), m) = some ((R + 1 : Nat) : Int) := by rw [o_gi ls.1, xup2_s]
    have i2 : cq_gi 1 1 14 ln (S, xup2 (xup2 G ln 1 ((R + 1 : Nat) : Int)) (ln + 1) (R + 1) (be : Int), m) = some ((R + 1 : Nat) : Int) := by rw [o_gi ls.1, v1]
    rw [o_gi ls.1, Option.bind_some, h1, w1, o_p ls.1, Option.bind_some, o_gr ls.1 e0, Option.bind_some, i1, Option.bind_some, o_sr7 ls.2.1 hR hb, Option.bind_some, i2, Option.bind_some, Option.bind_some]
    exact a1
  · rw [xup2_n (by omega), z _ _ (by omega) y2]
  · rw [xup2_n (by omega)]; exact v1
  · rw [xup2_n (by omega), xup2_s]
end
end
section
/-! THE CLASS: round(), its joints -/
section
variable {f ln mo be hr q : Nat} {S : Nat → Nat × Nat × Nat} {G : xG_} {m : Nat × Nat}
theorem k_6 {r a b : Int} (ls : S ln = (1, 1, 14)) (h1 : G ln 1 = b) (h2 : G ln 2 = a) : c6 f ln r (S, G, m) = some (if a ≤ r ∧ r ≤ b then 1 else 0, (S, G, m)) := by
  unfold c6 c6_20 c6_21
  rw [o_gi ls, Option.bind_some, h2]
  by_cases c1 : r < a
  · rw [if_pos c1, if_neg (show ¬ (a ≤ r ∧ r ≤ b) by omega)]; rfl
  · rw [if_neg c1, o_gi ls, Option.bind_some, h1]
    by_cases c2 : b < r
    · rw [if_pos c2, if_neg (show ¬ (a ≤ r ∧ r ≤ b) by omega)]; rfl
    · rw [if_neg c2, if_pos (show a ≤ r ∧ r ≤ b by omega)]; rfl
/-- the start: which program the round is of -/
theorem sw_173s {e r : Nat} (hs : cSs S) (hp : cPs G) (h6 : G 64 6 = (hr : Int)) (hr4 : hr < 4) (hl : ln = 243 + 9 * hr) (h1 : G ln 1 = (r : Int)) (hrr : r < 520) (hm : G (ln + 1) r = (mo : Int)) (sm : S mo = (1, 2, 8)) (h0 : G mo 0 = (q : Int)) (h7 : G ln 7 = (e : Int)) : c173 f 64 (S, G, m) = if e = 0 then c173_43 f 64 ln mo 0 q (S, G, m) else c173_43 f 64 ln mo 1 e (S, G, m) := by
  have ls := lnSt_of hs hr4
  have lp := lnPt_of hp hr4
  have pl := p_ln hp hr4
  rw [← hl] at ls lp pl
  have e5 := k_5 (f := f) (m := m) ls lp h1 hrr hm
  have i1 : cq_is 1 14 ln (S, G, m) = some () := if_pos ls.1
  have g6 : cq_gi 11 6 17 64 (S, G, m) = some (hr : Int) := by rw [o_gi (s64 hs), h6]
  unfold c173
  rw [o_gr (y := 220) (s64 hs) (p64_5 hp), Option.bind_some, g6, Option.bind_some, o_ar (s220 hs) (by decide) hr4 pl, Option.bind_some, i1, Option.bind_some, e5, Option.bind_some, o_gr ls.1 h7, Option.bind_some]
  by_cases c : e = 0
  · rw [if_pos c, if_pos c]
    unfold c173_27
    rw [if_pos rfl, o_gr sm h0, Option.bind_some]
  · rw [if_neg c, if_neg c]
    unfold c173_27
    rw [if_neg (by decide), o_gr ls.1 h7, Option.bind_some]
/-- the round is refused -/
theorem sw_173f {x3 v : Int} {T : xT_} (hs : cSs S) (ls : S ln = (1, 1, 14)) (h8 : G 64 8 = v) (hv : 0 ≤ v ∧ v ≤ 100000) (e7 : c7 f ln (S, xup2 G 64 8 (v + 1), m) = some T) : c173_127 f 64 ln mo x3 0 (S, G, m) = some (-1, T) := by
  have w : xwr (v + 1) = v + 1 := xwr_g _ (by omega) (by omega)
  have i1 : cq_is 1 14 ln (S, xup2 G 64 8 (v + 1), m) = some () := if_pos ls
  unfold c173_127
  rw [if_neg (fun z => z rfl), o_gi (s64 hs), Option.bind_some, h8, w, o_p (s64 hs), Option.bind_some, i1, Option.bind_some, e7, Option.bind_some]
/-- the round is made -/
theorem sw_173m {x3 v c13 c14 : Int} {S1 S2 : Nat → Nat × Nat × Nat} {G1 G2 G3 G4 G5 : xG_} {m1 m2 : Nat × Nat} (hs1 : cSs S1) (hs2 : cSs S2) (hp : cPs G) (hp1 : cPs G1) (hp2 : cPs G2) (hs : cSs S) (s93 : S 93 = (1, 10, 18)) (s93' : S1 93 = (1, 10, 18)) (s932 : S2 93 = (1, 10, 18)) (ls : S2 ln = (1, 1, 14)) (sb : S2 be = (1, 2, 8)) (hbe : be ≠ 64) (e1 : c162 f 93 mo x3 (S, G, m) = some (be, (S1, G1, m1))) (h13 : G1 93 13 = c13) (e2 : c99 f 216 mo be ln c13 (S1, G1, m1) = some (S2, G2, m2)) (h14 : G2 93 14 = c14) (e3 : c10 f ln c14 x3 (S2, G2, m2) = some (S2, G3, m2)) (e4 : c11 f ln be (S2, G3, m2) = some (S2, G4, m2)) (e5 : c7 f ln (S2, G4, m2) = some (S2, G5, m2)) (h4 : G5 be 4 = v) {x5 : Int} (hx : ¬ x5 = 0) : c173_127 f 64 ln mo x3 x5 (S, G, m) = some (v, (S2, xup2 (xup2 G5 64 12 (mo : Int)) 64 13 (be : Int), m2)) := by
  have i1 : cq_is 10 18 93 (S, G, m) = some () := if_pos s93
  have i2 : cq_is 7 5 216 (S1, G1, m1) = some () := if_pos (s216 hs1)
  have i3 : ∀ G' : xG_, cq_is 1 14 ln (S2, G', m2) = some () := fun G' => if_pos ls
  have hv : xup2 (xup2 G5 64 12 (mo : Int)) 64 13 (be : Int) be 4 = v := by rw [xup2_n (by omega), xup2_n (by omega)]; exact h4
  unfold c173_127
  rw [if_pos hx, o_gr (y := 93) (s64 hs) (p64_3 hp), Option.bind_some, i1, Option.bind_some, e1, Option.bind_some, o_gr (y := 216) (s64 hs1) (p64_4 hp1), Option.bind_some, o_gr (y := 93) (s64 hs1) (p64_3 hp1), Option.bind_some, o_gi s93', Option.bind_some, h13, i2, Option.bind_some, e2, Option.bind_some, o_gr (y := 93) (s64 hs2) (p64_3 hp2), Option.bind_some, o_gi s932, Option.bind_some, h14, i3, Option.bind_some, e3, Option.bind_some, i3, Option.bind_some, e4, Option.bind_some, i3, Option.bind_some, e5, Option.bind_some, o_pr (s64 hs2), Option.bind_some, o_pr (s64 hs2), Option.bind_some, o_gi sb, Option.bind_some, hv]
end
end
section
/-! THE CLASS: round(), begin and tell -/
section
variable {f ln mo q : Nat} {S S1 : Nat → Nat × Nat × Nat} {G G1 : xG_} {m m1 : Nat × Nat}
theorem sw_173b {x3 b : Int} {r : Nat} {T : xT_} (hs : cSs S) (hp : cPs G) (hs1 : cSs S1) (hp1 : cPs G1) (s93 : S 93 = (1, 10, 18)) (s93' : S1 93 = (1, 10, 18)) (ls : S1 ln = (1, 1, 14)) (e1 : c145 f 93 mo q (S, G, m) = some (S1, G1, m1)) (h1 : G1 ln 1 = (r : Int)) (hr : r < 1000) (e2 : r + 1 < 520 → c146 f 93 ln (S1, G1, m1) = some (b, T)) : c173_43 f 64 ln mo x3 q (S, G, m) = if r + 1 < 520 then c173_88 f f 64 ln mo x3 q (if b = 0 then 0 else 1) 0 T else c173_88 f f 64 ln mo x3 q 0 0 (S1, G1, m1) := by
  have i1 : cq_is 10 18 93 (S, G, m) = some () := if_pos s93
  have i2 : cq_is 10 18 93 (S1, G1, m1) = some () := if_pos s93'
  have w : xwr ((r : Int) + 1) = ((r + 1 : Nat) : Int) := by rw [xwr_g _ (by omega) (by omega)]; omega
  unfold c173_43 c173_82 c173_83
  rw [o_gr (y := 93) (s64 hs) (p64_3 hp), Option.bind_some, i1, Option.bind_some, e1, Option.bind_some, o_gi ls, Option.bind_some, h1, w]
  by_cases c : r + 1 < 520
  · rw [if_neg (show ¬ (520 : Int) ≤ ((r + 1 : Nat) : Int) by omega), if_pos c, o_gr (y := 93) (s64 hs1) (p64_3 hp1), Option.bind_some, i2, Option.bind_some, e2 c, Option.bind_some]
    by_cases cb : b = 0
    · rw [if_pos cb, if_pos cb]
    · rw [if_neg cb, if_neg cb]
  · rw [if_pos (show (520 : Int) ≤ ((r + 1 : Nat) : Int) by omega), if_neg c]
/-- a round that can't be: its rings are not worked -/
theorem sw_173z {x3 x6 : Int} {fu : Nat} {T : xT_} : c173_88 f (fu + 1) 64 ln mo x3 q 0 x6 T = c173_127 f 64 ln mo x3 0 T := by
  show c173_88b (c173_88 f fu) f 64 _ _ _ _ _ _ _ = _
  unfold c173_88b
  rw [if_pos rfl]
end
end
section
/-! What a line keeps: rounds counted one by one, or by what the logs hold -/
/-- entries of one round -/
def lgC {α : Type} (l : List (Int × α)) (r : Nat) : Nat := (l.filter (fun a => decide (a.1 = (r : Int)))).length
theorem lgK_p1 {α : Type} {x : Int} : ∀ l : List (Int × α), (lgK (x - 1) l).length = (lgK x l).length + (l.filter (fun a => decide (a.1 = x))).length
  | [] => rfl
  | a :: l => by
    have ih := lgK_p1 (x := x) l
    unfold lgK at ih ⊢
    by_cases c1 : a.1 = x
    · rw [List.filter_cons_of_pos (by rw [decide_eq_true_iff]; omega), List.filter_cons_of_neg (by rw [decide_eq_true_iff]; omega), List.filter_cons_of_pos (by rw [decide_eq_true_iff]; exact c1), List.length_cons, List.length_cons]
      omega
    · by_cases c2 : x < a.1
      · rw [List.filter_cons_of_pos (by rw [decide_eq_true_iff]; omega), List.filter_cons_of_pos (by rw [decide_eq_true_iff]; exact c2), List.filter_cons_of_neg (by rw [decide_eq_true_iff]; exact c1), List.length_cons, List.length_cons]
        omega
      · rw [List.filter_cons_of_neg (by rw [decide_eq_true_iff]; omega), List.filter_cons_of_neg (by rw [decide_eq_true_iff]; exact c2), List.filter_cons_of_neg (by rw [decide_eq_true_iff]; exact c1)]
        exact ih
theorem lgK_sum {α : Type} {l : List (Int × α)} {g : Nat → Nat} {R old : Nat} (hR : ∀ a ∈ l, a.1 ≤ (R : Int)) (hg : ∀ r, old < r → r ≤ R → g r = lgC l r) : ∀ k, k ≤ R - old → (lgK ((R - k : Nat) : Int) l).length = sR9 g R k
  | 0, _ => by
    rw [Nat.sub_zero, lgK_nil hR]
    rfl
  | k + 1, h => by
    have ih := lgK_sum hR hg k (by omega)
    have e : ((R - (k + 1) : Nat) : Int) = ((R - k : Nat) : Int) - 1 := by omega
    rw [e, lgK_p1, ih]
    show _ = sR9 g R k + g (R - k)
    rw [hg (R - k) (by omega) (by omega)]
    rfl
/-- append() forgets as trim says -/
theorem tm_of {L : List pLg} {C : List pCg} {E : List pEg} {mv tl tk : Nat → Nat} {R old k : Nat} (ho : old ≤ R) (hL : ∀ a ∈ L, a.1 ≤ (R : Int)) (hC : ∀ a ∈ C, a.1 ≤ (R : Int)) (hE : ∀ a ∈ E, a.1 ≤ (R : Int)) (g1 : ∀ r, old < r → r ≤ R → mv r = lgC L r) (g2 : ∀ r, old < r → r ≤ R → tl r = lgC C r) (g3 : ∀ r, old < r → r ≤ R → tk r = lgC E r) (hk : k ≤ R - old) (h1 : okK9 mv tl tk R k) (h2 : ∀ k', k < k' → k' ≤ R - old → ¬ okK9 mv tl tk R k') : tmIs L C E (old : Int) ((R - k : Nat) : Int) := by
  have eq : ∀ k, k ≤ R - old → (tmOk L C E ((R - k : Nat) : Int) ↔ okK9 mv tl tk R k) := fun k hk => by
    unfold tmOk okK9
    rw [lgK_sum hL g1 k hk, lgK_sum hC g2 k hk, lgK_sum hE g3 k hk]
  refine ⟨by omega, (eq k hk).mpr h1, fun y y1 y2 hy => ?_⟩
  have e : y = ((R - (R - y.toNat) : Nat) : Int) := by omega
  rw [e] at hy
  exact h2 (R - y.toNat) (by omega) (by omega) ((eq _ (by omega)).mp hy)
end
section
/-! THE CLASS: the SHEET: settle(), the texts behind it -/
section
variable {be ln tp A sl n : Nat} {S0 S : Nat → Nat × Nat × Nat} {G0 G : xG_} {m : Nat × Nat} {u : Int} {X Y : fXs} {to lt : Nat → Nat}
/-- the texts that stand behind a round -/
def xN9 (G0 : xG_) (ln : Nat) (X Y : fXs) : fXs := fun c => if G0 (ln + 7) c = 0 then X c else Y c
def tN9 (G0 : xG_) (ln : Nat) (to lt : Nat → Nat) (c : Nat) : Nat := if G0 (ln + 7) c = 0 then to c else lt c
theorem tt_of (h : sI9 S0 G0 A sl be ln tp 72 S G m n u) (hA : 226 < A) (hT : cTt S0 G0 tp X to) (htp : tp < A ∧ tp ≠ be) (hto : ∀ c, c < 72 → to c + 2 < A ∧ (be < to c ∨ to c + 2 < be)) (hl : ∀ c, c < 72 → ¬ G0 (ln + 7) c = 0 → G0 (ln + 8) c = (lt c : Int) ∧ (lt c + 2 < A ∧ (be < lt c ∨ lt c + 2 < be)) ∧ (lt c = 0 ∧ Y c = none ∨ 226 < lt c ∧ ∃ e, Y c = some e ∧ cFm S0 G0 (lt c) e)) :
    ∃ tp2 : Nat, G be 2 = (tp2 : Int) ∧ (tp2 = tp ∧ n = 0 ∨ tp2 = A ∧ 0 < n) ∧ cTt S G tp2 (xN9 G0 ln X Y) (tN9 G0 ln to lt) := by
  obtain ⟨hS, hG, _, hc, _⟩ := h
  obtain ⟨t1, t2, t3⟩ := hT
  have fm : ∀ o e, o + 2 < A → (be < o ∨ o + 2 < be) → cFm S0 G0 o e → cFm S G o e := fun o e h1 h2 hF => hF.ge (fun a z1 z2 => hS a (by omega)) (fun a j z1 z2 => hG a j (by omega) (by omega))
  have one : ∀ c, c < 72 → ∀ v : Int, v = xT9 G0 ln tp 72 c → v = (tN9 G0 ln to lt c : Int) ∧ (tN9 G0 ln to lt c = 0 ∧ xN9 G0 ln X Y c = none ∨ 226 < tN9 G0 ln to lt c ∧ ∃ e, xN9 G0 ln X Y c = some e ∧ cFm S G (tN9 G0 ln to lt c) e) := fun c hc v hv => by
    unfold xT9 at hv
    unfold tN9 xN9
    by_cases q : G0 (ln + 7) c = 0
    · rw [if_neg (fun z => z.2 q)] at hv
      rw [if_pos q, if_pos q, hv]
      obtain ⟨a1, a2⟩ := t3 c hc
      refine ⟨a1, ?_⟩
      rcases a2 with w | ⟨w1, e, w2, w3⟩
      · exact .inl w
      · exact .inr ⟨w1, e, w2, fm _ _ (hto c hc).1 (hto c hc).2 w3⟩
    · rw [if_pos ⟨hc, q⟩] at hv
      rw [if_neg q, if_neg q, hv]
      obtain ⟨a1, ⟨a2, a3⟩, a4⟩ := hl c hc q
      refine ⟨a1, ?_⟩
      rcases a4 with w | ⟨w1, e, w2, w3⟩
      · exact .inl w
      · exact .inr ⟨w1, e, w2, fm _ _ a2 a3 w3⟩
  rcases hc with ⟨c1, c2, c3, c4, c5⟩ | ⟨c1, c2, c3, c4, c5, _⟩
  · refine ⟨tp, c2, .inl ⟨rfl, c1⟩, by rw [hS _ htp.1]; exact t1, t2, fun c hc => one c hc _ ?_⟩
    unfold xT9
    rw [if_neg (fun z => z.2 (c5 c hc)), hG _ _ htp.1 (fun z => htp.2 z.1)]
  · exact ⟨A, c2, .inr ⟨rfl, c1⟩, c3, hA, fun c hc => one c hc _ (c5 c hc)⟩
end
end
section
/-! No CELL is worked where nothing has changed -/
theorem cw_no {X : fXs} {s : pPg} {fr : Prop} {W : Nat → Int} {C D : fCs} {H : Nat → Prop} (hW : ∀ c, c < 72 → W c = -1) (hD : ∀ x, x < 72 → D x = C x) (hH : ∀ p, p < s.1.length → ¬ H p) (hf : ∀ c, c < 72 → X c ≠ none → ¬ fr) : ∀ c, c < 72 → ¬ qCw X s fr W C D H c := by
  rintro c hc ⟨h0, h | h | ⟨x, x1, _, x3⟩ | ⟨p, p1, _, p3⟩⟩
  · exact h (hW c hc)
  · exact hf c hc h0 h.1
  · exact x3 (hD x x1)
  · exact hH p p1 p3
end
section
/-! THE CLASS: the SHEET: settle() -/
theorem lnSt_of' {S S' : Nat → Nat × Nat × Nat} {ln : Nat} (h : lnSt S ln) (hS : ∀ a, ln ≤ a → a ≤ ln + 8 → S' a = S a) : lnSt S' ln := by
  obtain ⟨h0, h1, h2, h3, h4, h5, h6, h7, h8⟩ := h
  exact ⟨(hS _ (by omega) (by omega)).trans h0, (hS _ (by omega) (by omega)).trans h1, (hS _ (by omega) (by omega)).trans h2, (hS _ (by omega) (by omega)).trans h3, (hS _ (by omega) (by omega)).trans h4, (hS _ (by omega) (by omega)).trans h5, (hS _ (by omega) (by omega)).trans h6, (hS _ (by omega) (by omega)).trans h7, (hS _ (by omega) (by omega)).trans h8⟩
theorem lnPt_of' {G G' : xG_} {ln : Nat} (h : lnPt G ln) (hG : ∀ j, G' ln j = G ln j) : lnPt G' ln := by
  obtain ⟨h0, h1, h2, h3, h4, h5, h6, h7⟩ := h
  exact ⟨(hG _).trans h0, (hG _).trans h1, (hG _).trans h2, (hG _).trans h3, (hG _).trans h4, (hG _).trans h5, (hG _).trans h6, (hG _).trans h7⟩
theorem cTt.cg {S : Nat → Nat × Nat × Nat} {G : xG_} {tp : Nat} {X X' : fXs} {to to' : Nat → Nat} (h : cTt S G tp X to) (hX : ∀ c, c < 72 → X' c = X c) (ht : ∀ c, c < 72 → to' c = to c) : cTt S G tp X' to' := ⟨h.1, h.2.1, fun c hc => by rw [hX c hc, ht c hc]; exact h.2.2 c hc⟩
theorem tC9_c {G G' : xG_} {ln : Nat} : ∀ n, (∀ c, c < n → G' (ln + 7) c = G (ln + 7) c) → tC9 G' ln n = tC9 G ln n
  | 0, _ => rfl
  | n + 1, h => by
    show tC9 G' ln n + _ = tC9 G ln n + _
    rw [tC9_c n (fun c hc => h c (by omega)), h n (by omega)]
section
variable {f ah be ln tp ac A sl q rp nq : Nat} {S : Nat → Nat × Nat × Nat} {G : xG_} {s : pPg} {X X' Y : fXs} {to lt xr cr : Nat → Nat} {M : Nat → List pRw} {fr : Int} {ch : Nat} {C : fCs} {W : Nat → Int} {H : Nat → Prop}
theorem k_99s (hf : 700 < f) (hch : ch < 2147483648) (hs : cSs S) (hp : cPs G) (hA : 278 < A) (hb : S be = (1, 2, 8)) (hbA : 278 < be ∧ be < A) (hM : cMr S G A be q rp s xr cr M) (hP : cPgm S G q nq s) (hnq : nq ≤ be ∧ 226 < q ∧ (q + 1 < 243 ∨ 278 < q)) (hok : qOk s) (hoM : okM s M) (hl : ∀ p, p < s.1.length → (M p).length ≤ 100) (hrp : 278 < rp ∧ rp < A ∧ rp ≠ be) (hxr : ∀ p, p < s.1.length → (xr p + 2 < 216 ∨ 278 < xr p) ∧ (be < xr p ∨ xr p + 2 < be))
    (hT : cTt S G tp X to) (htp : tp < A ∧ tp ≠ be ∧ (tp < 243 ∨ 278 < tp)) (hto : ∀ c, c < 72 → to c + 2 < A ∧ (be < to c ∨ to c + 2 < be) ∧ (to c = 0 ∨ 278 < to c)) (h5 : G be 5 = 0) (h6 : G be 6 = fr)
    (ls : lnSt S ln) (lp : lnPt G ln) (hln : 242 < ln ∧ ln + 8 < 279) (ha : S ah = (1, 2, 8)) (haA : 226 < ah ∧ ah < A ∧ ah ≠ be) (h2 : G ah 2 = (tp : Int)) (h3 : G ah 3 = (ac : Int)) (hac : S ac = (2, 4, 72)) (hacA : 226 < ac ∧ ac < A ∧ ac ≠ be ∧ (ac < 243 ∨ 278 < ac)) (hC : okC C) (gC : ∀ x, x < 72 → G ac x = eC (C x))
    (hY : ∀ c, c < 72 → G (ln + 8) c = (lt c : Int) ∧ (lt c = 0 ∧ Y c = none ∨ 278 < lt c ∧ (lt c + 2 < A ∧ (be < lt c ∨ lt c + 2 < be)) ∧ ∃ e, Y c = some e ∧ cFm S G (lt c) e))
    (hX' : ∀ c, c < 72 → X' c = xN9 G ln X Y c) (hXg : ∀ c, 72 ≤ c → X' c = X c) (hoX : okX X') (hv : ∀ y, y < 72 → 0 ≤ G (ln + 3) y ∧ G (ln + 3) y ≤ 100000) (ht : ∀ y, ¬ G (ln + 7) y = 0 ↔ W y ≠ -1) (hH : ∀ p, p < s.1.length → (ch.testBit p = true ↔ H p))
    (hSm : ch = 0 → ¬ fr = 1 → ∀ x, x < 72 → fSh X s M x = C x) (hCn : (∀ c, c < 72 → X c = none) → ∀ x, x < 72 → C x = (0, 0)) (hH0 : (∀ p, ¬ H p) ∨ ¬ ch = 0) :
    ∃ (S' : Nat → Nat × Nat × Nat) (G' : xG_) (m' : Nat × Nat) (tp2 ac2 : Nat), c99 f 216 ah be ln (ch : Int) (S, G, (A, sl)) = some (S', G', m') ∧ (A ≤ m'.1 ∧ m'.1 ≤ A + 2 ∧ sl ≤ m'.2 ∧ m'.2 ≤ sl + 144) ∧ (∀ a, a < A → S' a = S a) ∧ (∀ a j, a < A → ¬ (a = be ∧ (j = 2 ∨ j = 3 ∨ j = 5)) → ¬ (a = 216 ∧ j ≤ 1) → ¬ (217 ≤ a ∧ a ≤ 219) → a ≠ ln + 3 → G' a j = G a j) ∧ G' be 5 = (tC9 G ln 72 : Int) ∧
      (G' be 2 = (tp2 : Int) ∧ (tp2 = tp ∨ A ≤ tp2 ∧ tp2 < m'.1) ∧ cTt S' G' tp2 X' (tN9 G ln to lt)) ∧ (G' be 3 = (ac2 : Int) ∧ (ac2 = ac ∨ A ≤ ac2 ∧ ac2 < m'.1) ∧ S' ac2 = (2, 4, 72) ∧ ∀ x, x < 72 → G' ac2 x = eC (fSh X' s M x)) ∧
      ∀ c, c < 72 → (qCw X' s (fr = 1) W C (fSh X' s M) H c → G' (ln + 3) c = G (ln + 3) c + 1) ∧ (¬ qCw X' s (fr = 1) W C (fSh X' s M) H c → G' (ln + 3) c = G (ln + 3) c) := by
  have hbb := ls
  obtain ⟨l0, _, _, l3, _, _, _, l7, l8⟩ := ls
  have lpp := lp
  obtain ⟨_, _, p6, _, _, _, p12, p13⟩ := lp
  have n2 : ∀ a j, ¬ (a = 216 ∧ j = 0) → ¬ (a = be ∧ (j = 2 ∨ j = 3)) → sG9 G be tp ac a j = G a j := fun a j y1 y2 => sG9_n y1 y2
  obtain ⟨g0, g2, g3⟩ := sG9_s (G := G) (be := be) (tp := tp) (ac := ac) (by omega)
  have hE : sE9 S (sG9 G be tp ac) A ah be ln tp := ⟨⟨hbA.2, haA.2.1, by omega, htp.1⟩, ⟨hb, ha, by rw [n2 _ _ (by omega) (by omega)]; exact h2, hT.1⟩, ⟨by omega, by omega, by omega, by omega, by omega⟩, ⟨l0, l7, l8, by rw [n2 _ _ (by omega) (by omega)]; exact p12, by rw [n2 _ _ (by omega) (by omega)]; exact p13⟩, fun y hy => by
      refine ⟨lt y, by rw [n2 _ _ (by omega) (by omega)]; exact (hY y hy).1, ?_⟩
      rcases (hY y hy).2 with w | ⟨w1, w2, e, w3, C0, F0, w4, _⟩
      · exact .inl w.1
      · exact .inr ⟨w4.1, by omega⟩, fun y hy => ⟨to y, by rw [n2 _ _ (by have := hT.2.1; omega) (by omega)]; exact (hT.2.2 y hy).1⟩⟩
  obtain ⟨fu, S1, G1, m1, n, u, e1, hI⟩ := k_99a (f := f) (ch := (ch : Int)) (sl := sl) (by omega) hs hb ha ⟨by omega, by omega, by omega⟩ h2 h3 h5 hE
  have fm : ∀ o e, o + 2 < A → (be < o ∨ o + 2 < be) → 278 < o → cFm S G o e → cFm S (sG9 G be tp ac) o e := fun o e y1 y2 y3 hF => hF.ge (fun _ _ _ => rfl) (fun a j z1 z2 => n2 _ _ (by omega) (by omega))
  have hT0 : cTt S (sG9 G be tp ac) tp X to := hT.lt htp.1 (fun c hc => (hto c hc).1) (fun _ _ => rfl) (fun c hc => n2 _ _ (by have := hT.2.1; omega) (by omega)) (fun c hc z a j y1 y2 => n2 _ _ (by omega) (by have := hto c hc; omega))
  have xe : ∀ c, c < 72 → sG9 G be tp ac (ln + 7) c = G (ln + 7) c := fun c hc => n2 _ _ (by omega) (by omega)
  obtain ⟨tp2, t1, t2, t3⟩ := tt_of hI (by omega) hT0 ⟨htp.1, htp.2.1⟩ (fun c hc => ⟨(hto c hc).1, (hto c hc).2.1⟩) (lt := lt) (Y := Y) (fun c hc _ => ⟨by rw [n2 _ _ (by omega) (by omega)]; exact (hY c hc).1, by
      rcases (hY c hc).2 with w | ⟨w1, w2, _⟩
      · omega
      · exact w2, by
      rcases (hY c hc).2 with w | ⟨w1, w2, e, w3, w4⟩
      · exact .inl w
      · exact .inr ⟨by omega, e, w3, fm _ _ w2.1 w2.2 w1 w4⟩⟩)
  have tN : ∀ c, c < 72 → tN9 (sG9 G be tp ac) ln to lt c = tN9 G ln to lt c := fun c hc => by unfold tN9; rw [xe c hc]
  have xN : ∀ c, c < 72 → X' c = xN9 (sG9 G be tp ac) ln X Y c := fun c hc => by rw [hX' c hc]; unfold xN9; rw [xe c hc]
  have hT1 : cTt S1 G1 tp2 X' (tN9 G ln to lt) := t3.cg xN (fun c hc => (tN c hc).symm)
  obtain ⟨i1, i2, ⟨i3, i4, i5⟩, i6, i7⟩ := hI
  rw [tC9_c 72 xe] at i5
  have hb1 : S1 be = (1, 2, 8) := by rw [i1 _ hbA.2]; exact hb
  have z1 : ∀ a j, a < A → ¬ (a = be ∧ (j = 2 ∨ j = 3 ∨ j = 5)) → ¬ (a = 216 ∧ j = 0) → G1 a j = G a j := fun a j y1 y2 y3 => by rw [i2 _ _ y1 (by omega), n2 _ _ y3 (by omega)]
  have h61 : G1 be 6 = fr := by rw [z1 _ _ hbA.2 (by omega) (by omega)]; exact h6
  have e2 := sw_99e (f := f) (ah := ah) (ln := ln) (u := u) (m := m1) (fu := fu) (ci := (ch : Int)) hb1 i3 h61
  have tto : ∀ c, c < 72 → tN9 G ln to lt c + 2 < A ∧ (be < tN9 G ln to lt c ∨ tN9 G ln to lt c + 2 < be) ∧ (tN9 G ln to lt c = 0 ∨ 278 < tN9 G ln to lt c) := fun c hc => by
    unfold tN9
    by_cases w : G (ln + 7) c = 0
    · rw [if_pos w]; exact hto c hc
    · rw [if_neg w]
      rcases (hY c hc).2 with w | ⟨w1, w2, _⟩
      · omega
      · exact ⟨w2.1, w2.2, .inr w1⟩
  have m1c : n = 0 ∧ m1 = (A, sl) ∧ tp2 = tp ∨ 0 < n ∧ m1 = (A + 1, sl + 72) ∧ tp2 = A := by
    rcases i6 with ⟨c1, c2, c3, _⟩ | ⟨c1, c2, _, c4, _⟩
    · rcases t2 with ⟨w1, _⟩ | ⟨_, w2⟩
      · exact .inl ⟨c1, c3, w1⟩
      · omega
    · rcases t2 with ⟨_, w2⟩ | ⟨w1, _⟩
      · omega
      · exact .inr ⟨c1, c4, w1⟩
  by_cases an : 0 < n ∨ (¬ u = 0 ∧ (¬ (ch : Int) = 0 ∨ fr = 1))
  · rw [if_pos an] at e2
    obtain ⟨A1, s1⟩ := m1
    have mb : A ≤ A1 ∧ A1 ≤ A + 1 ∧ sl ≤ s1 ∧ s1 ≤ sl + 72 ∧ tp2 < A1 ∧ tp2 ≠ be ∧ (tp2 < 243 ∨ 278 < tp2) ∧ (tp2 = tp ∨ A ≤ tp2 ∧ tp2 < A1) := by
      rcases m1c with ⟨_, w1, w2⟩ | ⟨_, w1, w2⟩
      · injection w1 with v1 v2
        omega
      · injection w1 with v1 v2
        omega
    clear i6 i7 t2 m1c hE
    have cs1 : cSs S1 := fun k hk => by rw [i1 _ (by omega)]; exact hs k hk
    have cp1 : cPs G1 := hp.ge (fun a j hz => z1 a j (by
      rcases hz with z | z | z | z | z | z | z | ⟨z, z1, z2, k, z3⟩ | z | z | z | ⟨k, z1, z2, z3⟩ <;> omega) (by
      rcases hz with z | z | z | z | z | z | z | ⟨z, z1, z2, k, z3⟩ | z | z | z | ⟨k, z1, z2, z3⟩ <;> omega) (by
      rcases hz with z | z | z | z | z | z | z | ⟨z, z1, z2, k, z3⟩ | z | z | z | ⟨k, z1, z2, z3⟩ <;> omega))
    have hM1 : cMr S1 G1 A1 be q rp s xr cr M := hM.ge2 mb.1 (fun a hz => i1 a (by
      rcases hz with z | z | ⟨p, hp, y1, y2⟩
      · omega
      · omega
      · have := (hM.2.2.2.2 p hp).2.1; omega)) (fun a j hz => by
      rcases hz with ⟨z, zj⟩ | z | ⟨p, hp, y1, y2⟩
      · exact z1 a j (by omega) (by omega) (by omega)
      · exact z1 a j (by omega) (by omega) (by omega)
      · have u1 := (hM.2.2.2.2 p hp).2.1
        have u2 := hxr p hp
        exact z1 a j (by omega) (by omega) (by omega))
    have hP1 : cPgm S1 G1 q nq s := hP.ge (Nat.le_refl _) (fun a y => i1 a (by omega)) (fun a j y1 y2 => z1 a j (by omega) (by omega) (by omega))
    have ls1 : lnSt S1 ln := lnSt_of' hbb (fun a y1 y2 => i1 a (by omega))
    have lp1 : lnPt G1 ln := lnPt_of' lpp (fun j => z1 _ _ (by omega) (by omega) (by omega))
    obtain ⟨S2, G2, b1, b2, b3, b4, b5, b6, b7⟩ := k_99z (f := f) (A := A1) (sl := s1) (X := X') (C := C) (W := W) (H := H) hf hch cs1 cp1 (by omega) hb1 ⟨hbA.1, by omega⟩ (by rw [i2 _ _ (by omega) (by omega)]; exact g0) hM1 hP1 hnq hok hoM hl ⟨hrp.1, by omega, hrp.2.2⟩ hxr t1 hT1 ⟨mb.2.2.2.2.1, mb.2.2.2.2.2.1, mb.2.2.2.2.2.2.1⟩ (fun c hc => by have := tto c hc; omega) hoX h61 ls1 lp1 hln (by rw [i1 _ haA.2.1]; exact ha) ⟨haA.1, by omega, haA.2.2⟩ (by rw [z1 _ _ haA.2.1 (by omega) (by omega)]; exact h3) (by rw [i1 _ hacA.2.1]; exact hac) ⟨hacA.1, by omega, hacA.2.2.1⟩ hC (fun x hx => by rw [z1 _ _ hacA.2.1 (by omega) (by omega)]; exact gC x hx) (fun y hy => by rw [z1 _ _ (by omega) (by omega) (by omega)]; exact hv y hy) (fun y => by rw [z1 _ _ (by omega) (by omega) (by omega)]; exact ht y) hH
    refine ⟨S2, G2, (A1 + 1, s1 + 72), tp2, A1, (e1.trans e2).trans b1, ⟨?_, ?_, ?_, ?_⟩, fun a y => by rw [b2 a (by omega), i1 a y], fun a j y1 y2 y3 y4 y5 => by rw [b4 a j (by omega) (by omega) (by omega) y4 y5, z1 a j y1 y2 (by omega)], ?_, ⟨?_, ?_, ?_⟩, ⟨b5, .inr ⟨mb.1, Nat.lt_succ_self _⟩, b3, b6⟩, fun c hc => ?_⟩
    · show A ≤ A1 + 1; omega
    · show A1 + 1 ≤ A + 2; omega
    · show sl ≤ s1 + 72; omega
    · show s1 + 72 ≤ sl + 144; omega
    · rw [b4 _ _ (by omega) (by omega) (by omega) (by omega) (by omega), i3, i5]
    · rw [b4 _ _ (by omega) (by omega) (by omega) (by omega) (by omega)]; exact t1
    · rcases mb.2.2.2.2.2.2.2 with w | w
      · exact .inl w
      · exact .inr ⟨w.1, Nat.lt_succ_of_lt w.2⟩
    · exact hT1.lt mb.2.2.2.2.1 (fun c hc => by have := tto c hc; omega) b2 (fun c hc => b4 _ _ mb.2.2.2.2.1 (by omega) (by have := hT1.2.1; omega) (by have := hT1.2.1; omega) (by omega)) (fun c hc w a j y1 y2 => by
        have := tto c hc
        exact b4 _ _ (by omega) (by omega) (by omega) (by omega) (by omega))
    · have := b7 c hc
      rw [z1 (ln + 3) c (by omega) (by omega) (by omega)] at this
      exact this
  · rw [if_neg an] at e2
    rcases m1c with ⟨w0, w1, w2⟩ | ⟨w0, _⟩
    · rw [w0] at i5 i3
      have nt : ∀ n, tC9 G ln n = 0 → ∀ c, c < n → G (ln + 7) c = 0 := by
        intro n
        induction n with
        | zero => intro _ c hc; omega
        | succ n ih =>
          intro h c hc
          have h' : tC9 G ln n + (if G (ln + 7) n = 0 then 0 else 1) = 0 := h
          by_cases q : G (ln + 7) n = 0
          · rw [if_pos q] at h'
            rcases (by omega : c = n ∨ c < n) with rfl | w
            · exact q
            · exact ih (by omega) c w
          · rw [if_neg q] at h'; omega
      have nt := nt 72 i5.symm
      have xx : X' = X := funext fun c => by
        by_cases q : c < 72
        · rw [hX' c q]; unfold xN9; rw [if_pos (nt c q)]
        · exact hXg c (by omega)
      have tt : ∀ c, c < 72 → tN9 G ln to lt c = to c := fun c hc => by unfold tN9; rw [if_pos (nt c hc)]
      have hW : ∀ c, c < 72 → W c = -1 := fun c hc => Classical.byContradiction fun z => (ht c).mpr z (nt c hc)
      have un : u = 0 → ∀ c, c < 72 → X c = none := fun hu c hc => by
        rcases i7 with ⟨k1, _⟩ | ⟨_, k2⟩
        · rw [hu] at k1; cases k1
        · have q0 : xT9 (sG9 G be tp ac) ln tp 72 c = 0 := Classical.byContradiction fun z => k2 ⟨c, hc, z⟩
          unfold xT9 at q0
          rw [if_neg (fun z => z.2 (by rw [xe c hc]; exact nt c hc)), (hT0.2.2 c hc).1] at q0
          rcases (hT0.2.2 c hc).2 with w | ⟨w, _⟩
          · exact w.2
          · omega
      have sm : ∀ x, x < 72 → fSh X s M x = C x := fun x hx => by
        by_cases hu : u = 0
        · rw [fSh_no (xx ▸ hoX) hx (un hu x hx), hCn (un hu) x hx]
        · by_cases hc : ch = 0
          · by_cases hfr : fr = 1
            · exact absurd (.inr ⟨hu, .inr hfr⟩) an
            · exact hSm hc hfr x hx
          · exact absurd (.inr ⟨hu, .inl (by omega)⟩) an
      have nc : ∀ c, c < 72 → ¬ qCw X' s (fr = 1) W C (fSh X' s M) H c := by
        by_cases hu : u = 0
        · exact fun c hc z => z.1 (by rw [xx]; exact un hu c hc)
        · have hc : ch = 0 := Classical.byContradiction fun z => an (.inr ⟨hu, .inl (by omega)⟩)
          have hfr : ¬ fr = 1 := fun z => an (.inr ⟨hu, .inr z⟩)
          refine cw_no hW (fun x hx => by rw [xx]; exact sm x hx) (fun p _ => ?_) (fun c hc _ => hfr)
          rcases hH0 with z | z
          · exact z p
          · exact absurd hc z
      refine ⟨S1, G1, m1, tp2, ac, e1.trans e2, ?_, i1, fun a j y1 y2 y3 y4 y5 => z1 a j y1 y2 (by omega), by rw [i3, i5], ⟨t1, .inl w2, hT1⟩, ⟨?_, .inl rfl, ?_, fun x hx => ?_⟩, fun c hc => ⟨fun z => absurd z (nc c hc), fun _ => z1 _ _ (by omega) (by omega) (by omega)⟩⟩
      · rw [w1]
        exact ⟨Nat.le_refl _, by show A ≤ A + 2; omega, Nat.le_refl _, by show sl ≤ sl + 144; omega⟩
      · rw [i2 _ _ hbA.2 (by omega)]; exact g3
      · rw [i1 _ hacA.2.1]; exact hac
      · rw [z1 _ _ hacA.2.1 (by omega) (by omega), gC x hx, xx, sm x hx]
    · exact absurd (.inl w0) an
end
end
section
/-! THE CLASS: the house: programs, moments -/
/-- no call changes what was made: rows that are never there, the moment nothing, all that calls made -/
def xSf (A : Nat) (G G' : xG_) : Prop := ∀ a j, a < A → (203 < a ∧ a < 216 ∨ 227 < a ∧ a < 243 ∨ 555 < a) → G' a j = G a j
def sfP (A a : Nat) : Prop := a < A ∧ (227 < a ∧ a < 243 ∨ 555 < a)
/-- the program of the text e stands at q -/
def cPx (T : List (List Int)) (S : Nat → Nat × Nat × Nat) (G : xG_) (A q e : Nat) : Prop := ∃ s nq, qPr (T.getD e []) = .inr s ∧ qOc s ∧ cPgm S G q nq s ∧ nq ≤ A ∧ (q = 229 ∧ nq ≤ 243 ∨ 555 < q)
/-- a moment of the class -/
def cMo (T : List (List Int)) (S : Nat → Nat × Nat × Nat) (G : xG_) (A : Nat) (P : Nat → Nat) (mp : Nat) (mo : sMo) : Prop :=
  ∃ (s : pPg) (M : Nat → List pRw) (rp : Nat) (xr cr : Nat → Nat) (tp ac : Nat) (to : Nat → Nat), isMo T mo s M ∧ okM8 s M ∧ cMr S G A mp (P mo.1) rp s xr cr M ∧ (G mp 2 = (tp : Int) ∧ cTt S G tp (xOf T mo.2.2.1) to) ∧ (G mp 3 = (ac : Int) ∧ S ac = (2, 4, 72) ∧ ∀ x, x < 72 → G ac x = eC (fSh (xOf T mo.2.2.1) s M x)) ∧ P mo.1 ≠ 0 ∧
    (sfP A mp ∧ sfP A rp ∧ sfP A tp ∧ sfP A ac) ∧ (∀ p, p < s.1.length → xr p + 2 < 216 ∨ 555 < xr p) ∧ ∀ c, c < 72 → to c = 0 ∨ 555 < to c ∧ to c + 2 < A
section
variable {T : List (List Int)} {S S' : Nat → Nat × Nat × Nat} {G G' : xG_} {A A' q e mp : Nat} {P P' : Nat → Nat} {mo : sMo}
theorem cPx.ge (h : cPx T S G A q e) (hA : A ≤ A') (hS : ∀ a, a < A → S' a = S a) (hG : xSf A G G') : cPx T S' G' A' q e := by
  obtain ⟨s, nq, a1, a2, a3, a4, a5⟩ := h
  exact ⟨s, nq, a1, a2, a3.ge (Nat.le_refl _) (fun a y => hS a (by omega)) (fun a j y1 y2 => hG a j (by omega) (by omega)), by omega, a5⟩
theorem cPx.app (t : List Int) (h : cPx T S G A q e) (he : e < T.length) : cPx (T ++ [t]) S G A q e := by
  obtain ⟨s, nq, a1, a2⟩ := h
  exact ⟨s, nq, by rw [getD_app _ he]; exact a1, a2⟩
theorem cMo.ge (h : cMo T S G A P mp mo) (hA : A ≤ A') (hS : ∀ a, a < A → S' a = S a) (hG : xSf A G G') : cMo T S' G' A' P mp mo := by
  obtain ⟨s, M, rp, xr, cr, tp, ac, to, a1, a2, a3, ⟨a4, a5⟩, ⟨a6, a7, a8⟩, a9, ⟨b1, b2, b3, b4⟩, b5, b6⟩ := h
  have up : ∀ {a : Nat}, sfP A a → sfP A' a := fun {a} z => ⟨Nat.lt_of_lt_of_le z.1 hA, z.2⟩
  have gm : ∀ {a : Nat} (j : Nat), sfP A a → G' a j = G a j := fun {a} j z => hG a j z.1 (.inr z.2)
  refine ⟨s, M, rp, xr, cr, tp, ac, to, a1, a2, a3.ge2 hA (fun a hz => hS a (by
    rcases hz with z | z | ⟨p, hp, y1, y2⟩
    · rw [z]; exact b1.1
    · rw [z]; exact b2.1
    · have := (a3.2.2.2.2 p hp).2.1; omega)) (fun a j hz => by
    rcases hz with ⟨z, zj⟩ | z | ⟨p, hp, y1, y2⟩
    · rw [z]; exact gm j b1
    · rw [z]; exact gm j b2
    · have u1 := (a3.2.2.2.2 p hp).2.1
      have u2 := b5 p hp
      exact hG a j (by omega) (by omega)), ⟨by rw [gm _ b1]; exact a4, a5.lt b3.1 (fun c hc => by
    have := b6 c hc
    have := b3
    unfold sfP at this
    omega) hS (fun c hc => gm _ b3) (fun c hc z a j y1 y2 => by
    have := b6 c hc
    exact hG a j (by omega) (by omega))⟩, ⟨by rw [gm _ b1]; exact a6, by rw [hS _ b4.1]; exact a7, fun x hx => by rw [gm _ b4]; exact a8 x hx⟩, a9, ⟨up b1, up b2, up b3, up b4⟩, b5, fun c hc => ?_⟩
  rcases b6 c hc with z | z
  · exact .inl z
  · exact .inr ⟨z.1, by omega⟩
theorem cMo.app (t : List Int) (h : cMo T S G A P mp mo) (hP : ∀ e, e < T.length → P' e = P e) : cMo (T ++ [t]) S G A P' mp mo := by
  obtain ⟨s, M, rp, xr, cr, tp, ac, to, a1, a2, a3, ⟨a4, a5⟩, ⟨a6, a7, a8⟩, a9, b⟩ := h
  have hk := a1.2.2.2.2.2.2.1
  have e1 := hP _ a1.1
  have e2 := xOf_app t hk
  refine ⟨s, M, rp, xr, cr, tp, ac, to, a1.app t, a2, by rw [e1]; exact a3, ⟨a4, by rw [e2]; exact a5⟩, ⟨a6, a7, by rw [e2]; exact a8⟩, by rw [e1]; exact a9, b⟩
end
/-- programs: P tells where that of the text e stands (0: none) -/
def cEd (T : List (List Int)) (S : Nat → Nat × Nat × Nat) (G : xG_) (A : Nat) (P : Nat → Nat) : Prop := (∀ e, P e ≠ 0 → e < T.length ∧ cPx T S G A (P e) e ∧ 0 ≤ G (P e) 0 ∧ G (P e) 0 ≤ G 64 7) ∧ ∀ e e', P e ≠ 0 → P e' ≠ 0 → G (P e) 0 = G (P e') 0 → e = e'
/-- the texts that CELLS were told -/
def cCt (T : List (List Int)) (S : Nat → Nat × Nat × Nat) (G : xG_) (A ln : Nat) (W : Nat → Int) : Prop := ∃ lt : Nat → Nat, ∀ c, c < 72 → (G (ln + 7) c = 0 ↔ W c = -1) ∧ G (ln + 8) c = (lt c : Int) ∧ (lt c = 0 ∧ xOf T (fun c => (W c).toNat) c = none ∨ 555 < lt c ∧ lt c + 2 < A ∧ ∃ e, xOf T (fun c => (W c).toNat) c = some e ∧ cFm S G (lt c) e)
/-- rounds of a line -/
def cRo (T : List (List Int)) (S : Nat → Nat × Nat × Nat) (G : xG_) (A : Nat) (P : Nat → Nat) (ln : Nat) (H : Nat → sMo) (b k ed : Nat) : Prop := (G ln 1 = ((b + k : Nat) : Int) ∧ G ln 2 = (b : Int)) ∧ ∃ mp : Nat → Nat, (∀ r, b ≤ r → r ≤ b + k → G (ln + 1) r = (mp r : Int) ∧ cMo T S G A P (mp r) (H r) ∧ ∃ x : Nat, G (mp r) 7 = (x : Int) ∧ x + (hCat (hEg H) r (b + k - r)).length = ed) ∧ ∀ r, b < r → r ≤ b + k → G (mp r) 4 = ((hLg H r).length : Int) ∧ G (mp r) 5 = ((hCg H r).length : Int) ∧ G (mp r) 6 = ((hEg H r).length : Int)
/-- a line of the class -/
def cLn (T : List (List Int)) (S : Nat → Nat × Nat × Nat) (G : xG_) (A : Nat) (P : Nat → Nat) (ln : Nat) (l : sLn) : Prop :=
  cRo T S G A P ln l.1 l.2.1.1 l.2.1.2.1 l.2.1.2.2 ∧ ((∀ p, p < 16 → G (ln + 2) p = l.2.2.1.1 p) ∧ ∀ c, c < 72 → G (ln + 3) c = l.2.2.1.2.1 c) ∧
  (l.2.2.2.1.2.1 = -1 ∧ G ln 7 = 0 ∨ 0 ≤ l.2.2.2.1.2.1 ∧ P l.2.2.2.1.2.1.toNat ≠ 0 ∧ G ln 7 = ((P l.2.2.2.1.2.1.toNat : Nat) : Int)) ∧ (∃ s, qPr (T.getD (lnE l) []) = .inr s ∧ cPn G ln s l.2.2.2.1.1) ∧ cCt T S G A ln l.2.2.2.1.2.2 ∧ G ln 3 = l.2.2.2.2.1 ∧ (l.2.2.2.2.1 ≠ -1 → G ln 4 = l.2.2.2.2.2)
/-- rows of answers; where there is none, their width is nothing -/
def cKw (S : Nat → Nat × Nat × Nat) (G : xG_) (an : Nat) (kp : Nat × List (List Int)) : Prop := ∃ W : Nat, (kp.2 ≠ [] → W = kp.1) ∧ cRw S G an W 500 (kp.2.map (fun v => (v, 0)))
theorem cKw.ge {S S' : Nat → Nat × Nat × Nat} {G G' : xG_} {an : Nat} {kp : Nat × List (List Int)} (h : cKw S G an kp) (hS : ∀ a, an ≤ a → a ≤ an + 2 → S' a = S a) (h0 : ∀ j, G' an j = G an j) (h1 : ∀ j, G' (an + 1) j = G (an + 1) j) (h2 : ∀ j, G' (an + 2) j = G (an + 2) j) : cKw S' G' an kp := by
  obtain ⟨W, w1, w2⟩ := h
  exact ⟨W, w1, w2.ge hS h0 h1 h2⟩
/-- what answers are kept -/
def cKp (S : Nat → Nat × Nat × Nat) (G : xG_) (kp : Nat × List (List Int)) : Prop := ∃ an sp : Nat, (an = 221 ∧ sp = 224 ∨ an = 224 ∧ sp = 221) ∧ G 64 10 = (an : Int) ∧ G 64 11 = (sp : Int) ∧ cKw S G an kp
/-- what merge met -/
def cMt (G : xG_) (mt : Int × List Int) : Prop := G 64 15 = mt.1 ∧ G 64 16 = (mt.2.length : Int) ∧ mt.2.length ≤ 4 ∧ ∀ j, j < mt.2.length → G 227 j = mt.2.getD j 0
/-- the round whose edits are told -/
def cEe (T : List (List Int)) (S : Nat → Nat × Nat × Nat) (G : xG_) (A : Nat) (P : Nat → Nat) (l : sLn) : Prop := (l.2.2.1.2.2 = false → G 64 13 = 0) ∧ (l.2.2.1.2.2 = true → ∃ ea eb : Nat, G 64 12 = (ea : Int) ∧ G 64 13 = (eb : Int) ∧ cMo T S G A P ea (l.1 (l.2.1.1 + l.2.1.2.1 - 1)) ∧ cMo T S G A P eb (lMo l))
/-- the class stands at the house's state; n calls were done -/
def cHs (S : Nat → Nat × Nat × Nat) (G : xG_) (A : Nat) (H : sHs) (n : Nat) : Prop := match H with
  | (T, lns, hr, tx, kp, mt, pl, rf) => (cSs S ∧ cPs G ∧ cEm G ∧ 555 < A) ∧ (∃ P, cEd T S G A P ∧ (∀ y, y < 4 → cLn T S G A P (243 + 9 * y) (lns y)) ∧ cEe T S G A P (lns hr)) ∧ (hr < 4 ∧ G 64 6 = (hr : Int)) ∧ (0 ≤ G 64 7 ∧ G 64 7 ≤ n) ∧ G 64 8 = rf ∧ G 64 9 = pl ∧ cTx G (tBt tx) tx.length ∧ cKp S G kp ∧ cMt G mt
end
section
/-! THE CLASS: the house: what stays -/
section
variable {T : List (List Int)} {S S' : Nat → Nat × Nat × Nat} {G G' : xG_} {A A' ln : Nat} {P P' : Nat → Nat} {l : sLn} {H : Nat → sMo} {b k ed n n' : Nat} {W : Nat → Int} {kp : Nat × List (List Int)} {mt : Int × List Int}
theorem cEd.ge (h : cEd T S G A P) (hA : A ≤ A') (hS : ∀ a, a < A → S' a = S a) (hG : xSf A G G') (h7 : G 64 7 ≤ G' 64 7) : cEd T S' G' A' P := by
  have g0 : ∀ e, P e ≠ 0 → G' (P e) 0 = G (P e) 0 := fun e he => by
    obtain ⟨_, ⟨s, nq, _, _, a3, a4, a5⟩, _⟩ := h.1 e he
    have := a3.2.2.2.2.2.2.2.2
    exact hG _ _ (by omega) (by omega)
  refine ⟨fun e he => ?_, fun e e' he he' z => h.2 e e' he he' (by rw [← g0 e he, ← g0 e' he']; exact z)⟩
  obtain ⟨a1, a2, a3, a4⟩ := h.1 e he
  exact ⟨a1, a2.ge hA hS hG, by rw [g0 e he]; exact a3, by rw [g0 e he]; omega⟩
theorem cRo.ge (h : cRo T S G A P ln H b k ed) (hA : A ≤ A') (hS : ∀ a, a < A → S' a = S a) (hG : xSf A G G') (hl : G' ln 1 = G ln 1 ∧ G' ln 2 = G ln 2 ∧ ∀ j, b ≤ j → j ≤ b + k → G' (ln + 1) j = G (ln + 1) j) : cRo T S' G' A' P ln H b k ed := by
  obtain ⟨⟨h1, h2⟩, mp, h3, h4⟩ := h
  have gm : ∀ r, b ≤ r → r ≤ b + k → ∀ j, G' (mp r) j = G (mp r) j := fun r r1 r2 j => by
    obtain ⟨_, ⟨s, M, rp, xr, cr, tp, ac, to, _, _, _, _, _, _, ⟨z, _⟩, _⟩, _⟩ := h3 r r1 r2
    exact hG _ _ z.1 (.inr z.2)
  refine ⟨⟨by rw [hl.1]; exact h1, by rw [hl.2.1]; exact h2⟩, mp, fun r r1 r2 => ?_, fun r r1 r2 => ?_⟩
  · obtain ⟨a1, a2, x, a3, a4⟩ := h3 r r1 r2
    exact ⟨by rw [hl.2.2 r r1 r2]; exact a1, a2.ge hA hS hG, x, by rw [gm r r1 r2]; exact a3, a4⟩
  · have := h4 r r1 r2
    rw [gm r (by omega) r2, gm r (by omega) r2, gm r (by omega) r2]
    exact this
theorem cRo.app (t : List Int) (h : cRo T S G A P ln H b k ed) (hP : ∀ e, e < T.length → P' e = P e) : cRo (T ++ [t]) S G A P' ln H b k ed := by
  obtain ⟨h0, mp, h3, h4⟩ := h
  refine ⟨h0, mp, fun r r1 r2 => ?_, h4⟩
  obtain ⟨a1, a2, a3⟩ := h3 r r1 r2
  exact ⟨a1, a2.app t hP, a3⟩
theorem cCt.ge (h : cCt T S G A ln W) (hA : A ≤ A') (hS : ∀ a, a < A → S' a = S a) (hG : xSf A G G') (hl : ∀ c, c < 72 → G' (ln + 7) c = G (ln + 7) c ∧ G' (ln + 8) c = G (ln + 8) c) : cCt T S' G' A' ln W := by
  obtain ⟨lt, h⟩ := h
  refine ⟨lt, fun c hc => ?_⟩
  obtain ⟨a1, a2, a3⟩ := h c hc
  refine ⟨by rw [(hl c hc).1]; exact a1, by rw [(hl c hc).2]; exact a2, ?_⟩
  rcases a3 with z | ⟨z1, z2, e, z3, z4⟩
  · exact .inl z
  · exact .inr ⟨z1, by omega, e, z3, z4.ge (fun a y1 y2 => hS a (by omega)) (fun a j y1 y2 => hG a j (by omega) (by omega))⟩
theorem xOf_1 {K K' : Nat → Nat} {c : Nat} (h : K c = K' c) : xOf T K c = xOf T K' c := by
  unfold xOf
  rw [h]
theorem xOf_a1 {K : Nat → Nat} {c : Nat} (t : List Int) (h : K c < T.length) : xOf (T ++ [t]) K c = xOf T K c := by
  unfold xOf
  rw [getD_app _ h]
theorem cCt.app (t : List Int) (h : cCt T S G A ln W) (hW : ∀ c, c < 72 → (W c).toNat < T.length) : cCt (T ++ [t]) S G A ln W := by
  obtain ⟨lt, h⟩ := h
  refine ⟨lt, fun c hc => ?_⟩
  rw [xOf_a1 (K := fun c => (W c).toNat) t (hW c hc)]
  exact h c hc
theorem cLn.ge (h : cLn T S G A P ln l) (hA : A ≤ A') (hS : ∀ a, a < A → S' a = S a) (hG : xSf A G G') (hl : ∀ a j, ln ≤ a → a ≤ ln + 8 → G' a j = G a j) : cLn T S' G' A' P ln l := by
  obtain ⟨h1, ⟨h2, h3⟩, h4, ⟨s, h5, h6⟩, h7, h8, h9⟩ := h
  refine ⟨h1.ge hA hS hG ⟨hl _ _ (by omega) (by omega), hl _ _ (by omega) (by omega), fun j _ _ => hl _ _ (by omega) (by omega)⟩, ⟨fun p hp => by rw [hl _ _ (by omega) (by omega)]; exact h2 p hp, fun c hc => by rw [hl _ _ (by omega) (by omega)]; exact h3 c hc⟩, by rw [hl _ _ (by omega) (by omega)]; exact h4, ⟨s, h5, h6.ge (fun a j y1 y2 => hl a j (by omega) (by omega))⟩, h7.ge hA hS hG (fun c _ => ⟨hl _ _ (by omega) (by omega), hl _ _ (by omega) (by omega)⟩), by rw [hl _ _ (by omega) (by omega)]; exact h8, by rw [hl _ _ (by omega) (by omega)]; exact h9⟩
theorem cEe.ge (h : cEe T S G A P l) (hA : A ≤ A') (hS : ∀ a, a < A → S' a = S a) (hG : xSf A G G') (h1 : G' 64 12 = G 64 12 ∧ G' 64 13 = G 64 13) : cEe T S' G' A' P l := by
  obtain ⟨a, b⟩ := h
  refine ⟨fun z => by rw [h1.2]; exact a z, fun z => ?_⟩
  obtain ⟨ea, eb, b1, b2, b3, b4⟩ := b z
  exact ⟨ea, eb, by rw [h1.1]; exact b1, by rw [h1.2]; exact b2, b3.ge hA hS hG, b4.ge hA hS hG⟩
theorem cEe.app (t : List Int) (h : cEe T S G A P l) (hP : ∀ e, e < T.length → P' e = P e) : cEe (T ++ [t]) S G A P' l := by
  obtain ⟨a, b⟩ := h
  refine ⟨a, fun z => ?_⟩
  obtain ⟨ea, eb, b1, b2, b3, b4⟩ := b z
  exact ⟨ea, eb, b1, b2, b3.app t hP, b4.app t hP⟩
theorem cKp.ge (h : cKp S G kp) (hS : ∀ a, a < 227 → S' a = S a) (hG : ∀ a j, 221 ≤ a → a ≤ 226 → G' a j = G a j) (h1 : G' 64 10 = G 64 10 ∧ G' 64 11 = G 64 11) : cKp S' G' kp := by
  obtain ⟨an, sp, a1, a2, a3, a4⟩ := h
  exact ⟨an, sp, a1, by rw [h1.1]; exact a2, by rw [h1.2]; exact a3, a4.ge (fun a y1 y2 => hS a (by omega)) (fun j => hG _ _ (by omega) (by omega)) (fun j => hG _ _ (by omega) (by omega)) (fun j => hG _ _ (by omega) (by omega))⟩
theorem cMt.ge (h : cMt G mt) (h1 : G' 64 15 = G 64 15 ∧ G' 64 16 = G 64 16) (h2 : ∀ j, G' 227 j = G 227 j) : cMt G' mt := ⟨by rw [h1.1]; exact h.1, by rw [h1.2]; exact h.2.1, h.2.2.1, fun j hj => by rw [h2]; exact h.2.2.2 j hj⟩
theorem cEm.ge (h : cEm G) (hG : ∀ a j, 203 < a → a < 216 → G' a j = G a j) : cEm G' := fun w h1 h4 => by
  rw [hG _ _ (by omega) (by omega), hG _ _ (by omega) (by omega)]
  exact h w h1 h4
/-- calls that change scratch cells alone -/
theorem cHs.ge {H : sHs} (h : cHs S G A H n) (hn : n ≤ n') (hA : A ≤ A') (hS : ∀ a, a < A → S' a = S a) (hp : cPs G') (hG : ∀ a j, a < A → (a = 64 ∧ 6 ≤ j ∨ a = 65 ∧ j = 1 ∨ a = 66 ∨ 203 < a ∧ a < 216 ∨ 220 < a) → G' a j = G a j) : cHs S' G' A' H n' := by
  obtain ⟨T, lns, hr, tx, kp, mt, pl, rf⟩ := H
  obtain ⟨⟨a1, a2, a3, a4⟩, ⟨P, b1, b2, b3⟩, ⟨c1, c2⟩, ⟨c3, c4⟩, c5, c6, c7, c8, c9⟩ := h
  have g6 : ∀ j, 6 ≤ j → G' 64 j = G 64 j := fun j y => hG _ _ (by omega) (by omega)
  have sf : xSf A G G' := fun a j y1 y2 => hG a j y1 (by omega)
  refine ⟨⟨fun k hk => by rw [hS _ (by omega)]; exact a1 k hk, hp, a3.ge (fun a j y1 y2 => hG a j (by omega) (by omega)), by omega⟩, ⟨P, b1.ge hA hS sf (by rw [g6 _ (by omega)]; exact Int.le_refl _), fun y hy => (b2 y hy).ge hA hS sf (fun a j y1 y2 => hG a j (by omega) (by omega)), b3.ge hA hS sf ⟨g6 _ (by omega), g6 _ (by omega)⟩⟩, ⟨c1, by rw [g6 _ (by omega)]; exact c2⟩, ⟨by rw [g6 _ (by omega)]; exact c3, by rw [g6 _ (by omega)]; omega⟩, by rw [g6 _ (by omega)]; exact c5, by rw [g6 _ (by omega)]; exact c6, c7.ge (hG _ _ (by omega) (by omega)) (fun p => hG _ _ (by omega) (by omega)), c8.ge (fun a y => hS a (by omega)) (fun a j y1 y2 => hG a j (by omega) (by omega)) ⟨g6 _ (by omega), g6 _ (by omega)⟩, c9.ge ⟨g6 _ (by omega), g6 _ (by omega)⟩ (fun j => hG _ _ (by omega) (by omega))⟩
end
end
section
/-! THE CLASS: small questions -/
section
variable {f A q mp rp nx nq hr n sl : Nat} {S : Nat → Nat × Nat × Nat} {G : xG_} {m : Nat × Nat} {s : pPg} {xr cr : Nat → Nat} {M M' : Nat → List pRw} {T : List (List Int)} {P : Nat → Nat} {mo : sMo} {lns : Nat → sLn} {tx : List Int} {kp : Nat × List (List Int)} {mt : Int × List Int} {pl rf : Int}
theorem o_a {x kk L z : Nat} (h : S x = (2, kk, L)) (hz : z < L) : cq_a kk x (z : Int) (S, G, m) = some (G x z) := by
  unfold cq_a
  simp only [h]
  rw [if_pos ⟨trivial, trivial, by omega, by omega⟩, Int.toNat_natCast]
theorem cMr.cg (h : cMr S G nx mp q rp s xr cr M) (e : ∀ p, p < s.1.length → M p = M' p) : cMr S G nx mp q rp s xr cr M' := ⟨h.1, h.2.1, h.2.2.1, h.2.2.2.1, fun p hp => by rw [← e p hp]; exact h.2.2.2.2 p hp⟩
theorem okM8.cg (h : okM8 s M) (e : ∀ p, p < s.1.length → M p = M' p) : okM8 s M' := fun p hp => by rw [← e p hp]; exact h p hp
/-- a moment's program and rows -/
theorem cMo.pm (h : cMo T S G A P mp mo) (hE : cEd T S G A P) (hi : isMo T mo s M) : ∃ (rp : Nat) (xr cr : Nat → Nat) (nq : Nat), cMr S G A mp (P mo.1) rp s xr cr M ∧ cPgm S G (P mo.1) nq s ∧ nq ≤ A ∧ qOc s ∧ okM8 s M ∧ (P mo.1 = 229 ∧ nq ≤ 243 ∨ 555 < P mo.1) ∧ sfP A mp ∧ sfP A rp ∧ ∀ p, p < s.1.length → xr p + 2 < 216 ∨ 555 < xr p := by
  obtain ⟨s1, M1, rp, xr, cr, tp, ac, to, a1, a2, a3, _, _, a4, ⟨a5, a6, _⟩, a7, _⟩ := h
  obtain ⟨e1, e2⟩ := isMo_u a1 hi
  subst e1
  obtain ⟨_, ⟨s2, nq, c1, c2, c3, c4, c5⟩, _⟩ := hE.1 _ a4
  have e3 : s1 = s2 := by
    have := hi.2.1
    rw [c1] at this
    injection this with z
    exact z.symm
  subst e3
  exact ⟨rp, xr, cr, nq, a3.cg e2, c3, c4, c2, a2.cg e2, c5, a5, a6, a7⟩
theorem k_15 {p i col : Int} (hok : qOk s) (hM : cMr S G nx mp q rp s xr cr M) (hP : cPgm S G q nq s) : c15 f mp p i col (S, G, m) = some (if (((0 ≤ p ∧ p < s.1.length) ∧ 0 ≤ i ∧ i < (M p.toNat).length) ∧ 0 ≤ col ∧ col < qN s p.toNat) then 1 else 0, (S, G, m)) := by
  obtain ⟨h1, h2, h3, h4, h5⟩ := hM
  obtain ⟨p1, p2, p3, p4, _⟩ := hP
  have h53 : c15_53 f (S, G, m) = some (0, (S, G, m)) := by unfold c15_53 c15_54; rw [if_pos (.inl rfl)]
  have h54 : c15_54 f 1 (S, G, m) = some (1, (S, G, m)) := by unfold c15_54; rw [if_pos (.inr rfl)]
  have ng : ∀ {P : Prop} [Decidable P], ¬ P → (some ((0 : Int), (S, G, m)) : Option (Int × xT_)) = some (if P then 1 else 0, (S, G, m)) := fun {P} _ hP => by rw [if_neg hP]
  unfold c15
  by_cases c1 : p < 0
  · rw [if_pos c1, h53, if_neg (fun z => by have := z.1.1.1; omega)]
  · rw [if_neg c1, o_gr h1 h2, Option.bind_some, o_gi p1.1, Option.bind_some, p3.1]
    by_cases c2 : (s.1.length : Int) ≤ p
    · rw [if_pos c2, h53, if_neg (fun z => by have := z.1.1.2; omega)]
    · rw [if_neg c2]
      obtain ⟨x, rfl⟩ : ∃ x : Nat, p = (x : Int) := ⟨p.toNat, by omega⟩
      have hx : x < s.1.length := by omega
      obtain ⟨b1, b2, b3⟩ := h5 x hx
      rw [Int.toNat_natCast]
      by_cases c3 : i < 0
      · rw [if_pos c3, h53, if_neg (fun z => by have := z.1.2.1; omega)]
      · rw [if_neg c3, o_gr h1 h3, Option.bind_some, o_ar h4 (by decide) hx b1, Option.bind_some, o_gi b3.1, Option.bind_some, b3.2.2.2.1.2.1]
        by_cases c4 : ((M x).length : Int) ≤ i
        · rw [if_pos c4, h53, if_neg (fun z => by have := z.1.2.2; omega)]
        · rw [if_neg c4]
          by_cases c5 : col < 0
          · rw [if_pos c5, h53, if_neg (fun z => by have := z.2.1; omega)]
          · have w := qN_c hok.1 x
            rw [if_neg c5, Option.bind_some, o_gr p1.1 p2.2.1, Option.bind_some, o_a p1.2.2.1 (by have := p3.2.1; omega), Option.bind_some, p4 x (by have := p3.2.1; omega), ← w.1]
            by_cases c6 : ((qN s x : Nat) : Int) ≤ col
            · rw [if_pos c6, h53, if_neg (fun z => by have := z.2.2; omega)]
            · rw [if_neg c6, h54, if_pos ⟨⟨⟨by omega, by omega⟩, by omega, by omega⟩, by omega, by omega⟩]
/-- the line in use, its latest moment -/
theorem hs_ln (h : cHs S G A (T, lns, hr, tx, kp, mt, pl, rf) n) (hb : (lns hr).2.1.1 + (lns hr).2.1.2.1 < 520) : ∃ (P : Nat → Nat) (mp : Nat), cEd T S G A P ∧ cMo T S G A P mp (lMo (lns hr)) ∧ cLn T S G A P (243 + 9 * hr) (lns hr) ∧ lnSt S (243 + 9 * hr) ∧ lnPt G (243 + 9 * hr) ∧ G 220 hr = ((243 + 9 * hr : Nat) : Int) ∧ (∀ (f : Nat) (m : Nat × Nat), c5 f (243 + 9 * hr) (S, G, m) = some (mp, (S, G, m))) ∧ hr < 4 ∧ G 64 6 = (hr : Int) ∧ G (mp) 7 = ((lns hr).2.1.2.2 : Int) := by
  obtain ⟨⟨a1, a2, a3, a4⟩, ⟨P, b1, b2, b3⟩, ⟨c1, c2⟩, _⟩ := h
  have l := b2 hr c1
  obtain ⟨⟨⟨l1, l2⟩, mp, l3, l4⟩, _⟩ := id l
  obtain ⟨d1, d2, x, d3, d4⟩ := l3 _ (Nat.le_add_right _ _) (Nat.le_refl _)
  rw [Nat.sub_self] at d4
  have d4' : x + 0 = (lns hr).2.1.2.2 := d4
  refine ⟨P, mp _, b1, d2, l, lnSt_of a1 c1, lnPt_of a2 c1, p_ln a2 c1, fun f m => k_5 (lnSt_of a1 c1) (lnPt_of a2 c1) l1 hb d1, c1, c2, by rw [d3, ← d4']; rfl⟩
/-- value() -/
theorem k_176 {p i col v t : Int} (h : cHs S G A (T, lns, hr, tx, kp, mt, pl, rf) n) (hb : (lns hr).2.1.1 + (lns hr).2.1.2.1 < 520) (hst : stVa T (lns hr) p i col t v) : (t = 0 ∧ c176 f 64 p i col (S, G, m) = some (.inr v, (S, G, m))) ∨ (t = 1 ∧ c176 f 64 p i col (S, G, m) = some (.inl 1, cq_ex (S, G, m))) := by
  obtain ⟨P, mp, b1, b2, b3, b4, b5, b6, b7, b8, b9, b10⟩ := hs_ln h hb
  obtain ⟨⟨a1, a2, a3, a4⟩, _⟩ := h
  obtain ⟨s, M, i1, i2⟩ := hst
  obtain ⟨rp, xr, cr, nq, r1, r2, r3, r4, r5, r6⟩ := b2.pm b1 i1
  have i3 : cq_is 1 14 (243 + 9 * hr) (S, G, m) = some () := if_pos b4.1
  have i4 : cq_is 2 8 mp (S, G, m) = some () := if_pos r1.1
  have g6 : cq_gi 11 6 17 64 (S, G, m) = some (hr : Int) := by rw [o_gi (s64 a1), b9]
  unfold c176
  rw [o_gr (y := 220) (s64 a1) (p64_5 a2), Option.bind_some, g6, Option.bind_some, o_ar (s220 a1) (by decide) b8 b6, Option.bind_some, i3, Option.bind_some, b7, Option.bind_some, i4, Option.bind_some, k_15 r4.1 r1 r2, Option.bind_some]
  rcases i2 with ⟨c, rfl, rfl⟩ | ⟨c, rfl, rfl⟩
  · left
    rw [if_pos (show ¬ (if (((0 ≤ p ∧ p < s.1.length) ∧ 0 ≤ i ∧ i < (M p.toNat).length) ∧ 0 ≤ col ∧ col < qN s p.toNat) then (1 : Int) else 0) = 0 by rw [if_pos c]; decide)]
    obtain ⟨x, rfl⟩ : ∃ x : Nat, p = (x : Int) := ⟨p.toNat, by omega⟩
    obtain ⟨y, rfl⟩ : ∃ y : Nat, i = (y : Int) := ⟨i.toNat, by omega⟩
    obtain ⟨z, rfl⟩ : ∃ z : Nat, col = (z : Int) := ⟨col.toNat, by omega⟩
    rw [Int.toNat_natCast] at c
    have hx : x < s.1.length := by omega
    obtain ⟨w1, w2, w3⟩ := r1.2.2.2.2 x hx
    have i5 : cq_is 5 4 (xr x) (S, G, m) = some () := if_pos w3.1
    rw [o_gr r1.1 r1.2.2.1, Option.bind_some, o_ar r1.2.2.2.1 (by decide) hx w1, Option.bind_some, i5, Option.bind_some, k_70 w3 (by omega) (by omega), Option.bind_some, Int.toNat_natCast, Int.toNat_natCast, Int.toNat_natCast]
    exact ⟨rfl, rfl⟩
  · right
    rw [if_neg (show ¬ ¬ (if (((0 ≤ p ∧ p < s.1.length) ∧ 0 ≤ i ∧ i < (M p.toNat).length) ∧ 0 ≤ col ∧ col < qN s p.toNat) then (1 : Int) else 0) = 0 by rw [if_neg c]; decide)]
    exact ⟨rfl, rfl⟩
/-- rank() -/
theorem k_181 {p i v t : Int} (h : cHs S G A (T, lns, hr, tx, kp, mt, pl, rf) n) (hb : (lns hr).2.1.1 + (lns hr).2.1.2.1 < 520) (hst : stRk T (lns hr) p i t v) : (t = 0 ∧ c181 f 64 p i (S, G, m) = some (.inr v, (S, G, m))) ∨ (t = 1 ∧ c181 f 64 p i (S, G, m) = some (.inl 1, cq_ex (S, G, m))) := by
  obtain ⟨P, mp, b1, b2, b3, b4, b5, b6, b7, b8, b9, b10⟩ := hs_ln h hb
  obtain ⟨⟨a1, a2, a3, a4⟩, _⟩ := h
  obtain ⟨s, M, i1, i2⟩ := hst
  obtain ⟨rp, xr, cr, nq, r1, r2, r3, r4, r5, r6⟩ := b2.pm b1 i1
  have i3 : cq_is 1 14 (243 + 9 * hr) (S, G, m) = some () := if_pos b4.1
  have i4 : cq_is 2 8 mp (S, G, m) = some () := if_pos r1.1
  have g6 : cq_gi 11 6 17 64 (S, G, m) = some (hr : Int) := by rw [o_gi (s64 a1), b9]
  unfold c181
  rw [o_gr (y := 220) (s64 a1) (p64_5 a2), Option.bind_some, g6, Option.bind_some, o_ar (s220 a1) (by decide) b8 b6, Option.bind_some, i3, Option.bind_some, b7, Option.bind_some, i4, Option.bind_some, k_15 r4.1 r1 r2, Option.bind_some]
  rcases i2 with ⟨c, rfl, rfl⟩ | ⟨c, rfl, rfl⟩
  · left
    obtain ⟨x, rfl⟩ : ∃ x : Nat, p = (x : Int) := ⟨p.toNat, by omega⟩
    obtain ⟨y, rfl⟩ : ∃ y : Nat, i = (y : Int) := ⟨i.toNat, by omega⟩
    rw [Int.toNat_natCast] at c
    have hx : x < s.1.length := by omega
    have hq := qN_pos r4 hx
    rw [if_pos (show ¬ (if (((0 ≤ (x : Int) ∧ (x : Int) < s.1.length) ∧ 0 ≤ (y : Int) ∧ (y : Int) < (M (x : Int).toNat).length) ∧ (0 : Int) ≤ 0 ∧ (0 : Int) < qN s (x : Int).toNat) then (1 : Int) else 0) = 0 by rw [if_pos ⟨by rw [Int.toNat_natCast]; exact c, by omega, by rw [Int.toNat_natCast]; omega⟩]; decide)]
    obtain ⟨w1, w2, w3⟩ := r1.2.2.2.2 x hx
    rw [o_gr r1.1 r1.2.2.1, Option.bind_some, o_ar r1.2.2.2.1 (by decide) hx w1, Option.bind_some, o_gr w3.1 w3.2.2.2.1.2.2.2, Option.bind_some, o_a w3.2.2.1 (by have := w3.2.2.2.2.1; omega), Option.bind_some, (w3.2.2.2.2.2.2.2 y (by omega)).2.2, Int.toNat_natCast, Int.toNat_natCast]
    exact ⟨rfl, rfl⟩
  · right
    rw [if_neg (show ¬ ¬ (if (((0 ≤ p ∧ p < s.1.length) ∧ 0 ≤ i ∧ i < (M p.toNat).length) ∧ (0 : Int) ≤ 0 ∧ (0 : Int) < qN s p.toNat) then (1 : Int) else 0) = 0 by rw [if_neg (fun z => c z.1)]; decide)]
    exact ⟨rfl, rfl⟩
/-- answer() -/
theorem k_180 {i k v t : Int} (h : cHs S G A (T, lns, hr, tx, kp, mt, pl, rf) n) (hst : stAn kp i k t v) : (t = 0 ∧ c180 f 64 i k (S, G, m) = some (.inr v, (S, G, m))) ∨ (t = 1 ∧ c180 f 64 i k (S, G, m) = some (.inl 1, cq_ex (S, G, m))) := by
  obtain ⟨⟨a1, a2, a3, a4⟩, _, _, _, _, _, _, ⟨an, sp, k1, k2, k3, W, hW, k4⟩, _⟩ := h
  have l1 : (kp.2.map (fun v => ((v, 0) : pRw))).length = kp.2.length := List.length_map _
  have h30 : c180_30 f (S, G, m) = some (.inl 1, cq_ex (S, G, m)) := rfl
  have bad : ¬ ((0 ≤ i ∧ i < kp.2.length) ∧ 0 ≤ k ∧ k < kp.1) → c180 f 64 i k (S, G, m) = some (.inl 1, cq_ex (S, G, m)) → (t = 0 ∧ c180 f 64 i k (S, G, m) = some (.inr v, (S, G, m))) ∨ (t = 1 ∧ c180 f 64 i k (S, G, m) = some (.inl 1, cq_ex (S, G, m))) := fun hn he => by
    rcases hst with ⟨z, _⟩ | ⟨_, z, _⟩
    · exact absurd z hn
    · exact .inr ⟨z, he⟩
  by_cases c1 : i < 0
  · refine bad (fun z => by have := z.1.1; omega) ?_
    unfold c180
    rw [if_pos c1, h30]
  · by_cases c2 : (kp.2.length : Int) ≤ i
    · refine bad (fun z => by have := z.1.2; omega) ?_
      unfold c180
      rw [if_neg c1, o_gr (s64 a1) k2, Option.bind_some, o_gi k4.1, Option.bind_some, k4.2.2.2.1.2.1, l1, if_pos c2, h30]
    · have ew : W = kp.1 := hW (fun e => by rw [e] at c2; have : ((([] : List (List Int)).length : Nat) : Int) = 0 := rfl; omega)
      subst ew
      by_cases c3 : k < 0
      · refine bad (fun z => by have := z.2.1; omega) ?_
        unfold c180
        rw [if_neg c1, o_gr (s64 a1) k2, Option.bind_some, o_gi k4.1, Option.bind_some, k4.2.2.2.1.2.1, l1, if_neg c2, if_pos c3, h30]
      · by_cases c4 : k < (kp.1 : Int)
        · have i1 : cq_is 5 4 an (S, G, m) = some () := if_pos k4.1
          obtain ⟨x, rfl⟩ : ∃ x : Nat, i = (x : Int) := ⟨i.toNat, by omega⟩
          obtain ⟨y, rfl⟩ : ∃ y : Nat, k = (y : Int) := ⟨k.toNat, by omega⟩
          rcases hst with ⟨z, rfl, rfl⟩ | ⟨z, _⟩
          · refine .inl ⟨rfl, ?_⟩
            unfold c180
            rw [if_neg c1, o_gr (s64 a1) k2, Option.bind_some, o_gi k4.1, Option.bind_some, k4.2.2.2.1.2.1, l1, if_neg c2, if_neg c3, Option.bind_some, o_gi k4.1, Option.bind_some, k4.2.2.2.1.1, if_pos c4, Option.bind_some, i1, Option.bind_some, k_70 k4 (by rw [l1]; omega) (by omega), Option.bind_some, Int.toNat_natCast, Int.toNat_natCast, getD_e (show x < _ by rw [l1]; omega), List.getElem_map, getD_e (show x < kp.2.length by omega)]
          · exact absurd ⟨⟨by omega, by omega⟩, by omega, by omega⟩ z
        · refine bad (fun z => by have := z.2.2; omega) ?_
          unfold c180
          rw [if_neg c1, o_gr (s64 a1) k2, Option.bind_some, o_gi k4.1, Option.bind_some, k4.2.2.2.1.2.1, l1, if_neg c2, if_neg c3, Option.bind_some, o_gi k4.1, Option.bind_some, k4.2.2.2.1.1, if_neg c4, h30]
end
end
