/-! THE CLASS: the SHEET: countWorked() whole -/
def xL3 (ln : Nat) (G G' : xG_) : Prop := ∀ a j, a ≠ ln + 3 → G' a j = G a j
/-- what countWorked() looks at -/
def cCw (S : Nat → Nat × Nat × Nat) (G : xG_) (mo q ln tp : Nat) (s : pPg) (X : fXs) (to : Nat → Nat) (fr : Int) : Prop := cNe S G mo q s ∧ G mo 2 = (tp : Int) ∧ cTt S G tp X to ∧ G mo 6 = fr ∧ (S ln = (1, 1, 14) ∧ S (ln + 3) = (2, 3, 72) ∧ S (ln + 7) = (2, 0, 72) ∧ G ln 6 = ((ln + 3 : Nat) : Int) ∧ G ln 12 = ((ln + 7 : Nat) : Int)) ∧ (242 < ln ∧ mo ≠ ln + 3 ∧ q ≠ ln + 3 ∧ q + 1 ≠ ln + 3 ∧ tp ≠ ln + 3 ∧ ∀ c, c < 72 → to c + 2 < ln + 3 ∨ ln + 3 < to c)
/-- a CELL is worked -/
def cwP (X : fXs) (s : pPg) (told : Nat → Prop) (Dm ch : Nat) (fr : Int) (c : Nat) : Prop := X c ≠ none ∧ (told c ∨ (∃ x, x < 72 ∧ (xRd X c).testBit x = true ∧ Dm.testBit x = true) ∨ ((fr = 1 ∧ xRn X c = true) ∨ ∃ p, p < s.1.length ∧ (xRo X s c).testBit p = true ∧ ch.testBit p = true))
section
variable {f mo q ln tp : Nat} {S : Nat → Nat × Nat × Nat} {G G' G'' : xG_} {m : Nat × Nat} {s : pPg} {X : fXs} {to : Nat → Nat} {fr : Int} {ch c Dm : Nat}
theorem xL3.tr (h : xL3 ln G G') (h' : xL3 ln G' G'') : xL3 ln G G'' := fun a j p => by rw [h' a j p, h a j p]
theorem cCw.ge (h : cCw S G mo q ln tp s X to fr) (hx : xL3 ln G G') : cCw S G' mo q ln tp s X to fr := by
  obtain ⟨⟨a1, a2, a3, a4, a5, a6, a7, a8⟩, b1, ⟨t1, t2, t3⟩, b3, ⟨l1, l2, l3, l4, l5⟩, z0, z1, z2, z3, z4, z5⟩ := h
  refine ⟨⟨a1, by rw [hx _ _ (by omega)]; exact a2, a3, by rw [hx _ _ z1]; exact a4, a5, a6.ge (fun j _ _ _ => hx _ _ z2), ⟨by rw [hx _ _ z2]; exact a7.1, a7.2.1, fun k hk => by rw [hx _ _ z3]; exact a7.2.2 k hk⟩, a8⟩, by rw [hx _ _ z1]; exact b1, ⟨t1, t2, fun c hc => ?_⟩, by rw [hx _ _ z1]; exact b3, ⟨l1, l2, l3, by rw [hx _ _ (by omega)]; exact l4, by rw [hx _ _ (by omega)]; exact l5⟩, z0, z1, z2, z3, z4, z5⟩
  obtain ⟨c1, c2⟩ := t3 c hc
  have hz := z5 c hc
  refine ⟨by rw [hx _ _ z4]; exact c1, ?_⟩
  rcases c2 with q | ⟨q1, e, q2, q3⟩
  · exact .inl q
  · exact .inr ⟨q1, e, q2, q3.ge (fun _ _ _ => rfl) (fun a j y1 y2 => hx _ _ (by omega))⟩
theorem st_103s {lo hi : Int} {fu : Nat} (hf : 100 < f) (hch : ch < 2147483648) (h : cCw S G mo q ln tp s X to fr) (hm : rM9 lo hi Dm) (hc : c < 72) (hv : 0 ≤ G (ln + 3) c ∧ G (ln + 3) c ≤ 100000) : ∃ b, isB b (cwP X s (fun c => ¬ G (ln + 7) c = 0) Dm ch fr c) ∧ c103_103 f (fu + 1) 216 ln (ch : Int) lo hi (c : Int) (S, G, m) = c103_103 f fu 216 ln (ch : Int) lo hi ((c + 1 : Nat) : Int) (S, (if b = 1 then xup2 G (ln + 3) c (G (ln + 3) c + 1) else G), m) := by
  obtain ⟨hN, b1, ⟨t1, t2, t3⟩, b3, ⟨l1, l2, l3, l4, l5⟩, z0, z1, z2, z3, z4, z5⟩ := h
  have hs := hN.1
  have h0 := hN.2.1
  have m1 := hN.2.2.1
  obtain ⟨c1, c2⟩ := t3 c hc
  have ec : xwr ((c : Int) + 1) = ((c + 1 : Nat) : Int) := by rw [xwr_g _ (by omega) (by omega)]; omega
  have ev : xwr (G (ln + 3) c + 1) = G (ln + 3) c + 1 := xwr_g _ (by omega) (by omega)
  have g0 : cq_gr 7 0 5 216 (S, G, m) = some mo := by
    show (if S 216 = (1, 7, 5) then some (G 216 0).toNat else none) = _
    rw [if_pos (s216 hs), h0, Int.toNat_natCast]
  have gt : cq_gr 2 2 8 mo (S, G, m) = some tp := by
    show (if S mo = (1, 2, 8) then some (G mo 2).toNat else none) = _
    rw [if_pos m1, b1, Int.toNat_natCast]
  have ga : cq_ar tp (c : Int) (S, G, m) = some (to c) := by
    unfold cq_ar
    show (if (S tp).1 = 2 ∧ 5 ≤ (S tp).2.1 ∧ 0 ≤ (c : Int) ∧ (c : Int) < ((S tp).2.2 : Int) then some (G tp (c : Int).toNat).toNat else none) = _
    rw [t1, if_pos ⟨rfl, by decide, by omega, by show (c : Int) < ((72 : Nat) : Int); omega⟩, Int.toNat_natCast, c1, Int.toNat_natCast]
  have gl : cq_gr 1 12 14 ln (S, G, m) = some (ln + 7) := by
    show (if S ln = (1, 1, 14) then some (G ln 12).toNat else none) = _
    rw [if_pos l1, l5, Int.toNat_natCast]
  have gb : cq_ab (ln + 7) (c : Int) (S, G, m) = some (G (ln + 7) c) := by
    unfold cq_ab
    show (if (S (ln + 7)).1 = 2 ∧ (S (ln + 7)).2.1 < 2 ∧ 0 ≤ (c : Int) ∧ (c : Int) < ((S (ln + 7)).2.2 : Int) then some (G (ln + 7) (c : Int).toNat) else none) = _
    rw [l3, if_pos ⟨rfl, by decide, by omega, by show (c : Int) < ((72 : Nat) : Int); omega⟩, Int.toNat_natCast]
  have gw : cq_gr 1 6 14 ln (S, G, m) = some (ln + 3) := by
    show (if S ln = (1, 1, 14) then some (G ln 6).toNat else none) = _
    rw [if_pos l1, l4, Int.toNat_natCast]
  have gwa : cq_a 3 (ln + 3) (c : Int) (S, G, m) = some (G (ln + 3) c) := by
    unfold cq_a
    show (if (S (ln + 3)).1 = 2 ∧ (S (ln + 3)).2.1 = 3 ∧ 0 ≤ (c : Int) ∧ (c : Int) < ((S (ln + 3)).2.2 : Int) then some (G (ln + 3) (c : Int).toNat) else none) = _
    rw [l2, if_pos ⟨rfl, rfl, by omega, by show (c : Int) < ((72 : Nat) : Int); omega⟩, Int.toNat_natCast]
  have gws : cq_s 3 (ln + 3) (c : Int) (G (ln + 3) c + 1) (S, G, m) = some (S, xup2 G (ln + 3) c (G (ln + 3) c + 1), m) := by
    unfold cq_s
    show (if (S (ln + 3)).1 = 2 ∧ (S (ln + 3)).2.1 = 3 ∧ 0 ≤ (c : Int) ∧ (c : Int) < ((S (ln + 3)).2.2 : Int) then _ else none) = _
    rw [l2, if_pos ⟨rfl, rfl, by omega, by show (c : Int) < ((72 : Nat) : Int); omega⟩]
    rfl
  have yes : c103_159 (c103_103 f fu) f 216 ln (ch : Int) lo hi (c : Int) (S, G, m) = c103_103 f fu 216 ln (ch : Int) lo hi ((c + 1 : Nat) : Int) (S, xup2 G (ln + 3) c (G (ln + 3) c + 1), m) := by
    unfold c103_159 c103_170
    rw [gw, Option.bind_some, gwa, Option.bind_some, ev, gws, Option.bind_some, ec]
  have no : c103_170 (c103_103 f fu) f 216 ln (ch : Int) lo hi (c : Int) (S, G, m) = c103_103 f fu 216 ln (ch : Int) lo hi ((c + 1 : Nat) : Int) (S, G, m) := by
    unfold c103_170
    rw [ec]
  have e0 : c103_103 f (fu + 1) 216 ln (ch : Int) lo hi (c : Int) (S, G, m) = (if to c = 0 then c103_170 (c103_103 f fu) f 216 ln (ch : Int) lo hi (c : Int) (S, G, m) else ((cq_gr 1 12 14 ln (S, G, m)).bind fun v122 => ((cq_ab (v122) (c : Int) (S, G, m)).bind fun v124 => (if ¬ (v124) = 0 then c103_159 (c103_103 f fu) f 216 ln (ch : Int) lo hi (c : Int) (S, G, m) else ((cq_is 0 5 (to c) (S, G, m)).bind fun _ => ((c3 f (to c) lo hi (S, G, m)).bind fun R127 => (if ¬ (R127.1) = 0 then c103_159 (c103_103 f fu) f 216 ln (ch : Int) lo hi (c : Int) R127.2 else ((cq_is 7 5 216 R127.2).bind fun _ => ((c104 f 216 (to c) (ch : Int) R127.2).bind fun R134 => (if (R134.1) = 0 then c103_170 (c103_103 f fu) f 216 ln (ch : Int) lo hi (c : Int) R134.2 else c103_159 (c103_103 f fu) f 216 ln (ch : Int) lo hi (c : Int) R134.2)))))))))) := by
    show c103_103b (c103_103 f fu) f 216 _ _ _ _ _ _ = _
    unfold c103_103b
    rw [if_neg (by omega), g0, Option.bind_some, gt, Option.bind_some, ga, Option.bind_some]
  rcases c2 with ⟨q1, q2⟩ | ⟨q1, e, q2, q3⟩
  · refine ⟨0, .inr ⟨rfl, fun w => w.1 q2⟩, ?_⟩
    rw [e0, if_pos q1, no, if_neg (by decide)]
  · have o0 : ¬ to c = 0 := by omega
    rw [if_neg o0, gl, Option.bind_some, gb, Option.bind_some] at e0
    have hn : X c ≠ none := by rw [q2]; exact fun z => nomatch z
    by_cases ct : G (ln + 7) c = 0
    · rw [if_neg (fun z => z ct)] at e0
      obtain ⟨K, F, ⟨k1, _⟩, _, _, k7, _⟩ := id q3
      have eis : cq_is 0 5 (to c) (S, G, m) = some () := if_pos k1
      rw [eis, Option.bind_some, k_3 k1, Option.bind_some] at e0
      have iff := rM9_and k7 hm.1
      have erd : xRd X c = nRd e.1 := by unfold xRd; rw [q2]
      have ern : xRn X c = nNm e.1 := by unfold xRn; rw [q2]
      have ero : xRo X s c = nOf s e.1 := by unfold xRo; rw [q2]
      by_cases ca : ¬ xand8 (G (to c) 2) lo = 0 ∨ ¬ xand8 (G (to c) 3) hi = 0
      · obtain ⟨x, x1, x2, x3⟩ := iff.mp ca
        refine ⟨1, .inl ⟨rfl, hn, .inr (.inl ⟨x, x1, by rw [erd]; exact x2, x3⟩)⟩, ?_⟩
        rw [e0, if_pos ca, if_pos (show ¬ (1 : Int) = 0 by decide), yes, if_pos rfl]
      · rw [if_neg ca, if_neg (show ¬ ¬ (0 : Int) = 0 from fun z => z rfl)] at e0
        obtain ⟨b, b1', b2'⟩ := k_104 (f := f) (m := m) (ch := ch) hf hch hN q1 q3 b3
        have eis2 : cq_is 7 5 216 (S, G, m) = some () := if_pos (s216 hs)
        rw [eis2, Option.bind_some, b1', Option.bind_some] at e0
        refine ⟨b, ?_, ?_⟩
        · have hP : cwP X s (fun c => ¬ G (ln + 7) c = 0) Dm ch fr c ↔ ((fr = 1 ∧ nNm e.1 = true) ∨ ∃ p, p < s.1.length ∧ (nOf s e.1).testBit p = true ∧ ch.testBit p = true) := by
            unfold cwP
            rw [ern, ero, erd]
            constructor
            · rintro ⟨_, w | w | w⟩
              · exact (w ct).elim
              · exact (ca (iff.mpr w)).elim
              · exact w
            · intro w; exact ⟨hn, .inr (.inr w)⟩
          unfold isB at b2' ⊢
          rw [hP]
          exact b2'
        · rw [e0]
          rcases b2' with ⟨w, _⟩ | ⟨w, _⟩
          · rw [w, if_neg (show ¬ (1 : Int) = 0 by decide), yes, if_pos rfl]
          · rw [w, if_pos rfl, no, if_neg (by decide)]
    · refine ⟨1, .inl ⟨rfl, hn, .inl ct⟩, ?_⟩
      rw [e0, if_pos ct, yes, if_pos rfl]
theorem k_103b {lo hi : Int} (hf : 100 < f) (hch : ch < 2147483648) (hm : rM9 lo hi Dm) (told : Nat → Prop) : ∀ (d c fu : Nat) (G : xG_), c + d = 72 → d < fu → cCw S G mo q ln tp s X to fr → (∀ y, c ≤ y → y < 72 → 0 ≤ G (ln + 3) y ∧ G (ln + 3) y ≤ 100000) → (∀ y, ¬ G (ln + 7) y = 0 ↔ told y) → ∃ G', c103_103 f fu 216 ln (ch : Int) lo hi (c : Int) (S, G, m) = some (S, G', m) ∧ xL3 ln G G' ∧ (∀ y, y < c → G' (ln + 3) y = G (ln + 3) y) ∧ ∀ y, c ≤ y → y < 72 → (cwP X s told Dm ch fr y → G' (ln + 3) y = G (ln + 3) y + 1) ∧ (¬ cwP X s told Dm ch fr y → G' (ln + 3) y = G (ln + 3) y) := by
  intro d
  induction d with
  | zero =>
    intro c fu G e1 e2 h hv ht
    obtain ⟨fu, rfl⟩ : ∃ t, fu = t + 1 := ⟨fu - 1, by omega⟩
    refine ⟨G, ?_, fun _ _ _ => rfl, fun _ _ => rfl, fun y y1 y2 => by omega⟩
    show c103_103b (c103_103 f fu) f 216 _ _ _ _ _ _ = _
    unfold c103_103b
    rw [if_pos (by omega)]
  | succ d ih =>
    intro c fu G e1 e2 h hv ht
    obtain ⟨fu, rfl⟩ : ∃ t, fu = t + 1 := ⟨fu - 1, by omega⟩
    obtain ⟨b, b1, b2⟩ := st_103s (m := m) (fu := fu) hf hch h hm (by omega : c < 72) (hv c (Nat.le_refl _) (by omega))
    have et : (fun c => ¬ G (ln + 7) c = 0) = told := funext (fun y => propext (ht y))
    rw [et] at b1
    have hx : xL3 ln G (if b = 1 then xup2 G (ln + 3) c (G (ln + 3) c + 1) else G) := fun a j z => by
      split
      · exact xup2_n (by omega)
      · rfl
    have hy : ∀ y, y ≠ c → (if b = 1 then xup2 G (ln + 3) c (G (ln + 3) c + 1) else G) (ln + 3) y = G (ln + 3) y := fun y z => by
      split
      · exact xup2_n (by omega)
      · rfl
    have hcc : (cwP X s told Dm ch fr c → (if b = 1 then xup2 G (ln + 3) c (G (ln + 3) c + 1) else G) (ln + 3) c = G (ln + 3) c + 1) ∧ (¬ cwP X s told Dm ch fr c → (if b = 1 then xup2 G (ln + 3) c (G (ln + 3) c + 1) else G) (ln + 3) c = G (ln + 3) c) := by
      rcases b1 with ⟨w1, w2⟩ | ⟨w1, w2⟩
      · rw [if_pos w1, xup2_s]
        exact ⟨fun _ => rfl, fun z => (z w2).elim⟩
      · rw [if_neg (by omega)]
        exact ⟨fun z => (w2 z).elim, fun _ => rfl⟩
    -- every count stays small enough for what is left: at c it is never looked at again
    obtain ⟨G', i1, i2, i3, i4⟩ : ∃ G', c103_103 f fu 216 ln (ch : Int) lo hi ((c + 1 : Nat) : Int) (S, (if b = 1 then xup2 G (ln + 3) c (G (ln + 3) c + 1) else G), m) = some (S, G', m) ∧ xL3 ln (if b = 1 then xup2 G (ln + 3) c (G (ln + 3) c + 1) else G) G' ∧ (∀ y, y < c + 1 → G' (ln + 3) y = (if b = 1 then xup2 G (ln + 3) c (G (ln + 3) c + 1) else G) (ln + 3) y) ∧ ∀ y, c + 1 ≤ y → y < 72 → (cwP X s told Dm ch fr y → G' (ln + 3) y = (if b = 1 then xup2 G (ln + 3) c (G (ln + 3) c + 1) else G) (ln + 3) y + 1) ∧ (¬ cwP X s told Dm ch fr y → G' (ln + 3) y = (if b = 1 then xup2 G (ln + 3) c (G (ln + 3) c + 1) else G) (ln + 3) y) := by
      refine ih (c + 1) fu _ (by omega) (by omega) (h.ge hx) (fun y y1 y2 => ?_) (fun y => ?_)
      · rw [hy y (by omega)]; exact hv y (by omega) y2
      · rw [hx _ _ (by omega)]; exact ht y
    refine ⟨G', b2.trans i1, hx.tr i2, fun y y1 => by rw [i3 y (by omega), hy y (by omega)], fun y y1 y2 => ?_⟩
    by_cases cy : y = c
    · rw [cy, i3 c (by omega)]; exact hcc
    · have := i4 y (by omega) y2
      rw [hy y cy] at this
      exact this
end
