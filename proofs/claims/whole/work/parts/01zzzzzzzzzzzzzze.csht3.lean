/-! THE CLASS: the SHEET: workCells() -/
theorem xor8_0 : ∀ m : Fin 64, xor8 0 (xshl8 1 ((m.val : Nat) : Int)) = xshl8 1 ((m.val : Nat) : Int) := by decide +kernel
theorem rM9_one {c : Nat} (hc : c < 72) : rM9 (if c < 64 then xshl8 1 (c : Int) else 0) (if c < 64 then 0 else xshl8 1 ((c - 64 : Nat) : Int)) (2 ^ c) := by
  by_cases h : c < 64
  · rw [if_pos h, if_pos h]
    have := rM9.z.lo h
    rw [xor8_0 ⟨c, h⟩, Nat.zero_or] at this
    exact this
  · rw [if_neg h, if_neg h]
    have := rM9.z.hi (by omega : 64 ≤ c) hc
    rw [xor8_0 ⟨c - 64, by omega⟩, Nat.zero_or] at this
    exact this
/-- the SHEET at work -/
def wkS (S : Nat → Nat × Nat × Nat) (G : xG_) (nx mo cc q rp tp : Nat) (s : pPg) (xr cr : Nat → Nat) (M : Nat → List pRw) (X : fXs) (to : Nat → Nat) (Dn : Nat) : Prop := cSe S G nx mo cc q rp s xr cr M (fSh X s M) (fun x => Dn.testBit x = true) ∧ cMk G (xFr X) ∧ G mo 2 = (tp : Int) ∧ cTt S G tp X to ∧ (nx ≤ cc ∧ mo < cc ∧ rp < cc ∧ 278 < cc ∧ tp < cc ∧ ∀ c, c < 72 → to c + 2 < cc)
def xWc (cc : Nat) (G G' : xG_) : Prop := ∀ a j, a ≠ cc → a ≠ 219 → G' a j = G a j
/-- a CELL can be worked out -/
def rdC (X : fXs) (Dn y : Nat) : Prop := X y = none ∨ xCy X y ∨ ∀ x, x < 72 → (xRd X y).testBit x = true → Dn.testBit x = true
theorem eC_w (x : fWo) : eC (wCv x) = eW x := by
  cases x with
  | inl e => rfl
  | inr v => rfl
section
variable {f nx mo cc q rp tp : Nat} {S : Nat → Nat × Nat × Nat} {G G' G'' : xG_} {m : Nat × Nat} {s : pPg} {xr cr : Nat → Nat} {M : Nat → List pRw} {X : fXs} {to : Nat → Nat} {Dn c : Nat}
theorem xWc.id : xWc cc G G := fun _ _ _ _ => rfl
theorem xWc.tr (h : xWc cc G G') (h' : xWc cc G' G'') : xWc cc G G'' := fun a j p q => by rw [h' a j p q, h a j p q]
theorem wkS.put {v : Int} (h : wkS S G nx mo cc q rp tp s xr cr M X to Dn) (hx : xK 0 G G') (hc : c < 72) (hv : v = eC (fSh X s M c)) : wkS S (xup2 G' cc c v) nx mo cc q rp tp s xr cr M X to (Dn ||| 2 ^ c) := by
  obtain ⟨h1, h2, h3, h4, h5, h6, h7, h8, h9, h10⟩ := h
  have hmo := h1.2.2.2.2.2.2.2.2.2.2.1.1
  have z : ∀ a j, a ≠ cc → a ≠ 219 → xup2 G' cc c v a j = G a j := fun a j q1 q2 => by rw [xup2_n (by omega), hx _ _ (by omega)]
  refine ⟨?_, fun y hy => by rw [z _ _ (by omega) (by omega), z _ _ (by omega) (by omega)]; exact h2 y hy, by rw [z _ _ (by omega) (by omega)]; exact h3, ?_, h5, h6, h7, h8, h9, h10⟩
  · have := (h1.k hx).put hc hv h5 h6 h7 h8
    obtain ⟨a1, a2, a3, ⟨a4, a5⟩, a6⟩ := this
    refine ⟨a1, a2, a3, ⟨a4, fun x hx1 hx2 => a5 x hx1 ?_⟩, a6⟩
    have hx2' : (Dn ||| 2 ^ c).testBit x = true := hx2
    rw [or_bit, Bool.or_eq_true, decide_eq_true_iff] at hx2'
    rcases hx2' with q | q
    · exact .inl q
    · exact .inr q.symm
  · obtain ⟨t1, t2, t3⟩ := h4
    refine ⟨t1, t2, fun y hy => ?_⟩
    obtain ⟨b1, b2⟩ := t3 y hy
    have hyy := h10 y hy
    refine ⟨by rw [z _ _ (by omega) (by omega)]; exact b1, ?_⟩
    rcases b2 with q | ⟨q1, e, q2, q3⟩
    · exact .inl q
    · exact .inr ⟨q1, e, q2, q3.ge (fun _ _ _ => rfl) (fun a j z1 z2 => z a j (by omega) (by omega))⟩
theorem st_102a {r10 : Nat → Int → Int → Int → Int → xT_ → Option xT_} {lo hi x5 t : Int} {fu : Nat} (h : wkS S G nx mo cc q rp tp s xr cr M X to Dn) (hm : rM9 lo hi Dn) (hc : c < 72) : c102_28 r10 f (fu + 1) 216 lo hi x5 t (c : Int) (S, G, m) = c102_83 r10 (c102_28 r10 f fu) f 216 lo hi x5 t (c : Int) (to c) (if (xFr X c).testBit c = true then 1 else 0) (if Dn.testBit c = true then 0 else 1) (S, G, m) := by
  obtain ⟨h1, h2, h3, h4, h5⟩ := h
  obtain ⟨hs, hp, ⟨a1, a2⟩, _, ⟨m1, _⟩, _⟩ := h1
  obtain ⟨t1, t2, t3⟩ := h4
  obtain ⟨g2, g3⟩ := g72 (m := m) hs hp
  have g0 : cq_gr 7 0 5 216 (S, G, m) = some mo := by
    show (if S 216 = (1, 7, 5) then some (G 216 0).toNat else none) = _
    rw [if_pos (s216 hs), a1, Int.toNat_natCast]
  have gt : cq_gr 2 2 8 mo (S, G, m) = some tp := by
    show (if S mo = (1, 2, 8) then some (G mo 2).toNat else none) = _
    rw [if_pos m1, h3, Int.toNat_natCast]
  have ga : cq_ar tp (c : Int) (S, G, m) = some (to c) := by
    unfold cq_ar
    show (if (S tp).1 = 2 ∧ 5 ≤ (S tp).2.1 ∧ 0 ≤ (c : Int) ∧ (c : Int) < ((S tp).2.2 : Int) then some (G tp (c : Int).toNat).toNat else none) = _
    rw [t1, if_pos ⟨rfl, by decide, by omega, by show (c : Int) < ((72 : Nat) : Int); omega⟩, Int.toNat_natCast, (t3 c hc).1, Int.toNat_natCast]
  have e1 := k_101 (f := f) (T := (S, G, m)) (h2 c hc).1 hc
  have e2 := k_101 (f := f) (T := (S, G, m)) hm.1 hc
  show c102_28b r10 (c102_28 r10 f fu) f 216 _ _ _ _ _ _ = _
  unfold c102_28b
  rw [if_neg (by omega), g0, Option.bind_some, gt, Option.bind_some, ga, Option.bind_some, g2, Option.bind_some, ga8 (s217 hs) hc, Option.bind_some, g3, Option.bind_some, ga8 (s218 hs) hc, Option.bind_some, e1, Option.bind_some, e2, Option.bind_some]
  by_cases cb : Dn.testBit c = true
  · rw [if_pos cb, if_pos cb, if_pos (show ¬ (1 : Int) = 0 by decide)]
  · rw [if_neg cb, if_neg cb, if_neg (show ¬ ¬ (0 : Int) = 0 from fun z => z rfl)]
/-- the CELL is written, and done -/
theorem st_102w {r10 : Nat → Int → Int → Int → Int → xT_ → Option xT_} {r28 : Nat → Int → Int → Int → Int → Int → xT_ → Option xT_} {lo hi t v : Int} (hS : S cc = (2, 4, 72)) (hc : c < 72) : c102_152 r10 r28 f 216 lo hi t (c : Int) v (c : Int) cc (S, G, m) = r28 216 (xor8 lo (if c < 64 then xshl8 1 (c : Int) else 0)) (xor8 hi (if c < 64 then 0 else xshl8 1 ((c - 64 : Nat) : Int))) 1 t ((c + 1 : Nat) : Int) (S, xup2 G cc c v, m) := by
  have ec : xwr ((c : Int) + 1) = ((c + 1 : Nat) : Int) := by rw [xwr_g _ (by omega) (by omega)]; omega
  unfold c102_152
  rw [gs8 hS hc, Option.bind_some]
  unfold c102_169 c102_190 c102_195
  by_cases h : c < 64
  · rw [if_neg (by omega), if_neg (by omega), if_pos h, if_pos h, ec]
  · have e : xwr ((c : Int) - 64) = ((c - 64 : Nat) : Int) := by rw [xwr_g _ (by omega) (by omega)]; omega
    rw [if_pos (by omega), if_pos (by omega), if_neg h, if_neg h, ec, e]
/-- a turn: a CELL -/
theorem k_102c {r10 : Nat → Int → Int → Int → Int → xT_ → Option xT_} {lo hi x5 t : Int} {fu : Nat} (hf : 700 < f) (hX : okX X) (h : wkS S G nx mo cc q rp tp s xr cr M X to Dn) (hm : rM9 lo hi Dn) (hc : c < 72) : (¬ (¬ Dn.testBit c = true ∧ rdC X Dn c) ∧ c102_28 r10 f (fu + 1) 216 lo hi x5 t (c : Int) (S, G, m) = c102_28 r10 f fu 216 lo hi x5 t ((c + 1 : Nat) : Int) (S, G, m)) ∨
    (¬ Dn.testBit c = true ∧ ∃ lo' hi' G', c102_28 r10 f (fu + 1) 216 lo hi x5 t (c : Int) (S, G, m) = c102_28 r10 f fu 216 lo' hi' 1 t ((c + 1 : Nat) : Int) (S, G', m) ∧ rM9 lo' hi' (Dn ||| 2 ^ c) ∧ xWc cc G G' ∧ wkS S G' nx mo cc q rp tp s xr cr M X to (Dn ||| 2 ^ c)) := by
  have e0 := st_102a (r10 := r10) (f := f) (m := m) (x5 := x5) (t := t) (fu := fu) h hm hc
  have ec : xwr ((c : Int) + 1) = ((c + 1 : Nat) : Int) := by rw [xwr_g _ (by omega) (by omega)]; omega
  have hs := h.1.1
  have hcc := h.1.2.2.2.1.1
  have h216 := h.1.2.2.1.2
  have g1 : ∀ G1 : xG_, G1 216 1 = (cc : Int) → cq_gr 7 1 5 216 (S, G1, m) = some cc := fun G1 e => by
    show (if S 216 = (1, 7, 5) then some (G1 216 1).toNat else none) = _
    rw [if_pos (s216 hs), e, Int.toNat_natCast]
  obtain ⟨t1, t2, t3⟩ := h.2.2.2.1
  obtain ⟨tc, tx⟩ := t3 c hc
  have fix := fSh_fix (X := X) (s := s) (M := M) hX hc
  unfold qCv at fix
  have fin : ∀ (G1 : xG_) (v : Int), xK 0 G G1 → v = eC (fSh X s M c) → rM9 (xor8 lo (if c < 64 then xshl8 1 (c : Int) else 0)) (xor8 hi (if c < 64 then 0 else xshl8 1 ((c - 64 : Nat) : Int))) (Dn ||| 2 ^ c) ∧ xWc cc G (xup2 G1 cc c v) ∧ wkS S (xup2 G1 cc c v) nx mo cc q rp tp s xr cr M X to (Dn ||| 2 ^ c) := fun G1 v hx hv => ⟨hm.or (rM9_one hc), fun a j q1 q2 => by rw [xup2_n (by omega), hx _ _ (by omega)], h.put hx hc hv⟩
  by_cases cb : Dn.testBit c = true
  · left
    rw [if_pos cb] at e0
    refine ⟨fun z => z.1 cb, ?_⟩
    rw [e0]
    unfold c102_83 c102_195
    rw [if_pos rfl, ec]
  · rw [if_neg cb] at e0
    unfold c102_83 at e0
    rw [if_neg (by decide)] at e0
    rcases tx with ⟨z1, z2⟩ | ⟨z1, e, z2, z3⟩
    · right
      rw [if_pos z1] at e0
      refine ⟨cb, _, _, _, ?_, fin G 9000000000000000000 .id (by rw [fix, z2]; rfl)⟩
      rw [e0]
      unfold c102_118
      rw [g1 G h216, Option.bind_some, if_pos z1, st_102w hcc hc]
    · have o0 : ¬ to c = 0 := by omega
      rw [if_neg o0] at e0
      rw [z2] at fix
      by_cases cy : (xFr X c).testBit c = true
      · right
        rw [if_pos cy, if_pos (show ¬ (1 : Int) = 0 by decide)] at e0
        refine ⟨cb, _, _, _, ?_, fin G (-8999999999999999999) .id (by
          rw [fix]
          show _ = eC (if xCy X c then _ else _)
          rw [if_pos cy]
          rfl)⟩
        rw [e0]
        unfold c102_118
        rw [g1 G h216, Option.bind_some, if_neg o0, if_neg (show ¬ (1 : Int) = 0 by decide), st_102w hcc hc]
      · rw [if_neg cy, if_neg (show ¬ ¬ (0 : Int) = 0 from fun z => z rfl)] at e0
        obtain ⟨K, F, ⟨k1, _⟩, _, _, k7, _⟩ := id z3
        have eis : cq_is 0 5 (to c) (S, G, m) = some () := if_pos k1
        rw [eis, Option.bind_some, k_3 k1, Option.bind_some] at e0
        have iff := rM9_out k7 hm.1
        have erd : xRd X c = nRd e.1 := by unfold xRd; rw [z2]
        by_cases ca : ¬ xand8 (G (to c) 2) (xxor8 lo (-1)) = 0 ∨ ¬ xand8 (G (to c) 3) (xxor8 hi (-1)) = 0
        · left
          rw [if_pos ca, if_pos (show ¬ (1 : Int) = 0 by decide)] at e0
          obtain ⟨x, x1, x2, x3⟩ := iff.mp ca
          refine ⟨fun z => ?_, ?_⟩
          · rcases z.2 with q | q | q
            · rw [q] at z2; cases z2
            · exact cy q
            · exact x3 (q x x1 (by rw [erd]; exact x2))
          · rw [e0]
            unfold c102_195
            rw [ec]
        · right
          rw [if_neg ca, if_neg (show ¬ ¬ (0 : Int) = 0 from fun z => z rfl)] at e0
          have hrd : ∀ x, (nRd e.1).testBit x = true → Dn.testBit x = true := fun x hx => Classical.byContradiction (fun q => ca (iff.mpr ⟨x, by
            have := xRd_72 hX hc (x := x) (by rw [erd]; exact hx)
            exact this, hx, q⟩))
          obtain ⟨G1, w1, w2⟩ := k_105 (f := f) (m := m) hf h.1 z1 z3 (hX c hc e z2).2.1 hrd
          refine ⟨cb, _, _, _, ?_, fin G1 (eW (fWr e.1 e.2 (fSh X s M) s M)) w2 (by
            rw [fix]
            show _ = eC (if xCy X c then _ else _)
            rw [if_neg cy, eC_w])⟩
          have eis2 : cq_is 7 5 216 (S, G, m) = some () := if_pos (s216 hs)
          rw [e0]
          unfold c102_118
          rw [g1 G h216, Option.bind_some, if_neg o0, if_pos rfl, eis2, Option.bind_some, w1, Option.bind_some, st_102w hcc hc]
end
