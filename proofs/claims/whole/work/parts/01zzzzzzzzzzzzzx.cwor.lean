/-! THE CLASS: the SHEET: over CELLS, over rows -/
/-- how the class writes what a CELL shows -/
def eC (x : Int × Int) : Int := if x.1 = 0 then 9000000000000000000 else if x.1 = 1 then x.2 else -9000000000000000000 + x.2
def eW (x : fWo) : Int := match x with
  | .inl e => -9000000000000000000 + e
  | .inr v => v
/-- the SHEET of the class at work: the CELLS of D stand -/
def cSe (S : Nat → Nat × Nat × Nat) (G : xG_) (nx mo cc q rp : Nat) (s : pPg) (xr cr : Nat → Nat) (M : Nat → List pRw) (C : fCs) (D : Nat → Prop) : Prop := cSs S ∧ cPs G ∧ (G 216 0 = (mo : Int) ∧ G 216 1 = (cc : Int)) ∧ (S cc = (2, 4, 72) ∧ ∀ x, x < 72 → D x → G cc x = eC (C x)) ∧ cMr S G nx mo q rp s xr cr M ∧ cPgm S G q nx s ∧ qOk s ∧ okC C ∧ okM s M ∧ (∀ p, p < s.1.length → (M p).length ≤ 100) ∧ (226 < mo ∧ 226 < cc ∧ 226 < q ∧ 226 < rp) ∧ ∀ p, p < s.1.length → xr p + 2 < 216 ∨ 226 < xr p
section
variable {f nx mo cc q rp : Nat} {S : Nat → Nat × Nat × Nat} {G : xG_} {m : Nat × Nat} {s : pPg} {xr cr : Nat → Nat} {M : Nat → List pRw} {C : fCs} {D : Nat → Prop}
theorem k_108 {a : Int} {T : xT_} : c108 f a T = some (eW (fBd a), T) := by
  unfold c108 c108_16 c108_23 fBd
  by_cases c : 1000000000000 < a
  · rw [if_pos c, if_pos (.inl c)]; rfl
  · rw [if_neg c]
    by_cases d : -1000000000000 ≤ a
    · rw [if_pos d, if_neg (by omega)]; rfl
    · rw [if_neg d, if_pos (.inr (by omega))]; rfl
/-- the loop of overCells() -/
def eO (sm : Int) (x : Int ⊕ (Int × Int)) : Int := match x with
  | .inl e => -9000000000000000000 + e
  | .inr p => if sm = 0 then p.2 else eW (fBd p.1)
theorem fOc_past {a b : Int} : ∀ (k x : Nat) (v n : Int), b < (x : Int) → fOc C a b k x v n = .inr (v, n)
  | 0, _, _, _, _ => rfl
  | k + 1, x, v, n, h => by
    show (if fIn x a b ∧ ¬ (C x).1 = 0 then _ else fOc C a b k (x + 1) v n) = _
    rw [if_neg (fun q => by have := q.1; unfold fIn at this; omega)]
    exact fOc_past k (x + 1) v n (by omega)
theorem fOc_skip {a b : Int} {v n : Int} : ∀ (x k : Nat), (x : Int) ≤ a → fOc C a b (x + k) 0 v n = fOc C a b k x v n := by
  have gen : ∀ (d y k : Nat), ((y + d : Nat) : Int) ≤ a → fOc C a b (d + k) y v n = fOc C a b k (y + d) v n := by
    intro d
    induction d with
    | zero => intro y k _; rw [Nat.zero_add]; rfl
    | succ d ih =>
      intro y k h
      have e : d + 1 + k = (d + k) + 1 := by omega
      rw [e]
      show (if fIn y a b ∧ ¬ (C y).1 = 0 then _ else fOc C a b (d + k) (y + 1) v n) = _
      rw [if_neg (fun q => by have := q.1; unfold fIn at this; omega), ih (y + 1) k (by omega)]
      have e2 : y + 1 + d = y + (d + 1) := by omega
      rw [e2]
  intro x k h
  have := gen x 0 k (by rw [Nat.zero_add]; exact h)
  rw [Nat.zero_add] at this
  exact this
theorem st_107e {sm a b v n x : Int} {fu : Nat} {T : xT_} (h : b < x) : c107_9 f (fu + 1) 216 sm a b v n x T = some (if sm = 0 then n else eW (fBd v), T) := by
  show c107_9b (c107_9 f fu) f 216 _ _ _ _ _ _ _ = _
  unfold c107_9b c107_141
  rw [if_pos h]
  by_cases c : sm = 0
  · rw [if_pos c, if_pos c]
  · rw [if_neg c, if_neg c, k_108]; rfl
theorem st_107i {sm v n : Int} {a b x fu : Nat} (hs : cSs S) (h1 : G 216 1 = (cc : Int)) (hc : S cc = (2, 4, 72)) (ha : a < 72) (hb : b < 72) (hx : x ≤ b) (hax : a ≤ x) {w : Int} (hw : fIn x (a : Int) (b : Int) → G cc x = w) : c107_9 f (fu + 1) 216 sm (a : Int) (b : Int) v n (x : Int) (S, G, m) = if fIn x (a : Int) (b : Int) ∧ ¬ w = 9000000000000000000 then (if -1000000000000 ≤ w then c107_9 f fu 216 sm (a : Int) (b : Int) (xwl (v + (if w ≤ 1000000000000 then w else 0))) (xwr (n + 1)) ((x + 1 : Nat) : Int) (S, G, m) else some (w, (S, G, m))) else c107_9 f fu 216 sm (a : Int) (b : Int) v n ((x + 1 : Nat) : Int) (S, G, m) := by
  obtain ⟨_, a2⟩ := x6 a ha
  obtain ⟨_, b2⟩ := x6 b hb
  obtain ⟨_, c2'⟩ := x6 x (by omega)
  have ex : xwr ((x : Int) + 1) = ((x + 1 : Nat) : Int) := by rw [xwr_g _ (by omega) (by omega)]; omega
  show c107_9b (c107_9 f fu) f 216 _ _ _ _ _ _ _ = _
  unfold c107_9b
  rw [if_neg (by omega), a2, b2, c2']
  unfold c107_43
  have no : c107_44 (c107_9 f fu) f 216 sm (a : Int) (b : Int) v n (x : Int) 0 (S, G, m) = c107_9 f fu 216 sm (a : Int) (b : Int) v n ((x + 1 : Nat) : Int) (S, G, m) := by
    unfold c107_44 c107_120
    rw [if_pos rfl, ex]
  by_cases q : fIn x (a : Int) (b : Int)
  · have hw' := hw q
    have q' := q
    unfold fIn at q'
    rw [if_neg (by omega), if_neg (by omega)]
    unfold c107_44 c107_114 c107_120
    rw [if_neg (by decide)]
    by_cases c1 : w = 9000000000000000000
    · rw [if_neg (fun z => z.2 c1)]
      simp (disch := omega) only [cq_gi, cq_gr, cq_a, cq_s, cq_p, cq_pr, cq_is, cq_ar, cq_ab, cq_ln, xq_nz, Option.bind_some, xup2_n, xup2_s, Int.toNat_natCast, Int.reduceToNat, if_pos, if_neg, true_and, and_true, and_self, eq_self, if_true, reduceIte, not_true_eq_false, not_false_eq_true, or_true, true_or, s216 hs, h1, hc, hw', c1, ex]
    · rw [if_pos ⟨q, c1⟩]
      by_cases c2 : -1000000000000 ≤ w
      · rw [if_pos c2]
        by_cases c3 : w ≤ 1000000000000
        · rw [if_pos c3]
          simp (disch := omega) only [cq_gi, cq_gr, cq_a, cq_s, cq_p, cq_pr, cq_is, cq_ar, cq_ab, cq_ln, xq_nz, Option.bind_some, xup2_n, xup2_s, Int.toNat_natCast, Int.reduceToNat, if_pos, if_neg, true_and, and_true, and_self, eq_self, if_true, reduceIte, not_true_eq_false, not_false_eq_true, or_true, true_or, s216 hs, h1, hc, hw', c1, c2, c3, ex]
        · rw [if_neg c3]
          simp (disch := omega) only [cq_gi, cq_gr, cq_a, cq_s, cq_p, cq_pr, cq_is, cq_ar, cq_ab, cq_ln, xq_nz, Option.bind_some, xup2_n, xup2_s, Int.toNat_natCast, Int.reduceToNat, if_pos, if_neg, true_and, and_true, and_self, eq_self, if_true, reduceIte, not_true_eq_false, not_false_eq_true, or_true, true_or, s216 hs, h1, hc, hw', c1, c2, c3, ex]
      · rw [if_neg c2]
        simp (disch := omega) only [cq_gi, cq_gr, cq_a, cq_s, cq_p, cq_pr, cq_is, cq_ar, cq_ab, cq_ln, xq_nz, Option.bind_some, xup2_n, xup2_s, Int.toNat_natCast, Int.reduceToNat, if_pos, if_neg, true_and, and_true, and_self, eq_self, if_true, reduceIte, not_true_eq_false, not_false_eq_true, or_true, true_or, s216 hs, h1, hc, hw', c1, c2, ex]
  · rw [if_neg (show ¬ (fIn x (a : Int) (b : Int) ∧ ¬ w = 9000000000000000000) from fun z => q z.1)]
    unfold fIn at q
    by_cases c1 : x % 6 < a % 6
    · rw [if_pos (by omega)]; exact no
    · rw [if_neg (by omega), if_pos (by omega)]; exact no
theorem k_107l {sm : Int} {a b : Nat} (hs : cSs S) (h1 : G 216 1 = (cc : Int)) (hc : S cc = (2, 4, 72)) (ha : a < 72) (hb : b < 72) (hC : okC C) (hG : ∀ x, x < 72 → fIn x (a : Int) (b : Int) → G cc x = eC (C x)) : ∀ (d x fu : Nat) (v n : Int), x + d = b + 1 → d < fu → a ≤ x → (-(x : Int) * 1000000000000 ≤ v ∧ v ≤ (x : Int) * 1000000000000) → (0 ≤ n ∧ n ≤ x) → c107_9 f fu 216 sm (a : Int) (b : Int) v n (x : Int) (S, G, m) = some (eO sm (fOc C (a : Int) (b : Int) (72 - x) x v n), (S, G, m)) := by
  intro d
  induction d with
  | zero =>
    intro x fu v n e1 e2 e3 e4 e5
    obtain ⟨fu, rfl⟩ : ∃ t, fu = t + 1 := ⟨fu - 1, by omega⟩
    rw [st_107e (by omega), fOc_past _ _ _ _ (by omega)]
    rfl
  | succ d ih =>
    intro x fu v n e1 e2 e3 e4 e5
    obtain ⟨fu, rfl⟩ : ∃ t, fu = t + 1 := ⟨fu - 1, by omega⟩
    rw [st_107i hs h1 hc ha hb (by omega) e3 (hG x (by omega))]
    have ek : 72 - x = (72 - (x + 1)) + 1 := by omega
    rw [ek]
    have en : xwr (n + 1) = n + 1 := xwr_g _ (by omega) (by omega)
    show _ = some (eO sm (if fIn x (a : Int) (b : Int) ∧ ¬ (C x).1 = 0 then (if (C x).1 = 2 then .inl (C x).2 else fOc C (a : Int) (b : Int) (72 - (x + 1)) (x + 1) (if 2000000000000 ≤ (C x).2 then v else v + (C x).2) (n + 1)) else fOc C (a : Int) (b : Int) (72 - (x + 1)) (x + 1) v n), _)
    by_cases q : fIn x (a : Int) (b : Int)
    · rcases hC x (by omega) with ⟨z1, z2⟩ | ⟨z1, z2⟩ | ⟨z1, z2, z3⟩
      · have ee : eC (C x) = 9000000000000000000 := if_pos z1
        rw [if_neg (fun z => z.2 ee), if_neg (fun z => z.2 z1)]
        exact ih (x + 1) fu v n (by omega) (by omega) (by omega) (by omega) (by omega)
      · have ee : eC (C x) = (C x).2 := by unfold eC; rw [if_neg (by omega), if_pos z1]
        unfold vOk at z2
        rw [ee, if_pos (show fIn x (a : Int) (b : Int) ∧ ¬ (C x).2 = 9000000000000000000 from ⟨q, by omega⟩), if_pos (show -1000000000000 ≤ (C x).2 by omega), if_pos (show fIn x (a : Int) (b : Int) ∧ ¬ (C x).1 = 0 from ⟨q, by omega⟩), if_neg (show ¬ (C x).1 = 2 by omega), en]
        by_cases c3 : (C x).2 ≤ 1000000000000
        · rw [if_pos c3, if_neg (show ¬ 2000000000000 ≤ (C x).2 by omega), xwl_g _ (by omega) (by omega)]
          exact ih (x + 1) fu _ _ (by omega) (by omega) (by omega) (by omega) (by omega)
        · rw [if_neg c3, if_pos (show 2000000000000 ≤ (C x).2 by omega), Int.add_zero, xwl_g _ (by omega) (by omega)]
          exact ih (x + 1) fu _ _ (by omega) (by omega) (by omega) (by omega) (by omega)
      · have ee : eC (C x) = -9000000000000000000 + (C x).2 := by unfold eC; rw [if_neg (by omega), if_neg (by omega)]
        rw [ee, if_pos (show fIn x (a : Int) (b : Int) ∧ ¬ -9000000000000000000 + (C x).2 = 9000000000000000000 from ⟨q, by omega⟩), if_neg (show ¬ -1000000000000 ≤ -9000000000000000000 + (C x).2 by omega), if_pos (show fIn x (a : Int) (b : Int) ∧ ¬ (C x).1 = 0 from ⟨q, by omega⟩), if_pos z1]
        rfl
    · rw [if_neg (fun z => q z.1), if_neg (fun z => q z.1)]
      exact ih (x + 1) fu v n (by omega) (by omega) (by omega) (by omega) (by omega)
/-- overCells() -/
theorem k_107 {sm kd : Int} {a b : Nat} (hf : 100 < f) (h : cSe S G nx mo cc q rp s xr cr M C D) (ha : a < 72) (hb : b < 72) (hD : ∀ x, x < 72 → fIn x (a : Int) (b : Int) → D x) (hk : kd = 5 ∧ sm = 0 ∨ kd = 4 ∧ sm = 1) : c107 f 216 sm (a : Int) (b : Int) (S, G, m) = some (eW (fOv C kd (a : Int) (b : Int)), (S, G, m)) := by
  obtain ⟨hs, hp, ⟨_, h1⟩, ⟨hc, hG⟩, _, _, _, hC, _⟩ := h
  have fin : eO sm (fOc C (a : Int) (b : Int) (72 - a) a 0 0) = eW (fOv C kd (a : Int) (b : Int)) := by
    have e := fOc_skip (C := C) (a := (a : Int)) (b := (b : Int)) (v := 0) (n := 0) a (72 - a) (Int.le_refl _)
    rw [show a + (72 - a) = 72 by omega] at e
    unfold fOv
    rw [e]
    cases fOc C (a : Int) (b : Int) (72 - a) a 0 0 with
    | inl e => rfl
    | inr p =>
      rcases hk with ⟨k1, k2⟩ | ⟨k1, k2⟩
      · rw [k1, k2]; rfl
      · rw [k1, k2]; rfl
  rw [← fin]
  unfold c107
  by_cases c : a ≤ b + 1
  · exact k_107l hs h1 hc ha hb hC (fun x hx q => hG x hx (hD x hx q)) (b + 1 - a) a f 0 0 (by omega) (by omega) (Nat.le_refl _) (by omega) (by omega)
  · obtain ⟨g, rfl⟩ : ∃ t, f = t + 1 := ⟨f - 1, by omega⟩
    rw [st_107e (by omega), fOc_past _ _ _ _ (by omega)]
    rfl
end
