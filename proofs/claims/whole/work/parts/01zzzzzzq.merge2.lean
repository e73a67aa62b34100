/-! merge() -/
/-- editions grow -/
def eMo (H : Nat → sMo) (n : Nat) : Prop := ∀ r, 0 < r → r ≤ n → ((H r).2.2.2.2 = true → (H (r - 1)).1 < (H r).1) ∧ ((H r).2.2.2.2 ≠ true → (H r).1 = (H (r - 1)).1)
theorem eMo_le {H : Nat → sMo} {n : Nat} (h : eMo H n) : ∀ (d r : Nat), r + d ≤ n → (H r).1 ≤ (H (r + d)).1
  | 0, _, _ => Nat.le_refl _
  | d + 1, r, hn => by
    have h1 := eMo_le h d r (by omega)
    have h2 := h (r + d + 1) (by omega) (by omega)
    rw [show r + d + 1 - 1 = r + d by omega] at h2
    rw [show r + (d + 1) = r + d + 1 by omega]
    by_cases c : (H (r + d + 1)).2.2.2.2 = true
    · have := h2.1 c; omega
    · have := h2.2 c; omega
/-- no edition was taken behind x -/
theorem eMo_no {H : Nat → sMo} {n x : Nat} (h : eMo H n) (hx : x ≤ n) : (∀ r, x < r → r ≤ n → (H r).2.2.2.2 ≠ true) ↔ (H n).1 = (H x).1 := by
  constructor
  · intro hno
    have go : ∀ d, x + d ≤ n → (H (x + d)).1 = (H x).1 := fun d => by
      induction d with
      | zero => intro _; rfl
      | succ d ih =>
        intro hd
        have h2 := (h (x + d + 1) (by omega) (by omega)).2 (hno (x + d + 1) (by omega) (by omega))
        rw [show x + d + 1 - 1 = x + d by omega] at h2
        rw [show x + (d + 1) = x + d + 1 by omega, h2]
        exact ih (by omega)
    have := go (n - x) (by omega)
    rw [show x + (n - x) = n by omega] at this
    exact this
  · intro e r r1 r2 c
    have h1 := (h r (by omega) r2).1 c
    have h2 := eMo_le h (r - 1 - x) x (by omega)
    rw [show x + (r - 1 - x) = r - 1 by omega] at h2
    have h3 := eMo_le h (n - r) r (by omega)
    rw [show r + (n - r) = n by omega] at h3
    omega
theorem hEg_mem {H : Nat → sMo} {b : Nat} {a : pEg} : ∀ k, a ∈ hCat (hEg H) b k ↔ ∃ r, b < r ∧ r ≤ b + k ∧ (H r).2.2.2.2 = true ∧ a = ((r : Int), ((H (r - 1)).1 : Int))
  | 0 => ⟨fun h => (by cases h), fun ⟨r, r1, r2, _⟩ => by omega⟩
  | k + 1 => by
    show a ∈ hCat (hEg H) b k ++ hEg H (b + k + 1) ↔ _
    rw [List.mem_append, hEg_mem k]
    constructor
    · rintro (⟨r, r1, r2, r3⟩ | h)
      · exact ⟨r, r1, by omega, r3⟩
      · unfold hEg at h
        by_cases c : (H (b + k + 1)).2.2.2.2 = true
        · rw [if_pos c] at h
          exact ⟨b + k + 1, by omega, by omega, c, List.mem_singleton.mp h⟩
        · rw [if_neg c] at h; cases h
    · rintro ⟨r, r1, r2, r3, r4⟩
      by_cases c : r = b + k + 1
      · refine .inr ?_
        unfold hEg
        rw [c] at r3 r4
        rw [if_pos r3, r4]
        exact List.mem_singleton.mpr rfl
      · exact .inl ⟨r, r1, by omega, r3, r4⟩
theorem hEg_no {H : Nat → sMo} {b k x : Nat} : (lgK (x : Int) (hCat (hEg H) b k)).length = 0 ↔ ∀ r, b < r → r ≤ b + k → x < r → (H r).2.2.2.2 ≠ true := by
  rw [List.length_eq_zero_iff]
  constructor
  · intro h r r1 r2 r3 c
    have : (((r : Int), ((H (r - 1)).1 : Int)) : pEg) ∈ lgK (x : Int) (hCat (hEg H) b k) := lgK_mem.mpr ⟨(hEg_mem k).mpr ⟨r, r1, r2, c, rfl⟩, by show (x : Int) < (r : Int); omega⟩
    rw [h] at this
    cases this
  · intro h
    refine List.eq_nil_iff_forall_not_mem.mpr (fun a ha => ?_)
    obtain ⟨h1, h2⟩ := lgK_mem.mp ha
    obtain ⟨r, r1, r2, r3, r4⟩ := (hEg_mem k).mp h1
    rw [r4] at h2
    exact h r r1 r2 (by have : (x : Int) < (r : Int) := h2; omega) r3
/-- what holds of a line, beyond its own state -/
def lInv (T : List (List Int)) (ln : sLn) : Prop := (∀ r, ln.2.1.1 ≤ r → r ≤ ln.2.1.1 + ln.2.1.2.1 → ∃ s M, isMo T (ln.1 r) s M ∧ ukM s M) ∧ eMo ln.1 (ln.2.1.1 + ln.2.1.2.1) ∧ (ln.2.2.2.1.2.1 = -1 ∨ ((lMo ln).1 : Int) < ln.2.2.2.1.2.1)
def fInv (lns : Nat → sLn) : Prop := ∀ y, y < 4 → (lns y).2.2.2.2.1 = -1 ∨ ∃ x r : Nat, x < 4 ∧ x ≠ y ∧ (lns y).2.2.2.2 = ((x : Int), (r : Int)) ∧ r ≤ (lns x).2.1.1 + (lns x).2.1.2.1 ∧ r ≤ (lns y).2.1.1 + (lns y).2.1.2.1 ∧ ((lns y).1 r).1 = ((lns x).1 r).1
def hInv (T : List (List Int)) (lns : Nat → sLn) : Prop := (∀ y, y < 4 → lInv T (lns y)) ∧ fInv lns
def lnP (ln : sLn) (ps : List pPe) : sLn := (ln.1, ln.2.1, ln.2.2.1, (ps, ln.2.2.2.1.2), ln.2.2.2.2)
theorem rLn.pe {G G' : xG_} {o : Nat} {T : List (List Int)} {ln : sLn} {s : pPg} {M : Nat → List pRw} {ps : List pPe} (h : rLn G o T ln s M) (hx : ∀ a j, o ≤ a → a ≤ o + 28 → ¬ (a = o ∧ j = 33) → a ≠ o + 24 → a ≠ o + 25 → a ≠ o + 27 → a ≠ o + 28 → G' a j = G a j) (hp : rPe G' o ps) : rLn G' o T (lnP ln ps) s M := by
  obtain ⟨r1, ⟨r2, r3, r4, r5⟩, r6, r7, r8, r9, r10, ⟨E, r11, r12⟩, r18, ⟨r13, r14, r15⟩, r16, r17⟩ := h
  have zz : ∀ a j, o ≤ a → a ≤ o + 28 → ¬ (a = o ∧ j = 33) → a ≠ o + 24 → a ≠ o + 25 → a ≠ o + 27 → a ≠ o + 28 → G' a j = G a j := hx
  exact ⟨⟨r1.1.ge (zz _ _ (by omega) (by omega) (by omega) (by omega) (by omega) (by omega) (by omega)) (fun a j _ _ => zz _ _ (by omega) (by omega) (by omega) (by omega) (by omega) (by omega) (by omega)), r1.2.1.ge (zz _ _ (by omega) (by omega) (by omega) (by omega) (by omega) (by omega) (by omega)) (fun a j _ _ => zz _ _ (by omega) (by omega) (by omega) (by omega) (by omega) (by omega) (by omega)), r1.2.2.1.ge (zz _ _ (by omega) (by omega) (by omega) (by omega) (by omega) (by omega) (by omega)) (fun a j _ _ => zz _ _ (by omega) (by omega) (by omega) (by omega) (by omega) (by omega) (by omega)), r1.2.2.2⟩, ⟨by rw [zz _ _ (by omega) (by omega) (by omega) (by omega) (by omega) (by omega) (by omega)]; exact r2, by rw [zz _ _ (by omega) (by omega) (by omega) (by omega) (by omega) (by omega) (by omega)]; exact r3, by rw [zz _ _ (by omega) (by omega) (by omega) (by omega) (by omega) (by omega) (by omega)]; exact r4, by rw [zz _ _ (by omega) (by omega) (by omega) (by omega) (by omega) (by omega) (by omega)]; exact r5⟩, r6.ge (zz _ _ (by omega) (by omega) (by omega) (by omega) (by omega) (by omega) (by omega)) (fun a j _ _ => zz _ _ (by omega) (by omega) (by omega) (by omega) (by omega) (by omega) (by omega)), fun c hc => by rw [zz _ _ (by omega) (by omega) (by omega) (by omega) (by omega) (by omega) (by omega)]; exact r7 c hc, fun c hc => by rw [zz _ _ (by omega) (by omega) (by omega) (by omega) (by omega) (by omega) (by omega), zz _ _ (by omega) (by omega) (by omega) (by omega) (by omega) (by omega) (by omega)]; exact r8 c hc, fun p hp => by rw [zz _ _ (by omega) (by omega) (by omega) (by omega) (by omega) (by omega) (by omega)]; exact r9 p hp, fun c hc => by rw [zz _ _ (by omega) (by omega) (by omega) (by omega) (by omega) (by omega) (by omega)]; exact r10 c hc, ⟨E, r11.ge (zz _ _ (by omega) (by omega) (by omega) (by omega) (by omega) (by omega) (by omega)) (fun a j _ _ => zz _ _ (by omega) (by omega) (by omega) (by omega) (by omega) (by omega) (by omega)), r12⟩, r18.ge (fun j => zz _ _ (by omega) (by omega) (by omega) (by omega) (by omega) (by omega) (by omega)), ⟨hp, by rw [zz _ _ (by omega) (by omega) (by omega) (by omega) (by omega) (by omega) (by omega)]; exact r14, fun c hc => by rw [zz _ _ (by omega) (by omega) (by omega) (by omega) (by omega) (by omega) (by omega)]; exact r15 c hc⟩, by rw [zz _ _ (by omega) (by omega) (by omega) (by omega) (by omega) (by omega) (by omega)]; exact r16, by rw [zz _ _ (by omega) (by omega) (by omega) (by omega) (by omega) (by omega) (by omega)]; exact r17⟩
theorem sOk.pe {T : List (List Int)} {ln : sLn} {n : Nat} {ps : List pPe} (h : sOk T ln n) (hp : ∀ e ∈ ps, ∀ x ∈ e.2.2, vOk x) : sOk T (lnP ln ps) n := by
  obtain ⟨a1, a2, a3, a4, a5, a6, a7, a8, a9⟩ := h
  exact ⟨a1, a2, a3, a4, a5, a6, a7, hp, a9⟩
theorem dfA_v {s : pPg} {B Z : List pFc} (hB : ∀ y ∈ B, ∀ x ∈ y.2, vOk x) (hZ : ∀ y ∈ Z, ∀ x ∈ y.2, vOk x) : ∀ p, ∀ e ∈ dfA s B Z p, ∀ x ∈ e.2.2, vOk x
  | 0, e, he => by cases he
  | p + 1, e, he => by
    rcases List.mem_append.mp he with q | q
    · exact dfA_v hB hZ p e q
    · split at q
      · have go : ∀ {sg : Int} {F F' : List pFc}, (∀ y ∈ F, ∀ x ∈ y.2, vOk x) → e ∈ dfC sg (qNm s p) F F' → ∀ x ∈ e.2.2, vOk x := fun {sg F F'} hF hm => by
          unfold dfC at hm
          obtain ⟨y, y1, y2⟩ := List.mem_map.mp hm
          rw [← y2]
          exact hF y (List.mem_filter.mp y1).1
        rcases List.mem_append.mp q with q | q
        · exact go hZ q
        · exact go hB q
      · cases q
/-- merge() -/
def mgOk (lns : Nat → sLn) (hr : Nat) (k : Int) : Prop := 0 ≤ k ∧ k < 4 ∧ k ≠ (hr : Int) ∧ (lns k.toNat).2.2.2.2.1 = (hr : Int) ∧ ((lns hr).2.1.1 : Int) ≤ (lns k.toNat).2.2.2.2.2 ∧ (lns k.toNat).2.2.2.2.2 ≤ (((lns hr).2.1.1 + (lns hr).2.1.2.1 : Nat) : Int)
/-- three moments of one edition; KEYS stand once -/
def mgSm (s : pPg) (A B Z : sMo) : Prop := (A.1 = Z.1 ∧ B.1 = Z.1) ∧ ∀ p, p < s.1.length → pIn s.2.1 (p : Int) = true → 0 < qKy s p → wKf A.2.1 (qNm s p) (qKy s p) (qN s p) ∧ wKf B.2.1 (qNm s p) (qKy s p) (qN s p) ∧ wKf Z.2.1 (qNm s p) (qKy s p) (qN s p)
def stMg (T : List (List Int)) (lns : Nat → sLn) (hr : Nat) (k : Int) (mt : Int × List Int) (v : Int) (mt' : Int × List Int) (lns' : Nat → sLn) : Prop :=
  (¬ mgOk lns hr k ∧ v = -1 ∧ mt' = mt ∧ lns' = lns) ∨
  (mgOk lns hr k ∧ ¬ ((lMo (lns hr)).1 = ((lns hr).1 (lns k.toNat).2.2.2.2.2.toNat).1 ∧ (lMo (lns k.toNat)).1 = ((lns hr).1 (lns k.toNat).2.2.2.2.2.toNat).1) ∧ v = -2 ∧ mt' = mt ∧ lns' = lns) ∨
  (mgOk lns hr k ∧ ∃ s Ma Mb Mz, isMo T (lMo (lns hr)) s Ma ∧ isMo T (lMo (lns k.toNat)) s Mb ∧ isMo T ((lns hr).1 (lns k.toNat).2.2.2.2.2.toNat) s Mz ∧ mgSm s (lMo (lns hr)) (lMo (lns k.toNat)) ((lns hr).1 (lns k.toNat).2.2.2.2.2.toNat) ∧
    ((∃ (p : Nat) (κ : List Int), isMp s (lMo (lns hr)).2.1 (lMo (lns k.toNat)).2.1 ((lns hr).1 (lns k.toNat).2.2.2.2.2.toNat).2.1 p κ ∧ v = -3 ∧ mt' = ((p : Int), κ) ∧ lns' = lns) ∨
     ((∀ p, p < s.1.length → pIn s.2.1 (p : Int) = true → 0 < qKy s p → ∀ κ, ¬ mtF (lMo (lns hr)).2.1 (lMo (lns k.toNat)).2.1 ((lns hr).1 (lns k.toNat).2.2.2.2.2.toNat).2.1 (qNm s p) (qKy s p) κ) ∧ mt' = mt ∧
       ((400 < (lns hr).2.2.2.1.1.length + (dfA s (lMo (lns k.toNat)).2.1 ((lns hr).1 (lns k.toNat).2.2.2.2.2.toNat).2.1 s.1.length).length ∧ v = -4 ∧ lns' = lns) ∨
        ((lns hr).2.2.2.1.1.length + (dfA s (lMo (lns k.toNat)).2.1 ((lns hr).1 (lns k.toNat).2.2.2.2.2.toNat).2.1 s.1.length).length ≤ 400 ∧ v = ((dfA s (lMo (lns k.toNat)).2.1 ((lns hr).1 (lns k.toNat).2.2.2.2.2.toNat).2.1 s.1.length).length : Int) ∧ lns' = fun y => if y = hr then lnP (lns y) ((lns hr).2.2.2.1.1 ++ dfA s (lMo (lns k.toNat)).2.1 ((lns hr).1 (lns k.toNat).2.2.2.2.2.toNat).2.1 s.1.length) else lns y)))))
