/-! load() of the house; line() -/
/-- what the house's methods change at most -/
def xfHo (G G' : xG_) : Prop := ∀ a j, ¬ (a = 0 ∧ (j ≤ 11 ∨ 21 ≤ j ∧ j ≤ 27 ∨ 37 ≤ j ∧ j ≤ 66 ∨ j = 74 ∨ 89 ≤ j ∧ j ≤ 91)) → ¬ (1 ≤ a ∧ a ≤ 71) → ¬ (107 ≤ a ∧ a ≤ 238) → ¬ (243 ≤ a ∧ a ≤ 256) → ¬ (258 ≤ a ∧ a ≤ 270) → G' a j = G a j
theorem xfHo.tr {G G1 G2 : xG_} (h1 : xfHo G G1) (h2 : xfHo G1 G2) : xfHo G G2 := fun a j q1 q2 q3 q4 q5 => (h2 a j q1 q2 q3 q4 q5).trans (h1 a j q1 q2 q3 q4 q5)
theorem rC.ge {G G' : xG_} (h : rC G) (hz : ∀ j, 12 ≤ j → j ≤ 20 → G' 0 j = G 0 j) : rC G' := by
  obtain ⟨k1, k2, k3, k4, k5, k6, k7, k8, k9⟩ := h
  exact ⟨by rw [hz _ (by decide) (by decide)]; exact k1, by rw [hz _ (by decide) (by decide)]; exact k2, by rw [hz _ (by decide) (by decide)]; exact k3, by rw [hz _ (by decide) (by decide)]; exact k4, by rw [hz _ (by decide) (by decide)]; exact k5, by rw [hz _ (by decide) (by decide)]; exact k6, by rw [hz _ (by decide) (by decide)]; exact k7, by rw [hz _ (by decide) (by decide)]; exact k8, by rw [hz _ (by decide) (by decide)]; exact k9⟩
/-- the house but for what is loaded -/
def rHc (G : xG_) (T : List (List Int)) (m : Nat) (lns : Nat → sLn) (n : Nat) : Prop := rC G ∧ rTxs G T m ∧ (∀ k, k < 4 → ∃ s M, isMo T (lMo (lns k)) s M ∧ rLn G (123 + 29 * k) T (lns k) s M ∧ sOk T (lns k) n)
theorem rHc.ge {G G' : xG_} {T : List (List Int)} {m n : Nat} {lns : Nat → sLn} (h : rHc G T m lns n) (h0 : ∀ j, 12 ≤ j ∧ j ≤ 20 ∨ 71 ≤ j ∧ j ≤ 72 → G' 0 j = G 0 j) (h1 : ∀ a j, 123 ≤ a → a ≤ 242 → a ≠ 240 → G' a j = G a j) : rHc G' T m lns n := by
  obtain ⟨a1, a2, a3⟩ := h
  refine ⟨a1.ge (fun j _ _ => h0 j (by omega)), a2.ge (h0 _ (by omega)) (h0 _ (by omega)) (fun a j _ => h1 _ _ (by omega) (by omega) (by omega)), fun k hk => ?_⟩
  obtain ⟨s, M, b1, b2, b3⟩ := a3 k hk
  exact ⟨s, M, b1, b2.ge (fun a j _ _ => h1 _ _ (by omega) (by omega) (by omega)), b3⟩
theorem rHc.mo {G : xG_} {T : List (List Int)} {m n n' : Nat} {lns : Nat → sLn} (h : rHc G T m lns n) (hn : n ≤ n') : rHc G T m lns n' := ⟨h.1, h.2.1, fun k hk => by
  obtain ⟨s, M, b1, b2, b3⟩ := h.2.2 k hk
  exact ⟨s, M, b1, b2, b3.mo hn⟩⟩
theorem rHb.c {G : xG_} {T : List (List Int)} {m hr n : Nat} {lns : Nat → sLn} (h : rHb G T m lns hr n) : rHc G T m lns n := ⟨h.1, h.2.1, h.2.2.2.2.1⟩
theorem rHb.of {G : xG_} {T : List (List Int)} {m hr n : Nat} {lns : Nat → sLn} (h : rHc G T m lns n) (h1 : G 0 62 = (hr : Int)) (h2 : hr < 4) (h3 : 0 ≤ G 0 63 ∧ G 0 63 ≤ n) (h4 : 0 ≤ G 0 64 ∧ G 0 64 ≤ n) (h5 : G 0 65 ≤ G 0 64) (h6 : rLd G T lns) : rHb G T m lns hr n := ⟨h.1, h.2.1, h1, h2, h.2.2, h3, h4, h5, h6⟩
theorem rLd.ge {G G' : xG_} {T : List (List Int)} {lns : Nat → sLn} (h : rLd G T lns) (h0 : ∀ j, 64 ≤ j → j ≤ 66 → G' 0 j = G 0 j) (h1 : ∀ a j, 2 ≤ a → a ≤ 36 → G' a j = G a j) (h2 : ∀ a j, 107 ≤ a → a ≤ 109 → G' a j = G a j) : rLd G' T lns := fun e k hk e2 s M hM => by
  rw [h0 _ (by decide) (by decide), h0 _ (by decide) (by decide)] at e
  rw [h0 _ (by decide) (by decide)] at e2
  obtain ⟨q, c, r⟩ := h e k hk e2 s M hM
  exact ⟨q, c, r.ge h1 h2⟩
section
variable {f m n hr : Nat} {T : List (List Int)} {lns : Nat → sLn}
/-- load() -/
theorem l_ld {G : xG_} (hf : 1000100 < f) (h : rHb G T m lns hr n) :
    ∃ G' q c s M, g296 f G = some G' ∧ xLd G G' ∧ isMo T (lMo (lns hr)) s M ∧ rEn G' q c s M ∧ rHb G' T m lns hr n := by
  have hc := h.c
  obtain ⟨a1, a2, a3, a4, a5, a6, a7, a8, a9⟩ := h
  obtain ⟨s, M, b1, b2, b3⟩ := a5 hr a4
  obtain ⟨c1, c2, c3, c4, c5, c6, c7⟩ := b1
  obtain ⟨G', q, c, k1, k2, k3, k4, k5⟩ := l_296 (f := f) (h := hr) (o := 123 + 29 * hr) hf a4 rfl a3 a1 a2 c1 b2.2.1.1 c2 c3 c4 c5 b2.2.2.1 c6 (fun e1 e2 => a9 e1 hr a4 e2 s M ⟨c1, c2, c3, c4, c5, c6, c7⟩)
  have z : ∀ a j, ¬ (a = 0 ∧ (j ≤ 11 ∨ 21 ≤ j ∧ j ≤ 27 ∨ 37 ≤ j ∧ j ≤ 61 ∨ 65 ≤ j ∧ j ≤ 66)) → ¬ (1 ≤ a ∧ a ≤ 36) → ¬ (107 ≤ a ∧ a ≤ 121) → G' a j = G a j := fun a j q1 q2 q3 => k2 a j (by omega) q2 (by omega)
  refine ⟨G', q, c, s, M, k1, k2, ⟨c1, c2, c3, c4, c5, c6, c7⟩, k3, ?_⟩
  refine rHb.of (hc.ge (fun j _ => z _ _ (by omega) (by omega) (by omega)) (fun a j _ _ _ => z _ _ (by omega) (by omega) (by omega))) (by rw [z _ _ (by omega) (by omega) (by omega)]; exact a3) a4 (by rw [z _ _ (by omega) (by omega) (by omega)]; exact a6) (by rw [z _ _ (by omega) (by omega) (by omega)]; exact a7) (by rw [k4, z 0 64 (by omega) (by omega) (by omega)]; exact Int.le_refl _) ?_
  intro _ k hk e2 s' M' hM'
  rw [k5] at e2
  have : hr = k := by omega
  subst this
  obtain ⟨e3, e4⟩ := isMo_u (⟨c1, c2, c3, c4, c5, c6, c7⟩ : isMo T (lMo (lns hr)) s M) hM'
  subst e3
  exact ⟨q, c, k3.ext e4⟩
/-- only (0, 74) has changed -/
theorem rHb.u74 {G : xG_} {v : Int} (h : rHb G T m lns hr n) : rHb (xup2 G 0 74 v) T m lns hr n := by
  have hc := h.c
  obtain ⟨a1, a2, a3, a4, a5, a6, a7, a8, a9⟩ := h
  have z : ∀ a j, ¬ (a = 0 ∧ j = 74) → xup2 G 0 74 v a j = G a j := fun a j q => xup2_n (by omega)
  exact rHb.of (hc.ge (fun j _ => z _ _ (by omega)) (fun a j _ _ _ => z _ _ (by omega))) (by rw [z _ _ (by omega)]; exact a3) a4 (by rw [z _ _ (by omega)]; exact a6) (by rw [z _ _ (by omega)]; exact a7) (by rw [z _ _ (by omega), z _ _ (by omega)]; exact a8) (a9.ge (fun j _ _ => z _ _ (by omega)) (fun a j _ _ => z _ _ (by omega)) (fun a j _ _ => z _ _ (by omega)))
theorem rHb.mo {G : xG_} {n' : Nat} (h : rHb G T m lns hr n) (hn : n ≤ n') : rHb G T m lns hr n' := by
  have hc := h.c
  obtain ⟨a1, a2, a3, a4, a5, a6, a7, a8, a9⟩ := h
  exact rHb.of (hc.mo hn) a3 a4 ⟨a6.1, by omega⟩ ⟨a7.1, by omega⟩ a8 a9
/-- the latest round isn't told any more -/
def lnT (ln : sLn) : sLn := (ln.1, ln.2.1, (ln.2.2.1.1, ln.2.2.1.2.1, false), ln.2.2.2.1, ln.2.2.2.2)
/-- line() -/
theorem l_317 {G : xG_} {k : Int} (hf : 100 < f) (h : rHb G T m lns hr n) :
    ∃ G', g317 f k G = some (if 0 ≤ k ∧ k < 4 then (hr : Int) else -1, G') ∧ rHb G' T m (if 0 ≤ k ∧ k < 4 then (fun x => if x = k.toNat then lnT (lns x) else lns x) else lns) (if 0 ≤ k ∧ k < 4 then k.toNat else hr) n ∧ G' 0 74 = 0 ∧ G' 0 63 = G 0 63 ∧ xfHo G G' := by
  have h0 := h.u74 (v := 0)
  by_cases c : 0 ≤ k ∧ k < 4
  · obtain ⟨x, rfl⟩ : ∃ x : Nat, k = (x : Int) := ⟨k.toNat, by omega⟩
    have hx : x < 4 := by omega
    have hc := h.c
    obtain ⟨a1, a2, a3, a4, a5, a6, a7, a8, a9⟩ := h
    obtain ⟨G1, u1, u2, u3, u4⟩ := l_203 (f := f) (o := 123 + 29 * x) (G := xup2 (xup2 G 0 74 0) 0 62 (x : Int)) (by omega)
    have z : ∀ a j, ¬ (a = 0 ∧ (j = 74 ∨ j = 62)) → ¬ (a = 123 + 29 * x ∧ j = 27) → ¬ (a = 123 + 29 * x + 19 ∧ j < 16) → G1 a j = G a j := fun a j q1 q2 q3 => by rw [u4 a j q2 q3, xup2_n (by omega), xup2_n (by omega)]
    rw [if_pos c, if_pos c, if_pos c, Int.toNat_natCast]
    refine ⟨G1, ?_, ?_, ?_, ?_, fun a j q1 q2 q3 q4 q5 => z a j (by omega) (by omega) (by omega)⟩
    · unfold g317
      rw [Option.bind_some, if_neg (by omega), if_pos (by omega), Option.bind_some, if_pos c, Int.toNat_natCast, u1, Option.bind_some, xup2_n (by omega), a3]
    · refine rHb.of ⟨a1.ge (fun j _ _ => z _ _ (by omega) (by omega) (by omega)), a2.ge (z _ _ (by omega) (by omega) (by omega)) (z _ _ (by omega) (by omega) (by omega)) (fun a j _ => z _ _ (by omega) (by omega) (by omega)), fun y hy => ?_⟩ (by rw [u4 _ _ (by omega) (by omega), xup2_s]) hx (by rw [z _ _ (by omega) (by omega) (by omega)]; exact a6) (by rw [z _ _ (by omega) (by omega) (by omega)]; exact a7) (by rw [z _ _ (by omega) (by omega) (by omega), z _ _ (by omega) (by omega) (by omega)]; exact a8) ?_
      · obtain ⟨s, M, b1, b2, b3⟩ := a5 y hy
        by_cases d : y = x
        · simp only [if_pos d]
          rw [d] at b1 b2 b3 ⊢
          refine ⟨s, M, b1, ?_, b3⟩
          obtain ⟨r1, ⟨r2, r3, r4, r5⟩, r6, r7, r8, r9, r10, r11, r18, ⟨r13, r14, r15⟩, r16, r17⟩ := b2
          have zz : ∀ a j, 123 + 29 * x ≤ a → ¬ (a = 123 + 29 * x ∧ j = 27) → a ≠ 123 + 29 * x + 19 → G1 a j = G a j := fun a j q1 q2 q3 => z _ _ (by omega) q2 (by omega)
          refine ⟨⟨r1.1.ge (zz _ _ (by omega) (by omega) (by omega)) (fun a j _ _ => zz _ _ (by omega) (by omega) (by omega)), r1.2.1.ge (zz _ _ (by omega) (by omega) (by omega)) (fun a j _ _ => zz _ _ (by omega) (by omega) (by omega)), r1.2.2.1.ge (zz _ _ (by omega) (by omega) (by omega)) (fun a j _ _ => zz _ _ (by omega) (by omega) (by omega)), r1.2.2.2⟩, ⟨by rw [zz _ _ (by omega) (by omega) (by omega)]; exact r2, by rw [zz _ _ (by omega) (by omega) (by omega)]; exact r3, by rw [zz _ _ (by omega) (by omega) (by omega)]; exact r4, by rw [zz _ _ (by omega) (by omega) (by omega)]; exact r5⟩, r6.ge (zz _ _ (by omega) (by omega) (by omega)) (fun a j _ _ => zz _ _ (by omega) (by omega) (by omega)), fun c hc => by rw [zz _ _ (by omega) (by omega) (by omega)]; exact r7 c hc, fun c hc => by rw [zz _ _ (by omega) (by omega) (by omega), zz _ _ (by omega) (by omega) (by omega)]; exact r8 c hc, fun p hp => by rw [zz _ _ (by omega) (by omega) (by omega)]; exact r9 p hp, fun c hc => by rw [zz _ _ (by omega) (by omega) (by omega)]; exact r10 c hc, ⟨[], ⟨u2, Nat.zero_le _, fun i hi => absurd hi (Nat.not_lt_zero i)⟩, fun q => absurd (show false = true from q) (by decide), fun _ => rfl⟩, ⟨fun q => absurd (show false = true from q) (by decide), fun _ p hp => u3 p hp⟩, ⟨r13.ge (zz _ _ (by omega) (by omega) (by omega)) (fun a j _ _ => zz _ _ (by omega) (by omega) (by omega)), by rw [zz _ _ (by omega) (by omega) (by omega)]; exact r14, fun c hc => by rw [zz _ _ (by omega) (by omega) (by omega)]; exact r15 c hc⟩, by rw [zz _ _ (by omega) (by omega) (by omega)]; exact r16, by rw [zz _ _ (by omega) (by omega) (by omega)]; exact r17⟩
        · simp only [if_neg d]
          exact ⟨s, M, b1, b2.ge (fun a j _ _ => z _ _ (by omega) (by omega) (by omega)), b3⟩
      · have hl := a9.ge (G' := G1) (fun j _ _ => z _ _ (by omega) (by omega) (by omega)) (fun a j _ _ => z _ _ (by omega) (by omega) (by omega)) (fun a j _ _ => z _ _ (by omega) (by omega) (by omega))
        intro e1 y hy e2 s M hM
        refine hl e1 y hy e2 s M ?_
        by_cases d : y = x
        · simp only [if_pos d] at hM
          exact hM
        · simp only [if_neg d] at hM
          exact hM
    · rw [u4 _ _ (by omega) (by omega), xup2_n (by omega), xup2_s]
    · exact z _ _ (by omega) (by omega) (by omega)
  · rw [if_neg c, if_neg c, if_neg c]
    refine ⟨xup2 G 0 74 0, ?_, h0, xup2_s _ _ _ _, xup2_n (by omega), fun a j q1 q2 q3 q4 q5 => xup2_n (by omega)⟩
    unfold g317 g317_14
    rw [Option.bind_some]
    by_cases c1 : k < 0
    · rw [if_pos c1]
    · rw [if_neg c1, if_neg (by omega)]
end
