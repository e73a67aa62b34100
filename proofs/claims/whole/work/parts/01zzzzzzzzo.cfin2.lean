/-! THE CLASS: finish() -/
/-- a rule of the class that is read -/
def cRul (S : Nat → Nat × Nat × Nat) (G : xG_) (u : Nat) (V : List (Int × Nat)) (g : Int × Int × Int) (I : List pCd) (Ls : List pLt) : Prop := ∃ K, cRq S G u K Ls ∧ cIt G u K g I ∧ cPl G u V.length Ls (qAs g I) ∧ G u 6 = (V.length : Int) ∧ V.length ≤ 8 ∧ ∀ v, v < V.length → G (u + 1) v = ((V.getD v (0, 0)).2 : Int)
section
variable {f u nv sl : Nat} {S S' : Nat → Nat × Nat × Nat} {G G' : xG_} {m : Nat × Nat} {K : pCd} {Ls : List pLt} {g : Int × Int × Int} {I : List pCd} {V : List (Int × Nat)}
theorem st_383 {a n : Nat} (hS : S 73 = (2, 3, 3001)) (hn : n ≤ 3000) : c383 f 73 (n : Int) (S, G, (a, sl)) = ((cq_na 3 (n : Int) (S, G, (a, sl))).bind fun p104 => ((cq_ln 73 p104.2).bind fun v109 => ((cq_cp 73 0 p104.1 0 (xmin v109 (n : Int)) p104.2).bind fun T112 => (some (p104.1, T112))))) := by
  unfold c383
  rw [show cq_ln 73 (S, G, (a, sl)) = some 3001 from (by unfold cq_ln; show (if (S 73).1 = 2 ∧ (S 73).2.2 < 2147483648 then some ((S 73).2.2 : Int) else none) = _; rw [hS, if_pos ⟨rfl, by decide⟩]; rfl), Option.bind_some, if_pos (by omega)]
theorem st_384 {a n : Nat} (hS : S 74 = (2, 4, 3001)) (hn : n ≤ 3000) : c384 f 74 (n : Int) (S, G, (a, sl)) = ((cq_na 4 (n : Int) (S, G, (a, sl))).bind fun p104 => ((cq_ln 74 p104.2).bind fun v109 => ((cq_cp 74 0 p104.1 0 (xmin v109 (n : Int)) p104.2).bind fun T112 => (some (p104.1, T112))))) := by
  unfold c384
  rw [show cq_ln 74 (S, G, (a, sl)) = some 3001 from (by unfold cq_ln; show (if (S 74).1 = 2 ∧ (S 74).2.2 < 2147483648 then some ((S 74).2.2 : Int) else none) = _; rw [hS, if_pos ⟨rfl, by decide⟩]; rfl), Option.bind_some, if_pos (by omega)]
theorem cRuS.ge (h : cRuS S u) (h0 : ∀ a, a < u + 11 → S' a = S a) : cRuS S' u := by
  unfold cRuS at h ⊢
  rw [h0 u (by omega), h0 (u + 1) (by omega), h0 (u + 2) (by omega), h0 (u + 3) (by omega), h0 (u + 4) (by omega), h0 (u + 5) (by omega), h0 (u + 6) (by omega), h0 (u + 7) (by omega), h0 (u + 8) (by omega), h0 (u + 9) (by omega), h0 (u + 10) (by omega)]
  exact h
theorem cRuP.ge (h : cRuP G u) (h0 : ∀ j, j ≠ 16 → j ≠ 17 → G' u j = G u j) : cRuP G' u := by
  unfold cRuP at h ⊢
  rw [h0 7 (by decide) (by decide), h0 9 (by decide) (by decide), h0 10 (by decide) (by decide), h0 11 (by decide) (by decide), h0 12 (by decide) (by decide), h0 13 (by decide) (by decide), h0 14 (by decide) (by decide), h0 15 (by decide) (by decide), h0 18 (by decide) (by decide), h0 19 (by decide) (by decide)]
  exact h
theorem cLs.rule (h : cLs G u K Ls) (h0 : G' u 8 = G u 8) (h1 : ∀ a j, u + 2 ≤ a → a ≤ u + 8 → G' a j = G a j) : cLs G' u K Ls := by
  have hl : cLs G' u (K ++ []) Ls := ⟨by rw [h0]; exact h.1, h.2.1, fun l hl => (h.2.2 l hl).ge (fun a z1 z2 => h1 a l (by omega) (by omega)) (fun j _ => ⟨h1 _ j (by omega) (by omega), h1 _ j (by omega) (by omega)⟩) (fun j _ _ => ⟨h1 _ j (by omega) (by omega), h1 _ j (by omega) (by omega)⟩)⟩
  rw [List.append_nil] at hl
  exact hl
theorem cIt.rule (h : cIt G u K g I) (h0 : ∀ j, 2 ≤ j → j ≤ 5 → G' u j = G u j) (h1 : ∀ a j, u + 7 ≤ a → a ≤ u + 8 → G' a j = G a j) : cIt G' u K g I := by
  refine ⟨by rw [h0 2 (by decide) (by decide)]; exact h.1, h.2.1, fun c hc => ?_, fun c z1 z2 => ?_, h.2.2.2.2.ge (fun j z1 z2 => h0 j (by omega) z2)⟩
  · have q := cSg.ge (D := []) (G' := G') (h.2.2.1 c hc) (h1 _ _ (by omega) (by omega)) (h1 _ _ (by omega) (by omega))
    rw [List.append_nil] at q
    exact q
  · rw [h1 _ _ (by omega) (by omega), h1 _ _ (by omega) (by omega)]
    exact h.2.2.2.1 c z1 z2
/-- finish() -/
theorem k_88 (hf : 3010 < f) (hs : cSs S) (hu : 278 < u) (hS : cRuS S u) (hP : cRuP G u) (hL : cLs G u K Ls) (hI : cIt G u K g I) (hC : cCo G K) (hK : K.length ≤ 3000) (hV : G u 6 = (V.length : Int) ∧ V.length ≤ 8 ∧ ∀ v, v < V.length → G (u + 1) v = ((V.getD v (0, 0)).2 : Int)) (hw : ∀ y ∈ Ls, wLv V.length y) (hwI : ∀ E ∈ I, wC V.length E) (hg : g.1 = 0 ∨ g.1 = 10 ∨ 0 ≤ g.2.2 ∧ g.2.2 < V.length) (hz : ∀ k, k < 8 → G (u + 9) k = 0) :
    ∃ S' G', c88 f u 73 74 (K.length : Int) (S, G, (u + 11, sl)) = some (S', G', (u + 13, sl + 2 * K.length)) ∧ (∀ a, a < u + 11 → S' a = S a) ∧ (∀ a j, a < u + 11 → ¬ (a = u ∧ (j = 16 ∨ j = 17)) → a ≠ u + 9 → a ≠ u + 10 → G' a j = G a j) ∧ cRul S' G' u V g I Ls := by
  obtain ⟨S1, G1, a1, a2, a3, a4, a5⟩ := cpy (sl := sl) (G := G) (n := K.length) (a := u + 11) (.inl rfl) (s73 hs) (by omega) (by omega) (by omega)
  have us1 : S1 u = (1, 6, 20) := by rw [a2 u (by omega)]; exact hS.1
  have s74' : S1 74 = (2, 4, 3001) := by rw [a2 74 (by omega)]; exact s74 hs
  obtain ⟨S2, G2, b1, b2, b3, b4, b5⟩ := cpy (sl := sl + K.length) (S := S1) (G := xup2 G1 u 16 ((u + 11 : Nat) : Int)) (n := K.length) (a := u + 12) (.inr rfl) s74' (by omega) (by omega) (by omega)
  have us2 : S2 u = (1, 6, 20) := by rw [b2 u (by omega)]; exact us1
  obtain ⟨G3, hG3⟩ : ∃ G3, G3 = xup2 G2 u 17 ((u + 12 : Nat) : Int) := ⟨_, rfl⟩
  have z3 : ∀ a j, a < u + 11 → ¬ (a = u ∧ (j = 16 ∨ j = 17)) → G3 a j = G a j := fun a j h1 h2 => by
    rw [hG3, xup2_n (fun y => h2 ⟨y.1, .inr y.2⟩), b4 a j (by omega), xup2_n (fun y => h2 ⟨y.1, .inl y.2⟩), a4 a j h1]
  have zS : ∀ a, a < u + 11 → S2 a = S a := fun a h => by rw [b2 a (by omega), a2 a h]
  have hko : cKo S2 G3 u K := by
    refine ⟨?_, ?_, ?_, b3, fun k hk => ?_⟩
    · rw [hG3, xup2_n (by omega), b4 u 16 (by omega), xup2_s]
    · rw [hG3, xup2_s]
    · rw [b2 (u + 11) (by omega)]; exact a3
    · rw [hG3, xup2_n (by omega), xup2_n (by omega), b4 (u + 11) k (by omega), xup2_n (by omega), a5 k hk, b5 k hk, xup2_n (by omega), a4 74 k (by omega)]
      exact hC.2 k hk
  have hR : cRq S2 G3 u K Ls := ⟨hS.ge zS, hP.ge (fun j q1 q2 => z3 u j (by omega) (by omega)), hko, hL.rule (z3 u 8 (by omega) (by omega)) (fun a j q1 q2 => z3 a j (by omega) (by omega)), hu, hK⟩
  have hI3 : cIt G3 u K g I := hI.rule (fun j q1 q2 => z3 u j (by omega) (by omega)) (fun a j q1 q2 => z3 a j (by omega) (by omega))
  obtain ⟨G4, c1, c2, c3⟩ := k_96 (f := f) (m := (u + 13, sl + K.length + K.length)) hf hR hw hV.2.1 hI3 hwI hg (fun k hk => by rw [z3 (u + 9) k (by omega) (by omega)]; exact hz k hk)
  refine ⟨S2, G4, ?_, zS, fun a j q1 q2 q3 q4 => by rw [c2 a j q3 q4, z3 a j q1 q2], K, hR.pl (fun a j q1 q2 => c2 a j q1 q2), hI3.rule (fun j q1 q2 => c2 u j (by omega) (by omega)) (fun a j q1 q2 => c2 a j (by omega) (by omega)), c3, ?_, hV.2.1, fun v hv => ?_⟩
  · unfold c88
    rw [st_383 (s73 hs) hK, a1, Option.bind_some]
    rw [show cq_pr 6 16 20 u (u + 11) (S1, G1, u + 11 + 1, sl + K.length) = some (S1, xup2 G1 u 16 ((u + 11 : Nat) : Int), u + 12, sl + K.length) from if_pos us1, Option.bind_some]
    rw [st_384 s74' hK, b1, Option.bind_some]
    rw [show cq_pr 6 17 20 u (u + 12) (S2, G2, u + 12 + 1, sl + K.length + K.length) = some (S2, xup2 G2 u 17 ((u + 12 : Nat) : Int), u + 13, sl + K.length + K.length) from if_pos us2, Option.bind_some]
    rw [show cq_is 6 20 u (S2, xup2 G2 u 17 ((u + 12 : Nat) : Int), u + 13, sl + K.length + K.length) = some () from if_pos us2, Option.bind_some, ← hG3, c1, Option.bind_some]
    have e : sl + K.length + K.length = sl + 2 * K.length := by omega
    rw [e]
  · rw [c2 u 6 (by omega) (by omega), z3 u 6 (by omega) (by omega)]; exact hV.1
  · rw [c2 (u + 1) v (by omega) (by omega), z3 (u + 1) v (by omega) (by omega)]; exact hV.2.2 v hv
end
