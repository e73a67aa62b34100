/-! The SHEET hangs on the values of rows alone -/
section
variable {s : pPg} {M M' : Nat → List pRw} {C : fCs}
def vSm (s : pPg) (M M' : Nat → List pRw) : Prop := ∀ p, p < s.1.length → (M p).map (·.1) = (M' p).map (·.1)
theorem fRl_v {kd : Int} {k : Nat} : ∀ (R R' : List pRw) (i : Nat) (v : Int), R.map (·.1) = R'.map (·.1) → fRl kd k R i v = fRl kd k R' i v
  | [], [], _, _, _ => rfl
  | [], r' :: R', _, _, h => by cases h
  | r :: R, [], _, _, h => by cases h
  | r :: R, r' :: R', i, v, h => by
    rw [List.map_cons, List.map_cons] at h
    injection h with h1 h2
    have h1' : r.1 = r'.1 := h1
    show fRl kd k R (i + 1) _ = fRl kd k R' (i + 1) _
    rw [h1']
    exact fRl_v R R' (i + 1) _ h2
theorem fRo_v (hn : s.1.Nodup) (h : vSm s M M') (kd k x : Int) : fRo s M kd k x = fRo s M' kd k x := by
  unfold fRo
  rcases pIdx_get (x := x) hn with ⟨z, _⟩ | ⟨p, p1, p2, _⟩
  · rw [if_pos (.inl z), if_pos (.inl z)]
  · rw [p2, Int.toNat_natCast]
    have hp := h p p1
    have hl : (M p).length = (M' p).length := by
      have := congrArg List.length hp
      rw [List.length_map, List.length_map] at this
      exact this
    rw [hl, fRl_v _ _ _ _ hp]
theorem fW_v (hn : s.1.Nodup) (h : vSm s M M') {N : List pNd} : ∀ n i, fW N C s M n i = fW N C s M' n i
  | 0, _ => rfl
  | n + 1, i => by
    show (if (N.getD i dNd).1 = 1 then _ else _) = (if (N.getD i dNd).1 = 1 then _ else _)
    rw [fW_v hn h n, fW_v hn h n, fW_v hn h n, fRo_v hn h]
theorem fSh_v (hn : s.1.Nodup) (h : vSm s M M') (X : fXs) : fSh X s M = fSh X s M' := by
  have : ∀ k, fShI X s M k = fShI X s M' k := by
    intro k
    induction k with
    | zero => rfl
    | succ k ih =>
      show qCv X s M (fShI X s M k) = qCv X s M' (fShI X s M' k)
      rw [ih]
      funext c
      unfold qCv
      cases X c with
      | none => rfl
      | some e =>
        show (if xCy X c then _ else wCv (fWr e.1 e.2 (fShI X s M' k) s M)) = (if xCy X c then _ else wCv (fWr e.1 e.2 (fShI X s M' k) s M'))
        unfold fWr
        rw [fW_v hn h]
  exact this 73
/-- a SHEET without texts -/
theorem fSh_no {X : fXs} (hX : okX X) {c : Nat} (hc : c < 72) (h : X c = none) : fSh X s M c = (0, 0) := by
  rw [fSh_fix hX hc]
  unfold qCv
  rw [h]
end
