/-! CHANGES as the reference reads them: what is asked of one -/
def qCf (s : pPg) (p : Int) (m : Int) : Int := if p = -1 then 2 else if pIn s.2.1 p = true then (if pNn s.2.2.2.1 p = m then 0 else 3) else 2
section
variable {f o q c x : Nat} {G : xG_} {s : pPg}
theorem l_c250 {r98 : Nat → Int → Int → Int → xG_ → Option (Int × xG_)} {x2 : Nat} {x5 x6 x7 y : Int} (hx : x < 600) : g365_250 r98 f x2 (x : Int) x5 x6 x7 y G = r98 x2 ((x + 1 : Nat) : Int) (if x5 = 0 then y else x5) (if x5 = 0 ∧ y ≠ 0 then x7 else x6) G := by
  have hx3 : xwr ((x : Int) + 1) = ((x + 1 : Nat) : Int) := by rw [xwr_g _ (by omega) (by omega)]; omega
  unfold g365_250 g365_270
  rw [hx3]
  by_cases c1 : x5 = 0
  · rw [if_neg (fun h => h c1), if_pos c1]
    by_cases c2 : y = 0
    · rw [if_pos c2, if_neg (fun h => h.2 c2), c1, c2]
    · have c3 : x5 = 0 ∧ y ≠ 0 := And.intro c1 c2
      rw [if_neg c2, if_pos c3]
  · rw [if_pos c1, if_neg c1, if_neg (fun h => c1 h.1)]
theorem l_c200 {r98 : Nat → Int → Int → Int → xG_ → Option (Int × xG_)} {x2 : Nat} {x5 x6 x7 p m : Int} (hx : x < 600) (h : rFlg G 72 s) (hn : rPn G 72 s) (hN : s.1.length ≤ 16) (hp : p = -1 ∨ 0 ≤ p ∧ p < s.1.length) (hm : G 272 x = m) : g365_200 r98 f x2 (x : Int) x5 x6 x7 p G = r98 x2 ((x + 1 : Nat) : Int) (if x5 = 0 then qCf s p m else x5) (if x5 = 0 ∧ qCf s p m ≠ 0 then x7 else x6) G := by
  unfold g365_200 g365_221
  by_cases c1 : p = -1
  · have e : qCf s p m = 2 := by unfold qCf; rw [if_pos c1]
    rw [e, if_pos c1]
    exact l_c250 hx
  · obtain ⟨p', rfl⟩ : ∃ t : Nat, p = (t : Int) := ⟨p.toNat, by omega⟩
    have hf6 := (h p' (by omega)).1
    have hn2 := hn p' (by omega)
    rw [if_neg c1, if_pos (by omega), Int.toNat_natCast, hf6]
    cases hb : pIn s.2.1 (p' : Int) with
    | false =>
      have e : qCf s (p' : Int) m = 2 := by unfold qCf; rw [if_neg c1, hb, if_neg (by decide)]
      rw [e, if_neg (fun h => h rfl)]
      exact l_c250 hx
    | true =>
      rw [if_pos (by decide), if_pos (by omega), if_pos (by omega), hn2, Int.toNat_natCast, hm]
      by_cases c2 : pNn s.2.2.2.1 (p' : Int) = m
      · have e : qCf s (p' : Int) m = 0 := by unfold qCf; rw [if_neg c1, hb, if_pos rfl, if_pos c2]
        rw [e, if_pos c2]
        exact l_c250 hx
      · have e : qCf s (p' : Int) m = 3 := by unfold qCf; rw [if_neg c1, hb, if_pos rfl, if_neg c2]
        rw [e, if_neg c2]
        exact l_c250 hx
end
