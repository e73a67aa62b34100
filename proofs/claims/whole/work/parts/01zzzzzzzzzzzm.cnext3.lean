/-! THE CLASS: next(), one step -/
section
variable {f u fa fn np nv a : Nat} {S : Nat → Nat × Nat × Nat} {G : xG_} {m : Nat × Nat} {K : pCd} {Ls : List pLt} {pl : List Nat} {br : Int} {qn xp cp : Nat → Nat} {R : Nat → List pRw} {lo hi : Nat → Int} {r2 : Nat → Int → xT_ → Option (Int × xT_)} {x : Int} {Bf : Nat}
/-- one step more, or a WAY, or the end -/
def nxS (Ls : List pLt) (pl : List Nat) (a : Nat) (br : Int) (R : Nat → List pRw) (lo hi : Nat → Int) (Bf : Nat) (G : xG_) (V : List (Nat → Int)) (k : Nat) (S : Nat → Nat × Nat × Nat) (m : Nat × Nat) (e : Option (Int × xT_)) (nx : xT_ → Option (Int × xT_)) : Prop :=
  (∃ G' k', e = nx (S, G', m) ∧ xWf G G' ∧ k' < k ∧ wSt8 Ls pl a br R lo hi G' Bf V k') ∨
  (∃ G' v V' k', e = some (1, (S, G', m)) ∧ xWf G G' ∧ V = v :: V' ∧ k' < k ∧ wSt8 Ls pl a br R lo hi G' Bf V' k' ∧ cVl G' Bf v) ∨
  (e = some (0, (S, G, m)) ∧ V = [])
theorem xWf.c {G1 G2 : xG_} {w s : Int} (h : xWf G G1) (h2 : ∀ a j, ¬ (a = 83 ∧ (j = 6 ∨ j = 7)) → G2 a j = G1 a j) : xWf G G2 := fun a j y1 y2 y3 => by rw [h2 a j y3, h a j y1 y2 y3]
theorem up67 {w s : Int} {a j : Nat} (h : ¬ (a = 83 ∧ (j = 6 ∨ j = 7))) : xup2 (xup2 G 83 7 w) 83 6 s a j = G a j := by rw [xup2_n (by omega), xup2_n (by omega)]
/-- back one step -/
theorem bk_back {G2 : xG_} {n b : Nat} {V : List (Nat → Int)} {k : Nat} (hn : n ≤ pl.length) (hmk : mkP Ls (pl.drop n) b = Bf) (hk : bkE Ls pl a br R lo hi G n b V k) (h1 : ∀ a j, 87 ≤ a → a ≤ 90 → j < n → G2 a j = G a j) (h2 : G2 87 n = G 87 n) (h3 : ∀ j, b.testBit j = true → G2 84 j = G 84 j) : wSt8 Ls pl a br R lo hi (xup2 (xup2 G2 83 7 0) 83 6 ((n : Int) - 1)) Bf V k := .inr ⟨n, b, hn, xup2_s _ _ _ _, by rw [xup2_n (by omega), xup2_s], hmk, hk.ge _ _ _ _ (fun a j y1 y2 y3 => by rw [up67 (by omega), h1 a j y1 y2 y3]) (by rw [up67 (by omega), h2]) (fun j hj => by rw [up67 (by omega), h3 j hj])⟩
/-- on to the next step -/
theorem bk_on {G2 : xG_} {n b B : Nat} {vl v : Nat → Int} {D V1 Va V2 : List (Nat → Int)} {k1 ka k2 : Nat} (hn : n < pl.length) (hlv : lvE G n b vl) (hB : B = b ||| qLv (Ls.getD (pl.getD n 0) dLt)) (hB8 : B < 2 ^ 8) (hok : okP Ls (pl.drop n) b) (hmk : mkP Ls (pl.drop (n + 1)) B = Bf) (hr : rmD Ls a br R lo hi G2 n (pl.getD n 0) (pl.drop (n + 1)) b vl D) (hs : wyS (fun v => wyE Ls a br R lo hi (pl.drop (n + 1)) B v) D V1 k1) (hw : wyE Ls a br R lo hi (pl.drop (n + 1)) B v Va ka) (hk : bkE Ls pl a br R lo hi G n b V2 k2) (h1 : ∀ a j, 87 ≤ a → a ≤ 90 → j < n → G2 a j = G a j) (h2 : G2 87 n = G 87 n) (h3 : ∀ j, b.testBit j = true → G2 84 j = G 84 j) (hlv2 : lvE G2 (n + 1) B v) : wSt8 Ls pl a br R lo hi (xup2 (xup2 G2 83 7 1) 83 6 ((n : Int) + 1)) Bf (Va ++ (V1 ++ V2)) (ka + (1 + k1 + k2)) := by
  have ed : pl.drop n = pl.getD n 0 :: pl.drop (n + 1) := by rw [getD_e hn]; exact List.drop_eq_getElem_cons hn
  have hok2 : okP Ls (pl.drop (n + 1)) B := by
    rw [ed] at hok
    rw [hB]; exact hok.2
  have z : ∀ {a j : Nat}, ¬ (a = 83 ∧ (j = 6 ∨ j = 7)) → xup2 (xup2 G2 83 7 1) 83 6 ((n : Int) + 1) a j = G2 a j := fun h => up67 h
  refine .inl ⟨n + 1, B, v, Va, ka, V1 ++ V2, 1 + k1 + k2, by omega, by rw [xup2_s]; omega, by rw [xup2_n (by omega), xup2_s], hlv2.ge (z (by omega)) (fun j _ => z (by omega)), hok2, hmk, hw, ⟨b, vl, D, V1, k1, V2, k2, hn, hlv.ge (by rw [z (by omega), h2]) (fun j hj => by rw [z (by omega), h3 j hj]), hB, hB8, hok, ?_, hs, hk.ge _ _ _ _ (fun a j y1 y2 y3 => by rw [z (by omega), h1 a j y1 y2 y3]) (by rw [z (by omega), h2]) (fun j hj => by rw [z (by omega), h3 j hj]), rfl, rfl⟩, rfl, rfl⟩
  rcases hr with ⟨c1, c2, fi, la, cu, D0, c3, c4, c5, c6⟩ | c
  · exact .inl ⟨c1, by rw [z (by omega)]; exact c2, fi, la, cu, D0, by rw [z (by omega)]; exact c3, by rw [z (by omega)]; exact c4, by rw [z (by omega)]; exact c5, c6⟩
  · exact .inr c
theorem wyS_c {P : (Nat → Int) → List (Nat → Int) → Nat → Prop} {v : Nat → Int} {D V : List (Nat → Int)} {k : Nat} (h : wyS P (v :: D) V k) : ∃ V1 k1 V2 k2, P v V1 k1 ∧ wyS P D V2 k2 ∧ V = V1 ++ V2 ∧ k = k1 + 1 + k2 := h
theorem wyS_n {P : (Nat → Int) → List (Nat → Int) → Nat → Prop} {V : List (Nat → Int)} {k : Nat} (h : wyS P [] V k) : V = [] ∧ k = 0 := h
theorem qT_lv {y : pLt} (h : y.1 ≠ 3) : qLv y = qT y.2.2.2.1 := by unfold qLv; rw [if_neg h]
/-- the plan's LITERAL at step n -/
theorem cWE.at (h : cWE S G u K Ls pl fa fn np nv a br qn xp cp R lo hi) {n : Nat} (hn : n < pl.length) : n < Ls.length ∧ Ls.length ≤ 8 ∧ pl.getD n 0 < Ls.length ∧ G (u + 9) n = ((pl.getD n 0 : Nat) : Int) ∧ G u 8 = (Ls.length : Int) ∧ ((Ls.getD (pl.getD n 0) dLt).1 = 1 ∧ G (u + 2) (pl.getD n 0) = 15 ∨ (Ls.getD (pl.getD n 0) dLt).1 = 2 ∧ G (u + 2) (pl.getD n 0) = 9 ∨ (Ls.getD (pl.getD n 0) dLt).1 = 3 ∧ G (u + 2) (pl.getD n 0) ≠ 15 ∧ G (u + 2) (pl.getD n 0) ≠ 9) := by
  obtain ⟨_, b1, _, ⟨d1, d2⟩, _, _⟩ := h
  have hls := b1.2.2.2.1
  have hn' : n < Ls.length := by omega
  obtain ⟨e1, e2, e3, e4⟩ := d2 n hn'
  refine ⟨hn', hls.2.1, e2, e1, hls.1, ?_⟩
  rcases hls.2.2 _ e2 with ⟨z1, z2, _⟩ | ⟨z1, z2, z3, _⟩
  · have z1' : (Ls.getD (pl.getD n 0) dLt).1 = 1 ∨ (Ls.getD (pl.getD n 0) dLt).1 = 2 := z1
    have z2' : G (u + 2) (pl.getD n 0) = (if (Ls.getD (pl.getD n 0) dLt).1 = 1 then 15 else 9) := z2
    rcases z1' with q | q
    · rw [if_pos q] at z2'; exact .inl ⟨q, z2'⟩
    · rw [if_neg (by omega)] at z2'; exact .inr (.inl ⟨q, z2'⟩)
  · have z2' : G (u + 2) (pl.getD n 0) = (Ls.getD (pl.getD n 0) dLt).2.1 := z2
    have z3' : (Ls.getD (pl.getD n 0) dLt).2.1 = 61 ∨ (Ls.getD (pl.getD n 0) dLt).2.1 = 257 ∨ (Ls.getD (pl.getD n 0) dLt).2.1 = 60 ∨ (Ls.getD (pl.getD n 0) dLt).2.1 = 258 ∨ (Ls.getD (pl.getD n 0) dLt).2.1 = 62 ∨ (Ls.getD (pl.getD n 0) dLt).2.1 = 259 := z3
    exact .inr (.inr ⟨z1, by omega, by omega⟩)
theorem nl_eq (h : cWE S G u K Ls pl fa fn np nv a br qn xp cp R lo hi) : pl.length = Ls.length := h.2.2.2.1.1
end
