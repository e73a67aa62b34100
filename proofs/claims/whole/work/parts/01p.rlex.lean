/-! The reference lexes: its TOKENS are those of 01o -/
/-- the text that G reads: B from the place q on -/
def rTx (G : xG_) (q : Nat) (B : Nat → Int) (n : Nat) : Prop := gT G ∧ tTx B n ∧ G 0 1 = (q : Int) + n ∧ ∀ p : Nat, gB G ((q : Int) + p) = B p
theorem rTx.up {G : xG_} {q n : Nat} {B : Nat → Int} {k : Nat} {v : Int} (h : rTx G q B n) (h0 : k ≠ 0) (h1 : k ≠ 1) : rTx (xup2 G 0 k v) q B n := by
  refine ⟨gT_up h.1 h0 h1, h.2.1, ?_, fun p => ?_⟩
  · rw [xup2_n (by omega)]; exact h.2.2.1
  · rw [gB_up h.1 h0 h1]; exact h.2.2.2 p
theorem rTx.fr {S : List Nat} {G G' : xG_} {q n : Nat} {B : Nat → Int} (h : rTx G q B n) (hf : xfr S G G') (h0 : 0 ∉ S) (h1 : 1 ∉ S) : rTx G' q B n := by
  refine ⟨gT_fr h.1 hf h0 h1, h.2.1, ?_, fun p => ?_⟩
  · rw [hf 0 1 (fun e => h1 e.2)]; exact h.2.2.1
  · rw [gB_fr h.1 hf h0 h1]; exact h.2.2.2 p
theorem rTx.see {G : xG_} {q n : Nat} {B : Nat → Int} (h : rTx G q B n) {f : Nat} {p : Nat} {z : Int} (hz : z = (q : Int) + p) : g209 f z G = some (B p, G) := by
  rw [hz, gsee h.1 (by omega), h.2.2.2 p]
theorem rTx.len {G : xG_} {q n : Nat} {B : Nat → Int} (h : rTx G q B n) : (q : Int) + n ≤ 90000 := by have := gT_len h.1; have := h.2.2.1; omega
theorem tNm_dig {c : Int} (h : tNm c) : 1 ≤ xdig c ∧ xdig c < 38 := by unfold xdig; unfold tNm tSm tDi at h; grind
theorem tVr_dig {c : Int} (h : tVr c) : 1 ≤ xdig c ∧ xdig c < 64 := by unfold xdig; unfold tVr tSm tDi tGr at h; grind
theorem tenc_b38 {B : Nat → Int} {s : Nat} (k : Nat) (hk : k ≤ 11) (h : ∀ j, j < k → tNm (B (s + j))) : 0 ≤ tenc 38 xdig B s k ∧ tenc 38 xdig B s k < 238572050223552512 := by
  have h1 := tenc_in (b := 38) (d := xdig) (B := B) (s := s) (by decide) k (fun j hj => tNm_dig (h j hj))
  have h2 : (38 : Int) ^ k ≤ 38 ^ 11 := by
    have : (38 : Nat) ^ k ≤ 38 ^ 11 := Nat.pow_le_pow_right (by decide) hk
    exact_mod_cast this
  exact ⟨h1.1, Int.lt_of_lt_of_le h1.2 h2⟩
theorem tenc_s (b : Int) (d : Int → Int) (B : Nat → Int) (s k : Nat) : tenc b d B s (k + 1) = tenc b d B s k * b + d (B (s + k)) := rfl
/-- NAMES: a turn of the loop -/
theorem rl_nm_step {r : Int → Int → xG_ → Option xG_} {f : Nat} {G : xG_} {q n : Nat} {B : Nat → Int} {x : Int} {s i : Nat} (h : rTx G q B n) (h4 : G 0 4 = (q : Int) + s) (hp : s + i < n) (hN : ∀ j, j < i + 1 → tNm (B (s + j)))
    (h6 : G 0 6 = if 12 < i then (q : Int) + s + 12 else -1) (h9 : G 0 9 = tenc 38 xdig B s (min i 12)) :
    ∃ G', g216_17b r f x ((q : Int) + (s + i : Nat)) G = r (if x ≠ 0 ∧ tSm (B (s + i)) then 1 else 0) ((q : Int) + (s + i + 1 : Nat)) G' ∧ xfr [6, 9] G G' ∧ G' 0 6 = (if 12 < i + 1 then (q : Int) + s + 12 else -1) ∧ G' 0 9 = tenc 38 xdig B s (min (i + 1) 12) := by
  have hl := h.len
  have hB := h.2.1.le (s + i)
  have hNi := hN i (by omega)
  have hd := tNm_dig hNi
  have hs0 := h.see (f := f) (p := s + i) rfl
  have h12 := tenc_b38 (B := B) (s := s) (min i 11) (by omega) (fun j hj => hN j (by omega))
  have e2 : xwr ((q : Int) + (s + i : Nat) + 1) = (q : Int) + (s + i + 1 : Nat) := by rw [xwr_g _ (by omega) (by omega)]; omega
  have e3 : xwr ((q : Int) + s + 12) = (q : Int) + s + 12 := by rw [xwr_g _ (by omega) (by omega)]
  unfold g216_17b g216_49 g216_65 g216_84 g216_85 g216_116
  have hsu := (h.up (k := 6) (v := (q : Int) + (s + i : Nat)) (by decide) (by decide)).see (f := f) (p := s + i) rfl
  simp only [hs0, hsu, Option.bind_some, gsmall, gdigit, gdig hB, h4, e2, e3, xup2_e]
  unfold tNm tSm tDi at hNi
  sorry
