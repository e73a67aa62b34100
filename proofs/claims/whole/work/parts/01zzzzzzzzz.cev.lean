/-! THE CLASS: the TOKENS of its list are those of the text -/
theorem tenc_cg {b : Int} {d : Int → Int} {B C : Nat → Int} {s t : Nat} : ∀ k, (∀ j, j < k → d (B (s + j)) = d (C (t + j))) → tenc b d B s k = tenc b d C t k
  | 0, _ => rfl
  | k + 1, h => by
    rw [tenc_s, tenc_s, tenc_cg k (fun j hj => h j (by omega)), h k (by omega)]
theorem d63_ij {a b : Int} (ha : tVr a) (hb : tVr b) : d63 a = d63 b ↔ a = b := by
  refine ⟨fun h => ?_, fun h => by rw [h]⟩
  unfold tVr tGr tSm tDi at ha hb
  unfold d63 at h
  split at h <;> split at h <;> (try split at h) <;> (try split at h) <;> omega
theorem xdig_ij {a b : Int} (ha : tVr a) (hb : tVr b) : xdig a = xdig b ↔ a = b := by
  refine ⟨fun h => ?_, fun h => by rw [h]⟩
  unfold tVr tGr tSm tDi at ha hb
  unfold xdig at h
  repeat' split at h
  all_goals omega
section
variable {B : Nat → Int} {n N : Nat} {S : Nat → Nat × Nat × Nat} {G : xG_} {lm : Bool}
theorem kK_2 {i : Nat} (h : kK (tstr B n lm) i = 2) : tkd B n (tS B n i) = 2 := by
  have h' : (if 0 ≤ B (tS B n i) ∧ lm = true ∧ 62 ≤ i then (5 : Int) else tkd B n (tS B n i)) = 2 := h
  split at h'
  · cases h'
  · exact h'
/-- numbers of VARIABLES -/
theorem vIn_t (hB : tTx B n) : vIn (tstr B n lm) B n := by
  intro i j hi hj li lj
  obtain ⟨_, a2, a3⟩ := tkd_var (kK_2 hi)
  obtain ⟨_, b2, b3⟩ := tkd_var (kK_2 hj)
  obtain ⟨si, hsi⟩ : ∃ si, si = tS B n i := ⟨_, rfl⟩
  obtain ⟨sj, hsj⟩ : ∃ sj, sj = tS B n j := ⟨_, rfl⟩
  have hsin := (tS_le hB i).1
  have hsjn := (tS_le hB j).1
  have eE : ∀ k, tGr (B (tS B n k)) → ¬ tSm (B (tS B n k)) → ¬ B (tS B n k) < 0 → ten B n (tS B n k) = tvend B n (tS B n k) := fun k h1 h2 h3 => by
    unfold ten
    rw [if_neg h3, if_neg h2, if_pos h1]
  have ei := eE i a3 a2 (tkd_var (kK_2 hi)).1
  have ej := eE j b3 b2 (tkd_var (kK_2 hj)).1
  replace li : ten B n (tS B n i) - tS B n i ≤ 8 := li
  replace lj : ten B n (tS B n j) - tS B n j ≤ 8 := lj
  have vr : ∀ s, s ≤ n → ∀ k, k < tvend B n s - s → tVr (B (s + k)) := fun s hs k hk => by
    have := trun_is (P := tVr) hB (by decide) (n - s) s (Nat.le_refl _) hs
    exact this.2.2.1 (s + k) (by omega) (by unfold tvend at hk; omega)
  have vi := vr _ hsin
  have vj := vr _ hsjn
  show cco B n (tS B n i) = cco B n (tS B n j) ↔ tco B n (tS B n i) = tco B n (tS B n j)
  unfold cco tco
  rw [if_neg a2, if_pos a3, if_neg b2, if_pos b3, if_neg a2, if_pos a3, if_neg b2, if_pos b3]
  unfold tvco tvcode
  rw [← ei, ← ej, Nat.min_eq_left li, Nat.min_eq_left lj]
  rw [← ei] at vi
  rw [← ej] at vj
  refine ⟨fun h => ?_, fun h => ?_⟩
  · obtain ⟨e1, e2⟩ := tenc_inj _ _ (fun k hk => d63_in (vi k hk)) (fun k hk => d63_in (vj k hk)) h
    rw [e1]
    exact tenc_cg _ (fun k hk => by rw [(d63_ij (vi k (by omega)) (vj k hk)).mp (e2 k (by omega))])
  · obtain ⟨e1, e2⟩ := tenc_inj _ _ (fun k hk => tVr_dig (vi k hk)) (fun k hk => tVr_dig (vj k hk)) h
    rw [e1]
    exact tenc_cg _ (fun k hk => by rw [(xdig_ij (vi k (by omega)) (vj k hk)).mp (e2 k (by omega))])
theorem tS_end (hB : tTx B n) (h : tS B n N = n) : ∀ k, tS B n (N + k) = n
  | 0 => h
  | k + 1 => by
    have hb : B n < 0 := by rw [(hB n).2 (Nat.le_refl _)]; decide
    show tsk B n false (ten B n (tS B n (N + k))) = n
    rw [tS_end hB h k]
    have : ten B n n = n := by unfold ten; rw [if_pos hb]
    rw [this, tsk_eq hB _ (Nat.le_refl _), if_pos hb]
/-- the TOKENS of a text that is no CELL TEXT -/
theorem cEv_of (hs : cSs S) (hp : cPs G) (hx : cTx G B n) (h : cTks G B n N) : cEv S G B n (tstr B n false) N N := by
  obtain ⟨h1, h2, h3, h4, h5⟩ := h
  have hB := hx.2.2.1
  have hn := hx.2.1
  have kk : ∀ i, kK (tstr B n false) i = tkd B n (tS B n i) := fun i => if_neg (fun q => nomatch q.2.1)
  have hb : B n < 0 := by rw [(hB n).2 (Nat.le_refl _)]; decide
  refine ⟨hs, hp, hx, ⟨h2, by omega⟩, fun i hi => ?_, .inl rfl, fun i hi => ?_⟩
  · have e := tS_end hB h3 (i - N)
    rw [show N + (i - N) = i by omega] at e
    rw [kk]
    show tkd B n (tS B n i) = 0 ∧ tS B n i = tS B n N
    rw [e, h3]
    exact ⟨by unfold tkd; rw [if_pos hb], rfl⟩
  · obtain ⟨a1, a2, a3, a4, a5⟩ := h5 i (by omega)
    have hle := (tS_le hB i).1
    have he := ten_le hB hle
    rw [kk]
    refine ⟨⟨a1, a2, a3⟩, fun q => ?_, fun q => ?_, he.1, he.2.1, ?_, fun _ => a4⟩
    · rw [a4]
      show cco B n (tS B n i) = tco B n (tS B n i)
      unfold cco tco
      rcases q with q | q
      · have := (tkd_inv.2 q).2
        rw [if_pos this, if_pos this]
      · obtain ⟨_, b1, b2, b3⟩ := tkd_inv.1 q
        rw [if_neg b1, if_neg b2, if_neg b1, if_neg b2]
    · refine a5 ?_
      rcases q with q | q
      · exact .inl (tkd_inv.2 q).2
      · exact .inr (tkd_var q).2.2
    · show decide (tDi (B (ten B n (tS B n i)))) = true ↔ _
      rw [decide_eq_true_iff]
      exact Iff.rfl
end
