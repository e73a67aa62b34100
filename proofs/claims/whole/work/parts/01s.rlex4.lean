/-! The reference lexes: a TOKEN as its fields tell it -/
def rkd (B : Nat → Int) (n s : Nat) : Int := if B s < 0 then 0 else if tSm (B s) then 2 else if tGr (B s) then 3 else if tDi (B s) then (if tco B n s ≤ 1000000000000 then 5 else 1) else if B s = 95 then 4 else if tsgn (B s) (B (s + 1)) = 5 then 1 else 6
def rwr (q : Nat) (B : Nat → Int) (n s : Nat) : Int := if tSm (B s) ∧ 12 < ten B n s - s then (q : Int) + s + 12 else if tGr (B s) ∧ 8 < ten B n s - s then (q : Int) + s + 8 else -1
/-- L tells the TOKEN at s (b: it is one too many) -/
def rTk (q : Nat) (B : Nat → Int) (n s : Nat) (b : Prop) [Decidable b] (L : Nat → Int) : Prop :=
  L 4 = (q : Int) + s ∧ L 2 = (if b then 1 else rkd B n s) ∧ L 5 = (q : Int) + (if b then s else ten B n s : Nat) ∧ L 6 = (if b then -1 else rwr q B n s) ∧
  (¬ b → rkd B n s = 6 → L 3 = if 256 ≤ tkd B n s then tkd B n s + 44 else tkd B n s) ∧ (¬ b → rkd B n s = 2 ∨ rkd B n s = 3 ∨ rkd B n s = 5 → L 9 = tco B n s) ∧ (¬ b → rkd B n s = 2 → L 10 = tse B n s)
theorem rl_lex {f q n p : Nat} {B : Nat → Int} {G : xG_} {L : Nat → Int} (h : rTx G q B n) (hf : n + 20 < f) (hp : p ≤ n) (h5 : L 5 = (q : Int) + p) (h8 : 0 ≤ L 8 ∧ L 8 < 2000000000) :
    ∃ L', g214 f (xlx G L) = some (xlx G L') ∧ rTk q B n (tsk B n false p) (0 ≤ B (tsk B n false p) ∧ G 0 11 ≠ 0 ∧ 60 < L' 8) L' ∧ L' 7 = L 7 ∧ L' 8 = L 8 + 1 := by
  have hl := h.len
  obtain ⟨fu, hfu⟩ := rl_sk (f := f) (L := L) h (by omega) n p f (by omega) (by omega) hp
  have hsk := tsk_le h.2.1 (n - p) p false rfl hp
  generalize tsk B n false p = s at *
  have e0 : g214 f (xlx G L) = g214_11 f f ((q : Int) + p) (B p) (xlx G L) := by
    unfold g214
    simp only [xlx_2, xlx_3, xlx_4, xlx_5, xlx_6, xlx_7, xlx_8, xlx_9, xlx_10, xlx_u2, xlx_u3, xlx_u4, xlx_u5, xlx_u6, xlx_u7, xlx_u8, xlx_u9, xlx_u10, xu_e, eq_self, reduceIte, Nat.reduceEqDiff, if_true, if_false, not_true_eq_false, not_false_eq_true, Option.bind_some, h5, h.see (p := p) rfl]
  rw [e0, hfu]
  have hb := h.2.1.le s
  have hneg := h.2.1.neg (p := s)
  have hen := ten_le h.2.1 hsk.2.1
  show ∃ L', g214_11b (g214_11 f fu) f _ _ _ = _ ∧ _
  have hbl : ¬ B s = 9 ∧ ¬ B s = 10 ∧ ¬ B s = 13 ∧ ¬ B s = 32 := by have := hsk.2.2.1; unfold tBl at this; omega
  let L1 := xu (xu (xu (xu L 4 ((q : Int) + s)) 5 ((q : Int) + s)) 6 (-1)) 8 (L 8 + 1)
  have e1 : g214_11b (g214_11 f fu) f ((q : Int) + s) (B s) (xlx G L) = (if B s = -1 then g214_138 f (B s) (xlx G L1) else if G 0 11 = 0 then g214_138 f (B s) (xlx G L1) else if L 8 + 1 ≤ 60 then g214_138 f (B s) (xlx G L1) else some (xlx G (xu L1 2 1))) := by
    unfold g214_11b g214_222
    rw [if_neg hbl.1, if_neg hbl.2.1, if_neg hbl.2.2.1, if_neg hbl.2.2.2, if_pos hsk.2.2.2]
    simp only [xlx_2, xlx_3, xlx_4, xlx_5, xlx_6, xlx_7, xlx_8, xlx_9, xlx_10, xlx_u2, xlx_u3, xlx_u4, xlx_u5, xlx_u6, xlx_u7, xlx_u8, xlx_u9, xlx_u10, xu_e, eq_self, reduceIte, Nat.reduceEqDiff, if_true, if_false, not_true_eq_false, not_false_eq_true, Option.bind_some]
    rw [xwr_g _ (by omega) (by omega)]
    rfl
  have f4 : L1 4 = (q : Int) + s := rfl
  have f5 : L1 5 = (q : Int) + s := rfl
  have f6 : L1 6 = -1 := rfl
  have f7 : L1 7 = L 7 := rfl
  have f8 : L1 8 = L 8 + 1 := rfl
  rw [e1]
  clear e1
  generalize L1 = L1 at *
  have main : ∃ L', g214_138 f (B s) (xlx G L1) = some (xlx G L') ∧ rTk q B n s False L' ∧ L' 7 = L 7 ∧ L' 8 = L 8 + 1 := by
    unfold g214_138 g214_222 rTk
    by_cases c1 : B s < 0
    · rw [if_neg (by omega)]
      simp only [xlx_2, xlx_3, xlx_4, xlx_5, xlx_6, xlx_7, xlx_8, xlx_9, xlx_10, xlx_u2, xlx_u3, xlx_u4, xlx_u5, xlx_u6, xlx_u7, xlx_u8, xlx_u9, xlx_u10, xu_e, eq_self, reduceIte, Nat.reduceEqDiff, if_true, if_false, not_true_eq_false, not_false_eq_true, Option.bind_some]
      refine ⟨_, rfl, ?_⟩
      have k1 : rkd B n s = 0 := if_pos c1
      have k2 : ten B n s = s := if_pos c1
      have k3 : rwr q B n s = -1 := by unfold rwr tSm tGr; grind
      unfold xu
      grind
    · rw [if_pos (by omega)]
      simp only [xlx_2, xlx_3, xlx_4, xlx_5, xlx_6, xlx_7, xlx_8, xlx_9, xlx_10, xlx_u2, xlx_u3, xlx_u4, xlx_u5, xlx_u6, xlx_u7, xlx_u8, xlx_u9, xlx_u10, xu_e, eq_self, reduceIte, Nat.reduceEqDiff, if_true, if_false, not_true_eq_false, not_false_eq_true, Option.bind_some, gsmall, ggreat, gdigit]
      by_cases c2 : tSm (B s)
      · rw [if_pos c2, if_neg (by decide)]
        have hr := trun_is (P := tNm) h.2.1 (by decide) (n - s) s (Nat.le_refl _) hsk.2.1
        have e2 : g216 f (xlx G L1) = g216_17 f f 1 ((q : Int) + (s + 0 : Nat)) (xlx G (xu (xu L1 2 2) 9 0)) := by
          unfold g216
          simp only [xlx_2, xlx_3, xlx_4, xlx_5, xlx_6, xlx_7, xlx_8, xlx_9, xlx_10, xlx_u2, xlx_u3, xlx_u4, xlx_u5, xlx_u6, xlx_u7, xlx_u8, xlx_u9, xlx_u10, xu_e, eq_self, reduceIte, Nat.reduceEqDiff, if_true, if_false, not_true_eq_false, not_false_eq_true, Option.bind_some, f4]
          rfl
        rw [e2, rl_nm (e := tnend B n s) (by omega) h hr.2.2.1 hr.2.2.2 hr.1 hr.2.1 (tnend B n s - s) 0 f 1 _ (by have : s ≤ tnend B n s := hr.1; omega) (by have : tnend B n s ≤ n := hr.2.1; omega) (by simp only [xlx_2, xlx_3, xlx_4, xlx_5, xlx_6, xlx_7, xlx_8, xlx_9, xlx_10, xlx_u2, xlx_u3, xlx_u4, xlx_u5, xlx_u6, xlx_u7, xlx_u8, xlx_u9, xlx_u10, xu_e, eq_self, reduceIte, Nat.reduceEqDiff, if_true, if_false, not_true_eq_false, not_false_eq_true, Option.bind_some, f4]) (by simp only [xlx_2, xlx_3, xlx_4, xlx_5, xlx_6, xlx_7, xlx_8, xlx_9, xlx_10, xlx_u2, xlx_u3, xlx_u4, xlx_u5, xlx_u6, xlx_u7, xlx_u8, xlx_u9, xlx_u10, xu_e, eq_self, reduceIte, Nat.reduceEqDiff, if_true, if_false, not_true_eq_false, not_false_eq_true, Option.bind_some, f6]; rfl) (by simp only [xlx_2, xlx_3, xlx_4, xlx_5, xlx_6, xlx_7, xlx_8, xlx_9, xlx_10, xlx_u2, xlx_u3, xlx_u4, xlx_u5, xlx_u6, xlx_u7, xlx_u8, xlx_u9, xlx_u10, xu_e, eq_self, reduceIte, Nat.reduceEqDiff, if_true, if_false, not_true_eq_false, not_false_eq_true, Option.bind_some]; rfl) (by rw [if_pos (fun j hj => absurd hj (by omega))])]
        refine ⟨_, rfl, ?_⟩
        have k1 : rkd B n s = 2 := by unfold rkd; rw [if_neg c1, if_pos c2]
        have k2 : ten B n s = tnend B n s := by unfold ten; rw [if_neg c1, if_pos c2]
        have k3 : tco B n s = tncode B s (tnend B n s) := if_pos c2
        have k4 : tse B n s = tsens B s (tnend B n s) := if_pos c2
        have k5 : ¬ tGr (B s) := by unfold tGr tSm at *; omega
        unfold rwr
        rw [k1, k2, k3, k4]
        unfold xu
        grind
      · rw [if_neg c2, if_pos rfl]
        by_cases c3 : tGr (B s)
        · rw [if_pos c3, if_neg (by decide)]
          have hr := trun_is (P := tVr) h.2.1 (by decide) (n - s) s (Nat.le_refl _) hsk.2.1
          have e2 : g217 f (xlx G L1) = g217_15 f f ((q : Int) + (s + 0 : Nat)) (xlx G (xu (xu L1 2 3) 9 0)) := by
            unfold g217
            simp only [xlx_2, xlx_3, xlx_4, xlx_5, xlx_6, xlx_7, xlx_8, xlx_9, xlx_10, xlx_u2, xlx_u3, xlx_u4, xlx_u5, xlx_u6, xlx_u7, xlx_u8, xlx_u9, xlx_u10, xu_e, eq_self, reduceIte, Nat.reduceEqDiff, if_true, if_false, not_true_eq_false, not_false_eq_true, Option.bind_some, f4]
            rfl
          rw [e2, rl_vr (e := tvend B n s) h hr.2.2.1 hr.2.2.2 hr.1 hr.2.1 (tvend B n s - s) 0 f _ (by have : s ≤ tvend B n s := hr.1; omega) (by have : tvend B n s ≤ n := hr.2.1; omega) (by simp only [xlx_2, xlx_3, xlx_4, xlx_5, xlx_6, xlx_7, xlx_8, xlx_9, xlx_10, xlx_u2, xlx_u3, xlx_u4, xlx_u5, xlx_u6, xlx_u7, xlx_u8, xlx_u9, xlx_u10, xu_e, eq_self, reduceIte, Nat.reduceEqDiff, if_true, if_false, not_true_eq_false, not_false_eq_true, Option.bind_some, f4]) (by simp only [xlx_2, xlx_3, xlx_4, xlx_5, xlx_6, xlx_7, xlx_8, xlx_9, xlx_10, xlx_u2, xlx_u3, xlx_u4, xlx_u5, xlx_u6, xlx_u7, xlx_u8, xlx_u9, xlx_u10, xu_e, eq_self, reduceIte, Nat.reduceEqDiff, if_true, if_false, not_true_eq_false, not_false_eq_true, Option.bind_some, f6]; rfl) (by simp only [xlx_2, xlx_3, xlx_4, xlx_5, xlx_6, xlx_7, xlx_8, xlx_9, xlx_10, xlx_u2, xlx_u3, xlx_u4, xlx_u5, xlx_u6, xlx_u7, xlx_u8, xlx_u9, xlx_u10, xu_e, eq_self, reduceIte, Nat.reduceEqDiff, if_true, if_false, not_true_eq_false, not_false_eq_true, Option.bind_some]; rfl)]
          refine ⟨_, rfl, ?_⟩
          have k1 : rkd B n s = 3 := by unfold rkd; rw [if_neg c1, if_neg c2, if_pos c3]
          have k2 : ten B n s = tvend B n s := by unfold ten; rw [if_neg c1, if_neg c2, if_pos c3]
          have k3 : tco B n s = tvcode B s (tvend B n s) := by unfold tco; rw [if_neg c2, if_pos c3]
          unfold rwr
          rw [k1, k2, k3]
          unfold xu
          grind
        · rw [if_neg c3, if_pos rfl]
          by_cases c4 : tDi (B s)
          · rw [if_pos c4, if_neg (by decide)]
            have hr := trun_is (P := tDi) h.2.1 (by decide) (n - s) s (Nat.le_refl _) hsk.2.1
            have e2 : g218 f (xlx G L1) = g218_31 f f ((q : Int) + (s + 0 : Nat)) (if B s = 48 then 1 else 0) (xlx G (xu (xu L1 2 5) 9 0)) := by
              unfold g218 g218_30
              simp only [xlx_2, xlx_3, xlx_4, xlx_5, xlx_6, xlx_7, xlx_8, xlx_9, xlx_10, xlx_u2, xlx_u3, xlx_u4, xlx_u5, xlx_u6, xlx_u7, xlx_u8, xlx_u9, xlx_u10, xu_e, eq_self, reduceIte, Nat.reduceEqDiff, if_true, if_false, not_true_eq_false, not_false_eq_true, Option.bind_some, f4, h.see (p := s) rfl]
              by_cases c6 : B s = 48
              · rw [if_neg (by omega), if_pos c6]
                rfl
              · rw [if_pos c6, if_neg c6]
                rfl
            have k1 : ten B n s = tdend B n s := by unfold ten; rw [if_neg c1, if_neg c2, if_neg c3, if_pos c4]
            rw [k1] at hen
            have hrun : ∀ j, s ≤ j → j < tdend B n s → tDi (B j) := by
              unfold tdend
              intro j j1 j2
              split at j2
              · obtain rfl : j = s := by omega
                exact c4
              · exact hr.2.2.1 j j1 j2
            rw [e2, rl_nu (e := tdend B n s) h (by intro z; unfold tdend; rw [if_pos (by grind)]) hrun (by intro z; unfold tdend; rw [if_neg (by grind)]; exact hr.2.2.2) (by omega) hen.2.1 (tdend B n s - s) 0 f _ (by omega) (by omega) (by simp only [xlx_2, xlx_3, xlx_4, xlx_5, xlx_6, xlx_7, xlx_8, xlx_9, xlx_10, xlx_u2, xlx_u3, xlx_u4, xlx_u5, xlx_u6, xlx_u7, xlx_u8, xlx_u9, xlx_u10, xu_e, eq_self, reduceIte, Nat.reduceEqDiff, if_true, if_false, not_true_eq_false, not_false_eq_true, Option.bind_some, f4]) (by simp only [xlx_2, xlx_3, xlx_4, xlx_5, xlx_6, xlx_7, xlx_8, xlx_9, xlx_10, xlx_u2, xlx_u3, xlx_u4, xlx_u5, xlx_u6, xlx_u7, xlx_u8, xlx_u9, xlx_u10, xu_e, eq_self, reduceIte, Nat.reduceEqDiff, if_true, if_false, not_true_eq_false, not_false_eq_true, Option.bind_some]; rfl)]
            refine ⟨_, rfl, ?_⟩
            have k3 : tco B n s = tnum 1000000000001 B s (tdend B n s - s) := by unfold tco; rw [if_neg c2, if_neg c3, if_pos c4]
            have k4 := tnum_two (B := B) (s := s) (tdend B n s - s) (fun j hj => hrun (s + j) (by omega) (by omega))
            rw [← k3] at k4
            have k5 : rkd B n s = if tnum 4000000000000 B s (tdend B n s - s) ≤ 1000000000000 then 5 else 1 := by
              unfold rkd
              rw [if_neg c1, if_neg c2, if_neg c3, if_pos c4, ← k4]
              split <;> split <;> omega
            unfold rwr
            rw [k1, k5]
            unfold xu
            grind
          · rw [if_neg c4, if_pos rfl]
            by_cases c5 : B s = 95
            · rw [if_neg (by omega), f5, xwr_g _ (by omega) (by omega)]
              refine ⟨_, rfl, ?_⟩
              have k0 : tkd B n s = 3 := by unfold tkd tsgn; rw [if_neg c1, if_neg c2, if_neg c3, if_neg c4, c5]; rfl
              have k1 : rkd B n s = 4 := by unfold rkd; rw [if_neg c1, if_neg c2, if_neg c3, if_neg c4, if_pos c5]
              have k2 : ten B n s = s + 1 := by
                unfold ten tsgn
                rw [if_neg c1, if_neg c2, if_neg c3, if_neg c4, c5]
                rfl
              unfold rwr
              rw [k1, k2]
              unfold xu
              grind
            · rw [if_pos c5, rl_sg h (by omega) f4 c5]
              refine ⟨_, rfl, ?_⟩
              have k0 : tkd B n s = tsgn (B s) (B (s + 1)) := by unfold tkd; rw [if_neg c1, if_neg c2, if_neg c3, if_neg c4]
              have k1 : rkd B n s = if tsgn (B s) (B (s + 1)) = 5 then 1 else 6 := by unfold rkd; rw [if_neg c1, if_neg c2, if_neg c3, if_neg c4, if_neg c5]
              have k2 : ten B n s = if 256 ≤ tsgn (B s) (B (s + 1)) then s + 2 else s + 1 := by unfold ten; rw [if_neg c1, if_neg c2, if_neg c3, if_neg c4]
              have k3 : tsgn (B s) (B (s + 1)) < 256 → tsgn (B s) (B (s + 1)) ≠ 5 → tsgn (B s) (B (s + 1)) = B s := by
                unfold tsgn
                intro a1 a2
                repeat' split at a1
                all_goals grind
              unfold rwr
              rw [k0, k1, k2]
              unfold xu
              grind
  obtain ⟨L', m1, m2, m3, m4⟩ := main
  by_cases cb : 0 ≤ B s ∧ G 0 11 ≠ 0 ∧ 60 < L 8 + 1
  · rw [if_neg (by omega), if_neg cb.2.1, if_neg (by omega)]
    refine ⟨_, rfl, ?_, f7, f8⟩
    have e8 : xu L1 2 1 8 = L 8 + 1 := f8
    unfold rTk
    simp only [e8]
    simp only [if_pos cb]
    exact ⟨f4, rfl, f5, f6, fun q => absurd cb q, fun q => absurd cb q, fun q => absurd cb q⟩
  · have e : (if B s = -1 then g214_138 f (B s) (xlx G L1) else if G 0 11 = 0 then g214_138 f (B s) (xlx G L1) else if L 8 + 1 ≤ 60 then g214_138 f (B s) (xlx G L1) else some (xlx G (xu L1 2 1))) = g214_138 f (B s) (xlx G L1) := by grind
    rw [e, m1]
    refine ⟨L', rfl, ?_, m3, m4⟩
    unfold rTk at *
    simp only [m4]
    simp only [if_neg cb]
    simp only [if_neg (show ¬ False from id)] at m2
    exact ⟨m2.1, m2.2.1, m2.2.2.1, m2.2.2.2.1, fun _ => m2.2.2.2.2.1 id, fun _ => m2.2.2.2.2.2.1 id, fun _ => m2.2.2.2.2.2.2 id⟩
