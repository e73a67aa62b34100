/-! The reference gathers the facts of all rows -/
section
variable {f q c b : Nat} {s : pPg} {M : Nat → List pRw}
def gM (s : pPg) (M : Nat → List pRw) (p i : Nat) (y : pFc) : Prop := ∃ p' w, p' < s.1.length ∧ y = (qNm s p', w.1) ∧ ((p' < p ∧ w ∈ M p') ∨ (p' = p ∧ w ∈ (M p).take i))
theorem l_302_20 {r7 : Nat → Int → xG_ → Option xG_} {p : Nat} {G0 : xG_} (hf : 3600 < f) (hok : qOk s) (hb : isFb b) (hp : p < s.1.length) (hE : rEn G0 q c s M) (hM : qTb s M) : ∀ (d i fu : Nat) (G : xG_) (F : List pFc), i + d = (M p).length → d < fu → xfy b G0 G → rFa G b F → F.Pairwise fLt → F.length ≤ qTo M p + i → (∀ y, y ∈ F ↔ gM s M p i y) →
    ∃ G' F', g302_20 r7 f fu b (p : Int) (i : Int) G = r7 b ((p + 1 : Nat) : Int) G' ∧ xfy b G0 G' ∧ rFa G' b F' ∧ F'.Pairwise fLt ∧ F'.length ≤ qTo M (p + 1) ∧ ∀ y, y ∈ F' ↔ gM s M (p + 1) 0 y := by
  have hnp := hok.1.1
  have hbb : b + 3 < 107 ∨ 109 < b := by unfold isFb at hb; omega
  have hb2 : 36 < b := by unfold isFb at hb; omega
  have hqt : qTo M p ≤ 100 * p := qTo_le p (fun p' hp' => (hM p' (by omega)).1)
  have hlen := (hM p hp).1
  have hpp : 0 ≤ (p : Int) ∧ (p : Int) < 16 := by omega
  have ep : xwr ((p : Int) + 1) = ((p + 1 : Nat) : Int) := by rw [xwr_g _ (by omega) (by omega)]; omega
  intro d
  induction d with
  | zero =>
    intro i fu G F h1 h2 h3 hF hs hl hm
    obtain ⟨fu, rfl⟩ : ∃ t, fu = t + 1 := ⟨fu - 1, by omega⟩
    have h108 : G 108 p = ((M p).length : Int) := by rw [h3 _ _ (by omega) (by omega) (by omega) (by omega)]; exact (hE.2.2.2 p hp).1.1
    refine ⟨G, F, ?_, h3, hF, hs, by show F.length ≤ qTo M p + (M p).length; omega, fun y => ?_⟩
    · show g302_20b r7 (g302_20 r7 f fu) f _ _ _ _ = _
      unfold g302_20b
      rw [if_pos hpp, Int.toNat_natCast, h108, if_pos (by omega), ep]
    · rw [hm y]
      have et : (M p).take i = M p := List.take_of_length_le (by omega)
      unfold gM
      rw [et]
      constructor
      · rintro ⟨p', w, a1, a2, a3 | a3⟩
        · exact ⟨p', w, a1, a2, .inl ⟨by omega, a3.2⟩⟩
        · exact ⟨p', w, a1, a2, .inl ⟨by omega, by rw [a3.1]; exact a3.2⟩⟩
      · rintro ⟨p', w, a1, a2, a3 | a3⟩
        · by_cases cp : p' = p
          · exact ⟨p', w, a1, a2, .inr ⟨cp, by rw [← cp]; exact a3.2⟩⟩
          · exact ⟨p', w, a1, a2, .inl ⟨by omega, a3.2⟩⟩
        · rw [List.take_zero] at a3; cases a3.2
  | succ d ih =>
    intro i fu G F h1 h2 h3 hF hs hl hm
    obtain ⟨fu, rfl⟩ : ∃ t, fu = t + 1 := ⟨fu - 1, by omega⟩
    have hi : i < (M p).length := by omega
    have h108 : G 108 p = ((M p).length : Int) := by rw [h3 _ _ (by omega) (by omega) (by omega) (by omega)]; exact (hE.2.2.2 p hp).1.1
    have e5 : xwr ((i : Int) + 1) = ((i + 1 : Nat) : Int) := by rw [xwr_g _ (by omega) (by omega)]; omega
    have hT : rTb G s.1.length (qN s) M := hE.2.2.2.ge (fun a j _ _ => h3 _ _ (by omega) (by omega) (by omega) (by omega))
    obtain ⟨t1, t2⟩ := hT p hp
    have hrl := (t1.2.2 i hi).1
    have g3 : G 3 p = qNm s p := by
      rw [h3 _ _ (by omega) (by omega) (by omega) (by omega)]
      exact hE.1.1.2.2 p hp
    have g4 : G 4 p = (((M p).getD i dRw).1.length : Int) := by
      rw [h3 _ _ (by omega) (by omega) (by omega) (by omega), hrl, (qN_c hok.1 p).1]
      exact hE.2.1 p hp
    obtain ⟨G1, F1, k1, k2, k3, k4, k5, k6⟩ := l_198 (f := f) (x := (qNm s p, ((M p).getD i dRw).1)) (by omega) hb hF hs (t1.ve (by omega) t2 hi) (by show ((M p).getD i dRw).1.length ≤ 4; omega) ⟨by omega, by omega, by omega, by omega⟩ (by omega)
    obtain ⟨G2, F2, u1, u2, u3, u4, u5, u6⟩ := ih (i + 1) fu G1 F1 (by omega) (by omega) (fun a j y1 y2 y3 y4 => by rw [k6 a j y1 y2 y3 y4, h3 a j y1 y2 y3 y4]) k2 k3 (by rcases k5 with q | q <;> first | (rw [q]; omega) | omega) (fun y => by
      rw [k4 y, hm y]
      have et : (M p).take (i + 1) = (M p).take i ++ [(M p).getD i dRw] := by rw [List.take_succ_eq_append_getElem hi, getD_e hi]
      unfold gM
      rw [et]
      constructor
      · rintro (⟨p', w, a1, a2, a3 | a3⟩ | a)
        · exact ⟨p', w, a1, a2, .inl a3⟩
        · exact ⟨p', w, a1, a2, .inr ⟨a3.1, List.mem_append.mpr (.inl a3.2)⟩⟩
        · exact ⟨p, (M p).getD i dRw, hp, a, .inr ⟨rfl, List.mem_append.mpr (.inr (List.mem_singleton.mpr rfl))⟩⟩
      · rintro ⟨p', w, a1, a2, a3 | ⟨a3, a4⟩⟩
        · exact .inl ⟨p', w, a1, a2, .inl a3⟩
        · rcases List.mem_append.mp a4 with a4 | a4
          · exact .inl ⟨p', w, a1, a2, .inr ⟨a3, a4⟩⟩
          · rw [List.mem_singleton.mp a4, a3] at a2
            exact .inr a2)
    refine ⟨G2, F2, ?_, u2, u3, u4, u5, u6⟩
    rw [← u1]
    show g302_20b r7 (g302_20 r7 f fu) f _ _ _ _ = _
    unfold g302_20b
    rw [if_pos hpp]
    simp only [Nat.reduceAdd, Int.toNat_natCast, if_pos hpp, h108]
    rw [if_neg (by omega), l_261 (by omega) (by omega), Option.bind_some, g3, g4]
    have k1' : g198 f b (qNm s p) (((M p).getD i dRw).1.length : Int) 107 (((p * 520 + i) * 4 : Nat) : Int) G = some G1 := k1
    simp only [k1', Option.bind_some, e5]
/-- gatherFacts -/
theorem l_302 {G : xG_} (hf : 3600 < f) (hok : qOk s) (hb : isFb b) (hE : rEn G q c s M) (hM : qTb s M) : ∃ G' F, g302 f b G = some G' ∧ xfy b G G' ∧ rFa G' b F ∧ qFa s M F ∧ F.length ≤ 1600 := by
  have hnp := hok.1.1
  have hb2 : 36 < b := by unfold isFb at hb; omega
  have loop : ∀ (d p fu : Nat) (Z : xG_) (F : List pFc), p + d = s.1.length → d < fu → xfy b G Z → rFa Z b F → F.Pairwise fLt → F.length ≤ qTo M p → (∀ y, y ∈ F ↔ gM s M p 0 y) → ∃ G' F', g302_7 f fu b (p : Int) Z = some G' ∧ xfy b G G' ∧ rFa G' b F' ∧ F'.Pairwise fLt ∧ F'.length ≤ qTo M s.1.length ∧ ∀ y, y ∈ F' ↔ gM s M s.1.length 0 y := by
    intro d
    induction d with
    | zero =>
      intro p fu Z F h1 h2 h3 hF hs hl hm
      obtain ⟨fu, rfl⟩ : ∃ t, fu = t + 1 := ⟨fu - 1, by omega⟩
      have h8 : Z 2 8 = (s.1.length : Int) := by rw [h3 _ _ (by omega) (by omega) (by omega) (by omega)]; exact hE.1.1.1
      have ep : p = s.1.length := by omega
      subst ep
      refine ⟨Z, F, ?_, h3, hF, hs, hl, hm⟩
      show g302_7b (g302_7 f fu) f _ _ _ = _
      unfold g302_7b
      rw [h8, if_pos (by omega)]
    | succ d ih =>
      intro p fu Z F h1 h2 h3 hF hs hl hm
      obtain ⟨fu, rfl⟩ : ∃ t, fu = t + 1 := ⟨fu - 1, by omega⟩
      have h8 : Z 2 8 = (s.1.length : Int) := by rw [h3 _ _ (by omega) (by omega) (by omega) (by omega)]; exact hE.1.1.1
      have hlen := (hM p (by omega)).1
      obtain ⟨G1, F1, k1, k2, k3, k4, k5, k6⟩ := l_302_20 (f := f) (r7 := g302_7 f fu) (p := p) (G0 := G) hf hok hb (by omega) hE hM (M p).length 0 f Z F (by omega) (by omega) h3 hF hs (by omega) hm
      obtain ⟨G2, F2, u1, u2, u3, u4, u5, u6⟩ := ih (p + 1) fu G1 F1 (by omega) (by omega) k2 k3 k4 k5 k6
      refine ⟨G2, F2, ?_, u2, u3, u4, u5, u6⟩
      have k1' : g302_20 (g302_7 f fu) f f b (p : Int) 0 Z = _ := k1
      show g302_7b (g302_7 f fu) f _ _ _ = _
      unfold g302_7b
      rw [h8, if_neg (by omega), k1']
      exact u1
  obtain ⟨G', F', k1, k2, k3, k4, k5, k6⟩ := loop s.1.length 0 f (xup2 G b 3 0) [] (by omega) (by omega) (fun a j y1 y2 y3 y4 => xup2_n y1) ⟨xup2_s _ _ _ _, Nat.zero_le _, fun i hi => absurd hi (Nat.not_lt_zero _)⟩ List.Pairwise.nil (Nat.zero_le _) (fun y => ⟨fun h => absurd h (by simp), fun ⟨p', w, _, _, a⟩ => by
    rcases a with a | a
    · omega
    · rw [List.take_zero] at a; cases a.2⟩)
  have hq := qTo_le s.1.length (fun p hp => (hM p hp).1)
  refine ⟨G', F', ?_, k2, k3, ⟨k4, fun y => ?_⟩, by omega⟩
  · unfold g302
    rw [Option.bind_some]
    exact k1
  · rw [k6 y]
    constructor
    · rintro ⟨p', w, a1, a2, a3 | a3⟩
      · exact ⟨p', a1, by rw [a2], w, a3.2, by rw [a2]⟩
      · omega
    · rintro ⟨p, a1, a2, w, a3, a4⟩
      exact ⟨p, w, a1, Prod.ext a2 a4.symm, .inl ⟨a1, a3⟩⟩
end
