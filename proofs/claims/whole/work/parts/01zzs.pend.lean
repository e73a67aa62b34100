/-! The reference's CHANGES that wait: one more -/
/-- a CHANGE that waits: 1 or -1, NAME, values -/
abbrev pPe : Type := Int × Int × List Int
abbrev dPe : pPe := (0, 0, [])
def rPe (G : xG_) (o : Nat) (ps : List pPe) : Prop := G o 33 = (ps.length : Int) ∧ ps.length ≤ 400 ∧ ∀ k, k < ps.length → G (o + 24) k = (ps.getD k dPe).1 ∧ G (o + 27) k = (ps.getD k dPe).2.1 ∧ G (o + 25) k = ((ps.getD k dPe).2.2.length : Int) ∧ (ps.getD k dPe).2.2.length ≤ 4 ∧ ∀ j, j < 4 → G (o + 28) (4 * k + j) = (ps.getD k dPe).2.2.getD j 0
def xfq (o : Nat) (G G' : xG_) : Prop := ∀ a j, ¬ (a = o ∧ j = 33) → a ≠ o + 24 → a ≠ o + 25 → a ≠ o + 27 → a ≠ o + 28 → G' a j = G a j
theorem xl_line28 {h : Nat} (hh : h < 4) : ((xl_t (123 + 29 * h + 28)).2.2 : Int) = 1600 := by
  have : h = 0 ∨ h = 1 ∨ h = 2 ∨ h = 3 := by omega
  rcases this with rfl | rfl | rfl | rfl <;> decide +kernel
section
variable {f o b c P m : Nat} {vs : List Int}
theorem l_p34 (hl : ((xl_t (o + 28)).2.2 : Int) = 1600) (hP : P < 400) (hm : vs.length = m) (hb : b ≠ o) (hb2 : b ≠ o + 28) (hc : (c : Int) + m ≤ ((xl_t b).2.2 : Int)) (hcb : c < 100000) : ∀ (d j fu : Nat) (G : xG_), j + d = 4 → d < fu → G o 33 = (P : Int) → (∀ k, k < m → G b (c + k) = vs.getD k 0) →
    ∃ G', g329_34 f fu o (m : Int) b (c : Int) (j : Int) G = some G' ∧ G' o 33 = ((P + 1 : Nat) : Int) ∧ (∀ k, j ≤ k → k < 4 → G' (o + 28) (4 * P + k) = vs.getD k 0) ∧ ∀ a i, ¬ (a = o ∧ i = 33) → ¬ (a = o + 28 ∧ 4 * P + j ≤ i ∧ i < 4 * P + 4) → G' a i = G a i := by
  intro d
  induction d with
  | zero =>
    intro j fu G hj hfu h33 hv
    obtain ⟨fu, rfl⟩ : ∃ t, fu = t + 1 := ⟨fu - 1, by omega⟩
    refine ⟨xup2 G o 33 ((P + 1 : Nat) : Int), ?_, xup2_s _ _ _ _, fun k _ _ => by omega, fun a i h1 _ => xup2_n h1⟩
    show g329_34b (g329_34 f fu) f _ _ _ _ _ _ = _
    unfold g329_34b
    rw [if_pos (by omega), h33, xwr_g _ (by omega) (by omega)]
    rfl
  | succ d ih =>
    intro j fu G hj hfu h33 hv
    obtain ⟨fu, rfl⟩ : ∃ t, fu = t + 1 := ⟨fu - 1, by omega⟩
    have e4 : xwr ((xwr ((4) * (P : Int))) + (j : Int)) = ((4 * P + j : Nat) : Int) := by
      rw [xwr_g (4 * (P : Int)) (by omega) (by omega), xwr_g _ (by omega) (by omega)]
      omega
    have e1 : xwr ((j : Int) + 1) = ((j + 1 : Nat) : Int) := by
      rw [xwr_g _ (by omega) (by omega)]
      omega
    have step : g329_34 f (fu + 1) o (m : Int) b (c : Int) (j : Int) G = g329_34 f fu o (m : Int) b (c : Int) ((j + 1 : Nat) : Int) (xup2 G (o + 28) (4 * P + j) (vs.getD j 0)) := by
      show g329_34b (g329_34 f fu) f _ _ _ _ _ _ = _
      unfold g329_34b g329_72
      rw [if_neg (by omega), h33, e4, hl, e1, Int.toNat_natCast]
      by_cases cj : m ≤ j
      · have ev : vs.getD j 0 = 0 := by rw [List.getD_eq_getElem?_getD, List.getElem?_eq_none (by omega)]; rfl
        rw [if_pos (by omega), if_pos (by omega), ev]
        rfl
      · have ec : xwr ((c : Int) + (j : Int)) = ((c + j : Nat) : Int) := by
          rw [xwr_g _ (by omega) (by omega)]
          omega
        rw [if_neg (by omega), ec, if_pos (by omega), if_pos (by omega), Int.toNat_natCast, hv j (by omega)]
        rfl
    obtain ⟨G', k1, k2, k3, k4⟩ := ih (j + 1) fu (xup2 G (o + 28) (4 * P + j) (vs.getD j 0)) (by omega) (by omega) (by rw [xup2_n (by omega)]; exact h33) (fun k hk => by rw [xup2_n (by omega)]; exact hv k hk)
    refine ⟨G', by rw [step]; exact k1, k2, fun k h1 h2 => ?_, fun a i h1 h2 => ?_⟩
    · by_cases ck : k = j
      · rw [ck, k4 _ _ (by omega) (by omega), xup2_s]
      · exact k3 k (by omega) h2
    · rw [k4 a i h1 (by omega), xup2_n (by omega)]
/-- pend -/
theorem l_pend {G : xG_} {h : Nat} {sg nm : Int} {ps : List pPe} (hf : 10 < f) (hh : h < 4) (ho : o = 123 + 29 * h) (hp : rPe G o ps) (h4 : ps.length < 400) (hm : vs.length = m) (hm4 : m ≤ 4) (hb : b ≠ o) (hb1 : b ≠ o + 24) (hb2 : b ≠ o + 25) (hb3 : b ≠ o + 27) (hb4 : b ≠ o + 28) (hc : (c : Int) + m ≤ ((xl_t b).2.2 : Int)) (hcb : c < 100000) (hv : ∀ k, k < m → G b (c + k) = vs.getD k 0) :
    ∃ G', g329 f o sg nm (m : Int) b (c : Int) G = some G' ∧ rPe G' o (ps ++ [(sg, nm, vs)]) ∧ xfq o G G' := by
  obtain ⟨p1, p2, p3⟩ := hp
  have hl : ((xl_t (o + 28)).2.2 : Int) = 1600 := by rw [ho]; exact xl_line28 hh
  obtain ⟨G', k1, k2, k3, k4⟩ := l_p34 (f := f) (o := o) (P := ps.length) hl h4 hm hb hb4 hc hcb 4 0 f (xup2 (xup2 (xup2 G (o + 24) ps.length sg) (o + 27) ps.length nm) (o + 25) ps.length (m : Int)) (by omega) (by omega) (by rw [xup2_n (by omega), xup2_n (by omega), xup2_n (by omega)]; exact p1) (fun k hk => by rw [xup2_n (by omega), xup2_n (by omega), xup2_n (by omega)]; exact hv k hk)
  refine ⟨G', ?_, ⟨by rw [k2, List.length_append]; rfl, by rw [List.length_append]; exact h4, fun k hk => ?_⟩, fun a j h1 h2 h3 h5 h6 => ?_⟩
  · unfold g329
    rw [if_pos (by rw [p1]; omega), p1, Int.toNat_natCast]
    simp only [Option.bind_some]
    rw [xup2_n (by omega), p1, if_pos (by omega), Int.toNat_natCast, xup2_n (by omega), xup2_n (by omega), p1, if_pos (by omega), Int.toNat_natCast]
    exact k1
  · rw [List.length_append] at hk
    have hk' : k < ps.length + 1 := hk
    by_cases ck : k < ps.length
    · have e : (ps ++ [(sg, nm, vs)]).getD k dPe = ps.getD k dPe := getD_app _ ck
      rw [e]
      obtain ⟨q1, q2, q3, q4, q5⟩ := p3 k ck
      refine ⟨?_, ?_, ?_, q4, fun j hj => ?_⟩
      · rw [k4 _ _ (by omega) (by omega), xup2_n (by omega), xup2_n (by omega), xup2_n (by omega)]; exact q1
      · rw [k4 _ _ (by omega) (by omega), xup2_n (by omega), xup2_n (by omega), xup2_n (by omega)]; exact q2
      · rw [k4 _ _ (by omega) (by omega), xup2_n (by omega), xup2_n (by omega), xup2_n (by omega)]; exact q3
      · rw [k4 _ _ (by omega) (by omega), xup2_n (by omega), xup2_n (by omega), xup2_n (by omega)]; exact q5 j hj
    · have ek : k = ps.length := by omega
      have e : (ps ++ [(sg, nm, vs)]).getD k dPe = (sg, nm, vs) := by rw [ek]; simp
      rw [e, ek]
      refine ⟨?_, ?_, ?_, (show vs.length ≤ 4 by omega), fun j hj => k3 j (by omega) hj⟩
      · rw [k4 _ _ (by omega) (by omega), xup2_n (by omega), xup2_n (by omega), xup2_s]
      · rw [k4 _ _ (by omega) (by omega), xup2_n (by omega), xup2_s]
      · rw [k4 _ _ (by omega) (by omega), xup2_s, hm]
  · rw [k4 a j h1 (by omega), xup2_n (by omega), xup2_n (by omega), xup2_n (by omega)]
end
def qPe (c : pCh) : pPe := (if c.1 = 43 then 1 else -1, c.2.1, c.2.2.2)
theorem xl274 : ((xl_t 274).2.2 : Int) = 2400 := by decide +kernel
section
variable {f o h : Nat} {cs : List pCh}
theorem l_324 (hf : 10 < f) (hh : h < 4) (ho : o = 123 + 29 * h) (hcs : cs.length ≤ 500) : ∀ (d k fu : Nat) (G : xG_) (ps : List pPe), k + d = cs.length → d < fu → ps.length + d ≤ 400 → rPe G o ps → rCl G cs →
    ∃ G', g365_324 f fu o (cs.length : Int) (k : Int) G = some ((cs.length : Int), G') ∧ rPe G' o (ps ++ (cs.drop k).map qPe) ∧ xfq o G G' := by
  intro d
  induction d with
  | zero =>
    intro k fu G ps hk hfu h4 hp hc
    obtain ⟨fu, rfl⟩ : ∃ t, fu = t + 1 := ⟨fu - 1, by omega⟩
    refine ⟨G, ?_, ?_, fun _ _ _ _ _ _ _ => rfl⟩
    · show g365_324b (g365_324 f fu) f _ _ _ _ = _
      unfold g365_324b
      rw [if_pos (by omega)]
    · rw [List.drop_of_length_le (by omega), List.map_nil, List.append_nil]
      exact hp
  | succ d ih =>
    intro k fu G ps hk hfu h4 hp hc
    obtain ⟨fu, rfl⟩ : ∃ t, fu = t + 1 := ⟨fu - 1, by omega⟩
    have hkl : k < cs.length := by omega
    obtain ⟨q1, q2, q3, q4, q5⟩ := hc k hkl
    have e4 : xwr (4 * (k : Int)) = ((4 * k : Nat) : Int) := by
      rw [xwr_g _ (by omega) (by omega)]
      omega
    have e1 : xwr ((k : Int) + 1) = ((k + 1 : Nat) : Int) := by
      rw [xwr_g _ (by omega) (by omega)]
      omega
    obtain ⟨G1, k1, k2, k3⟩ := l_pend (f := f) (b := 274) (c := 4 * k) (sg := if (cs.getD k dCh).1 = 43 then 1 else -1) (nm := (cs.getD k dCh).2.1) (vs := (cs.getD k dCh).2.2.2) hf hh ho hp (by omega) rfl q4 (by omega) (by omega) (by omega) (by omega) (by omega) (by rw [xl274]; omega) (by omega) q5
    have hc1 : rCl G1 cs := fun m hm => by
      rw [k3 _ _ (by omega) (by omega) (by omega) (by omega) (by omega), k3 _ _ (by omega) (by omega) (by omega) (by omega) (by omega), k3 _ _ (by omega) (by omega) (by omega) (by omega) (by omega)]
      obtain ⟨z1, z2, z3, z4, z5⟩ := hc m hm
      exact ⟨z1, z2, z3, z4, fun j hj => by rw [k3 _ _ (by omega) (by omega) (by omega) (by omega) (by omega)]; exact z5 j hj⟩
    obtain ⟨G2, u1, u2, u3⟩ := ih (k + 1) fu G1 _ (by omega) (by omega) (by rw [List.length_append]; show ps.length + 1 + d ≤ 400; omega) k2 hc1
    refine ⟨G2, ?_, ?_, fun a j y1 y2 y3 y4 y5 => (u3 a j y1 y2 y3 y4 y5).trans (k3 a j y1 y2 y3 y4 y5)⟩
    · show g365_324b (g365_324 f fu) f _ _ _ _ = _
      unfold g365_324b
      rw [if_neg (by omega), if_pos (by omega), if_pos (by omega), if_pos (by omega), Int.toNat_natCast, q1, q2, q3, e4, k1, Option.bind_some, e1]
      exact u1
    · have ed : cs.drop k = cs.getD k dCh :: cs.drop (k + 1) := by
        rw [List.drop_eq_getElem_cons hkl, getD_e hkl]
      rw [ed, List.map_cons]
      rw [List.append_assoc] at u2
      exact u2
theorem l_276_wr {G : xG_} {L : Nat → Int} {x4 x5 x6 : Int} (h : L 7 ≠ -1) : g365_276 f o x4 x5 x6 (xlx G L) = some (xwr (-1 - L 7), xlx G L) := by
  have hn : ¬ ((1 : Int), xlx G L).1 = 0 := fun h => absurd (show (1 : Int) = 0 from h) (by decide)
  unfold g365_276
  rw [l_bad, if_neg h, Option.bind_some, if_neg hn]
  show some (xwr (-1 - xlx G L 0 7), xlx G L) = _
  rw [xlx_7]
theorem l_276_f {G : xG_} {L : Nat → Int} {x4 x5 x6 : Int} (h : L 7 = -1) (h5 : x5 ≠ 0) : g365_276 f o x4 x5 x6 (xlx G L) = some (xwr (-5000 - x5), xup2 (xlx G L) 0 75 x6) := by
  unfold g365_276
  rw [l_bad, if_pos h, Option.bind_some, if_pos rfl, if_neg h5]
  rfl
theorem l_276_m {G : xG_} {L : Nat → Int} {x6 : Int} {ps : List pPe} (h : L 7 = -1) (hp : rPe G o ps) (ho : 0 < o) (hl : cs.length ≤ 500) (h4 : 400 < ps.length + cs.length) : g365_276 f o (cs.length : Int) 0 x6 (xlx G L) = some (-6000, xlx G L) := by
  have e : xlx G L o 33 = (ps.length : Int) := by rw [xlx_a (by omega)]; exact hp.1
  have := hp.2.1
  unfold g365_276
  rw [l_bad, if_pos h, Option.bind_some, if_pos rfl, if_pos rfl]
  show (if xwr (xlx G L o 33 + (cs.length : Int)) ≤ 400 then _ else _) = _
  rw [e, xwr_g _ (by omega) (by omega), if_neg (by omega)]
theorem l_276 {G : xG_} {L : Nat → Int} {x6 : Int} {ps : List pPe} (hf : 600 < f) (hh : h < 4) (ho : o = 123 + 29 * h) (hz : L 7 = -1) (hp : rPe G o ps) (hc : rCl G cs) (hl : cs.length ≤ 500) (h4 : ps.length + cs.length ≤ 400) :
    ∃ G', g365_276 f o (cs.length : Int) 0 x6 (xlx G L) = some ((cs.length : Int), G') ∧ rPe G' o (ps ++ cs.map qPe) ∧ xfq o (xlx G L) G' := by
  have e : xlx G L o 33 = (ps.length : Int) := by rw [xlx_a (by omega)]; exact hp.1
  have hp' : rPe (xlx G L) o ps := ⟨e, hp.2.1, fun k hk => by
    rw [xlx_a (by omega), xlx_a (by omega), xlx_a (by omega)]
    obtain ⟨z1, z2, z3, z4, z5⟩ := hp.2.2 k hk
    exact ⟨z1, z2, z3, z4, fun j hj => by rw [xlx_a (by omega)]; exact z5 j hj⟩⟩
  have hc' : rCl (xlx G L) cs := fun k hk => by
    rw [xlx_a (by omega), xlx_a (by omega), xlx_a (by omega)]
    obtain ⟨z1, z2, z3, z4, z5⟩ := hc k hk
    exact ⟨z1, z2, z3, z4, fun j hj => by rw [xlx_a (by omega)]; exact z5 j hj⟩
  obtain ⟨G', k1, k2, k3⟩ := l_324 (f := f) (by omega) hh ho hl cs.length 0 f (xlx G L) ps (by omega) (by omega) h4 hp' hc'
  refine ⟨G', ?_, k2, k3⟩
  unfold g365_276
  rw [l_bad, if_pos hz, Option.bind_some, if_pos rfl, if_pos rfl]
  show (if xwr (xlx G L o 33 + (cs.length : Int)) ≤ 400 then _ else _) = _
  rw [e, xwr_g _ (by omega) (by omega), if_pos (by omega)]
  exact k1
end
