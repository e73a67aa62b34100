/-! THE CLASS: ask() -/
section
variable {f u q mp rp nx an sp : Nat} {S : Nat → Nat × Nat × Nat} {G : xG_} {m : Nat × Nat} {s : pPg} {xr cr : Nat → Nat} {M : Nat → List pRw} {V : List (Int × Nat)} {Ls : List pLt}
theorem st_179 {G2 : xG_} (hs : cSs S) (hp : cPs G) (h11 : G 64 11 = (sp : Int)) (hsp : sp = 221 ∨ sp = 224) (su : S u = (1, 6, 20)) (h6 : G u 6 = (V.length : Int)) (hu : 278 < u) (sm : S mp = (1, 2, 8)) (h1 : G mp 1 = (rp : Int)) (hmp : mp < 216 ∨ 227 < mp) (e : c130 f 83 u rp 0 (S, xup2 (xup2 G sp 0 (V.length : Int)) sp 1 0, m) = some (S, G2, m)) : c179 f 64 u mp (S, G, m) = c179_29 f f 64 sp 0 (S, G2, m) := by
  have ssp : S sp = (1, 5, 4) := by
    rcases hsp with rfl | rfl
    · exact s221 hs
    · exact s224 hs
  have z : ∀ a j, a ≠ sp → xup2 (xup2 G sp 0 (V.length : Int)) sp 1 0 a j = G a j := fun a j y => by rw [xup2_n (by omega), xup2_n (by omega)]
  have i1 : cq_is 5 4 sp (S, G, m) = some () := if_pos ssp
  have i2 : cq_is 9 14 83 (S, xup2 (xup2 G sp 0 (V.length : Int)) sp 1 0, m) = some () := if_pos (s83 hs)
  unfold c179
  rw [o_gr (s64 hs) h11, Option.bind_some, o_gi su, Option.bind_some, h6, i1, Option.bind_some, k_69 ssp, Option.bind_some, o_gr (y := 83) (s64 hs) (by rw [z _ _ (by omega)]; exact p64_2 hp), Option.bind_some, o_gr sm (by rw [z _ _ (by omega)]; exact h1), Option.bind_some, i2, Option.bind_some, e, Option.bind_some]
/-- ask() -/
theorem k_179 (hf : 100003010 < f) (hs : cSs S) (hp : cPs G) (han : an = 221 ∧ sp = 224 ∨ an = 224 ∧ sp = 221) (h10 : G 64 10 = (an : Int)) (h11 : G 64 11 = (sp : Int)) (hR : cRul S G u V (0, -1, -1) [] Ls) (hu : 278 < u) (hM : cMr S G nx mp q rp s xr cr M) (hMo : okM8 s M) (hmp : 227 < mp) (hrp : 227 < rp) (hxr : ∀ p, p < s.1.length → xr p + 2 < 216 ∨ 226 < xr p) (hn16 : s.1.length ≤ 16) (hw : ∀ y ∈ Ls, wLt s.1.length V.length y ∧ (y.1 ≠ 3 → 0 ≤ y.2.1 ∧ y.2.2.2.1.length = qN s y.2.1.toNat)) (hd : dLs Ls) (hat : pAtoms Ls ≤ 3) (hsf : sfe Ls V.length) :
    ∃ v G', c179 f 64 u mp (S, G, m) = some (v, (S, G', m)) ∧ cPs G' ∧ (∀ a j, ¬ (83 ≤ a ∧ a ≤ 92) → ¬ (sp ≤ a ∧ a ≤ sp + 2) → ¬ (a = 64 ∧ (j = 10 ∨ j = 11)) → G' a j = G a j) ∧
      ((v = -6000 ∧ G' 64 10 = (an : Int) ∧ G' 64 11 = (sp : Int) ∧ ∃ W : List (List Int), W.Nodup ∧ 500 < W.length ∧ ∀ x ∈ W, isW Ls V.length M qO1 x) ∨
       ∃ Q : List (List Int), Q.length ≤ 500 ∧ Q.Pairwise vLe ∧ isAll Ls V.length M qO1 Q ∧ v = (Q.length : Int) ∧ (Q.length = 0 ∧ G' 64 10 = (an : Int) ∧ G' 64 11 = (sp : Int) ∨ 0 < Q.length ∧ G' 64 10 = (sp : Int) ∧ G' 64 11 = (an : Int) ∧ cRw S G' sp V.length 500 (Q.map (fun x => (x, 0))))) := by
  obtain ⟨K, r1, r2, ⟨pl, p1, p2, p3⟩, r4, r5, r6⟩ := hR
  obtain ⟨hnd, bb, hpB⟩ := p3 hsf
  have hsp : sp = 221 ∨ sp = 224 := by omega
  have sS : S sp = (1, 5, 4) ∧ S (sp + 1) = (2, 4, 4000) ∧ S (sp + 2) = (2, 3, 500) := by
    rcases hsp with rfl | rfl
    · exact ⟨s221 hs, s222 hs, s223 hs⟩
    · exact ⟨s224 hs, s225 hs, s226 hs⟩
  have sP : G sp 2 = ((sp + 1 : Nat) : Int) ∧ G sp 3 = ((sp + 2 : Nat) : Int) := by
    rcases hsp with rfl | rfl
    · exact ⟨hp (221, 2, 222) (by decide), hp (221, 3, 223) (by decide)⟩
    · exact ⟨hp (224, 2, 225) (by decide), hp (224, 3, 226) (by decide)⟩
  obtain ⟨G1, hG1⟩ : ∃ G1, G1 = xup2 (xup2 G sp 0 (V.length : Int)) sp 1 0 := ⟨_, rfl⟩
  have z1 : ∀ a j, ¬ (a = sp ∧ j ≤ 1) → G1 a j = G a j := fun a j y => by rw [hG1, xup2_n (by omega), xup2_n (by omega)]
  have p1' : cPs G1 := hp.ge (fun a j hz => z1 a j (by
      rcases hz with z | z | z | z | z | z | z | ⟨z, z1, z2, k, z3⟩ | z | z | z | ⟨k, z1, z2, z3⟩ <;> omega))
  obtain ⟨G2, e1, e2, e3, e4, e5, e6, e7, e8, e9, e10, e11⟩ := k_130 (u := u) (fa := rp) (m := m) (G := G1) (f := f) (br := 0) (by omega) hs p1' (.inl rfl)
  have st := st_179 (f := f) (m := m) hs hp h11 hsp r1.1.1 r4 hu hM.1 hM.2.2.1 (by omega) (by rw [← hG1]; exact e1)
  have z2 : ∀ a j, ¬ (83 ≤ a ∧ a ≤ 92) → ¬ (a = sp ∧ j ≤ 1) → G2 a j = G a j := fun a j y1 y2 => by rw [e2 a j (by omega) (by omega) (by omega) (by omega), z1 a j y2]
  have hr1 : cRq S G2 u K Ls := r1.fx (fun a j y => z2 a j (by omega) (by omega))
  have hE : cWE S G2 u K Ls pl rp s.1.length s.1.length V.length (qAs (0, -1, -1) []) 0 (qN s) xr cr M (fun _ => 0) (fun _ => 1700) := by
    refine ⟨⟨hs, e3, e4, e5, e6, hM.2.2.2.1, by omega, Nat.le_refl _⟩, hr1, ⟨r5, hw, hd⟩, ⟨p1, fun k hk => ?_⟩, fun p hp' => ?_, fun l hl => ⟨e10 l hl, e11 l hl⟩⟩
    · obtain ⟨w1, w2, w3⟩ := p2 k hk
      refine ⟨by rw [z2 _ _ (by omega) (by omega)]; exact w1, w2, by rw [z2 _ _ (by omega) (by omega)]; exact w3, plA_8 (nv := V.length) (by decide +kernel) (fun y hy => (hw y hy).1.lv) r5 _ (fun x hx => ?_)⟩
      obtain ⟨i, hi, ei⟩ := List.getElem_of_mem (List.mem_of_mem_drop hx)
      have := (p2 i (by omega)).2.1
      rw [getD_e hi, ei] at this
      exact this
    · obtain ⟨w1, w2, w3⟩ := hM.2.2.2.2 p hp'
      have w4 := hxr p hp'
      obtain ⟨v1, v2, v3, _⟩ := hMo p hp'
      exact ⟨by rw [z2 _ _ (by omega) (by omega)]; exact w1, by omega, w3.ge (fun _ _ _ => rfl) (fun j => z2 _ _ (by omega) (by omega)) (fun j => z2 _ _ (by omega) (by omega)) (fun j => z2 _ _ (by omega) (by omega)), v1, v2, v3⟩
  obtain ⟨W, k, Bf, w1, w2, w3, w4, w5, w6, _⟩ := ways_start hE e7 e8 (b := 0) (vl := fun _ => 0) ⟨e9, by decide, fun k hk => by rw [Nat.zero_testBit] at hk; cases hk⟩ hat hsf hnd hpB
  obtain ⟨w7, w8⟩ := w6 rfl
  have hall : isAll Ls V.length M qO1 (W.map (vec V.length)) := all_of (np := s.1.length) (lo := fun _ => 0) (hi := fun _ => 1700) (fun y hy => (hw y hy).1) w4 (ways_bits hE e7 e8 e9 w3) (fun l hl h3 r hr => by
    have hy := (hw _ (lt_in hl))
    have h0 := hy.1
    have hlt : (Ls.getD l dLt).2.1.toNat < s.1.length := by
      have h5 := (hy.2 h3).1
      rcases h0 with ⟨_, _, h6, _⟩ | ⟨h6, _⟩
      · omega
      · exact absurd h6 h3
    exact (hMo _ hlt).2.2.2 r hr) (fun v hv => (w5 v hv).2) w7 (fun w hw' => w8 w (fun j hj => by rw [Nat.zero_testBit] at hj; cases hj) hw')
  have hF0 : cRw S G2 sp V.length 500 [] := by
    refine ⟨sS.1, ⟨4000, sS.2.1, by omega, by decide⟩, sS.2.2, ⟨?_, ?_, by rw [z2 _ _ (by omega) (by omega)]; exact sP.1, by rw [z2 _ _ (by omega) (by omega)]; exact sP.2⟩, Nat.zero_le _, by decide, r5, fun i hi => absurd hi (Nat.not_lt_zero i)⟩
    · rw [e2 _ _ (by omega) (by omega) (by omega) (by omega), hG1, xup2_n (by omega), xup2_s]
    · rw [e2 _ _ (by omega) (by omega) (by omega) (by omega), hG1, xup2_s]; rfl
  obtain ⟨G3, g1, g2, g3⟩ := k_179l (f := f) (m := m) (x := sp) hf hsp (fun p hp' => by have := hxr p hp'; omega) (by omega) r5 w4 W k 0 f G2 [] hE w3 w1 (by omega) (by omega) hF0 List.Pairwise.nil (fun r hr => by cases hr)
  have z3 : ∀ a j, ¬ (83 ≤ a ∧ a ≤ 92) → ¬ (sp ≤ a ∧ a ≤ sp + 2) → G3 a j = G a j := fun a j y1 y2 => by rw [g1 a j y1 y2, z2 a j y1 (by omega)]
  have c10 : G3 64 10 = (an : Int) := by rw [z3 _ _ (by omega) (by omega)]; exact h10
  have c11 : G3 64 11 = (sp : Int) := by rw [z3 _ _ (by omega) (by omega)]; exact h11
  rcases g3 with ⟨F, f1, f2, f3, f4, f5⟩ | ⟨f1, Z, f2, f3, f4⟩
  · have hQ : isAll Ls V.length M qO1 (F.map (·.1)) := by
      refine ⟨?_, fun v => ?_⟩
      · rw [List.nodup_iff_pairwise_ne, List.pairwise_map]
        exact f3.imp (fun {a b} h => (fun e : a.1 = b.1 => vLt_irr b.1 (by have h' : vLt a.1 b.1 := h; rw [e] at h'; exact h')))
      · rw [← hall.2 v, List.mem_map, List.mem_map]
        have := f5 v
        constructor
        · rintro ⟨r, r1, r2⟩
          rcases this.mp ⟨r, r1, r2⟩ with ⟨_, z, _⟩ | z
          · cases z
          · exact z
        · intro z
          obtain ⟨r, r1, r2⟩ := this.mpr (.inr z)
          exact ⟨r, r1, r2⟩
    have hFm : (F.map (·.1)).map (fun x => ((x, 0) : pRw)) = F := by
      rw [List.map_map]
      conv => rhs; rw [← List.map_id F]
      exact List.map_congr_left (fun r hr => Prod.ext rfl (f4 r hr).symm)
    have hlen : (F.map (·.1)).length = F.length := List.length_map _
    have hpw : (F.map (·.1)).Pairwise vLe := by
      rw [List.pairwise_map]
      have hlf : ∀ r ∈ F, r.1.length = V.length := fun r hr => by
        obtain ⟨i, hi, ei⟩ := List.getElem_of_mem hr
        have := (f2.2.2.2.2.2.2.2 i hi).1
        rw [getD_e hi, ei] at this
        exact this
      exact f3.imp_of_mem (fun {a b} ha hb h => Int.le_of_lt ((vLt_iff ((hlf a ha).trans (hlf b hb).symm)).mp h))
    have g1F : cq_gi 5 1 4 sp (S, G3, m) = some (F.length : Int) := by rw [o_gi sS.1, f2.2.2.2.1.2.1]
    by_cases c : F.length = 0
    · refine ⟨(F.length : Int), G3, ?_, g2, fun a j y1 y2 _ => z3 a j y1 y2, .inr ⟨F.map (·.1), by omega, hpw, hQ, by rw [hlen], .inl ⟨by omega, c10, c11⟩⟩⟩
      rw [st]
      have f1' : c179_29 f f 64 sp 0 (S, G2, m) = c179_101 f 64 sp (S, G3, m) := f1
      rw [f1']
      unfold c179_101 c179_121
      rw [g1F, Option.bind_some, if_pos (by omega), Option.bind_some]
    · have hle := f2.2.2.2.2.1
      have zz : ∀ a j, ¬ (a = 64 ∧ (j = 10 ∨ j = 11)) → xup2 (xup2 G3 64 11 (an : Int)) 64 10 (sp : Int) a j = G3 a j := fun a j y => by rw [xup2_n (by omega), xup2_n (by omega)]
      refine ⟨(F.length : Int), xup2 (xup2 G3 64 11 (an : Int)) 64 10 (sp : Int), ?_, g2.ge (fun a j hz => zz a j (by
        rcases hz with z | z | z | z | z | z | z | ⟨z, z1, z2, k, z3⟩ | z | z | z | ⟨k, z1, z2, z3⟩ <;> omega)), fun a j y1 y2 y3 => by rw [zz a j y3, z3 a j y1 y2], .inr ⟨F.map (·.1), by omega, hpw, hQ, by rw [hlen], .inr ⟨by omega, xup2_s _ _ _ _, by rw [xup2_n (by omega), xup2_s], ?_⟩⟩⟩
      · rw [st]
        have f1' : c179_29 f f 64 sp 0 (S, G2, m) = c179_101 f 64 sp (S, G3, m) := f1
        rw [f1']
        unfold c179_101 c179_121
        rw [g1F, Option.bind_some, if_neg (by omega), o_gr (s64 hs) c10, Option.bind_some, o_pr (s64 hs), Option.bind_some, o_pr (s64 hs), Option.bind_some, o_gi sS.1, Option.bind_some, zz _ _ (by omega), f2.2.2.2.1.2.1]
      · rw [hFm]
        exact f2.ge (fun _ _ _ => rfl) (fun j => zz _ _ (by omega)) (fun j => zz _ _ (by omega)) (fun j => zz _ _ (by omega))
  · refine ⟨-6000, G3, st.trans f1, g2, fun a j y1 y2 _ => z3 a j y1 y2, .inl ⟨rfl, c10, c11, Z, f2, f3, fun x hx => ?_⟩⟩
    rcases f4 x hx with ⟨_, z, _⟩ | ⟨v, v1, v2⟩
    · cases z
    · exact (hall.2 x).mp (List.mem_map.mpr ⟨v, v1, v2⟩)
end
