section
variable {lv' st' : List xa} {A : xme} {lv : xj_L} {st : List Value} {M : xj_M} {N : xNa} {s a b nx : Nat}
theorem xG14_ok {pc : Nat} {d lo hi : Int} {offs : Array Int} {l : List Nat} (hd : xj_tg pc d = some b) (hl2 : xo_tgs pc offs.toList = some l) (h0 : 0 ≤ lo + 2147483648) (h1 : hi + 1 = lo + offs.size) (ha : a = (lo + 2147483648).toNat) (h : xG14 a b l lv' st' A = some N) (hl : xlr lv' lv) (hs : xvs st' st) (hA : xmr A M) :
    ∃ q t r, xj_ts d lo hi offs st = some ((q, true), r) ∧ xj_tg pc q = some t ∧ xNr N (.inl (t, lv, r, M)) := by
  obtain ⟨i1, i2⟩ := xo_tgs_ok pc _ _ hl2
  have i1 : l.length = offs.size := by rw [i1]; rfl
  simp only [xG14] at h
  split at h
  · rename_i x r
    obtain ⟨c, h⟩ := xif_some h
    obtain ⟨w, ws, rfl, hw, hws⟩ := xvs_c hs
    obtain ⟨y, rfl, h3, h4⟩ := xv_i hw (xbeq c)
    have g := xa_e_int y
    cases c1 : Nat.blt x.2.2 a with
    | true =>
      rw [c1, xif_t] at h
      have c1 : x.2.2 < a := xblt c1
      refine ⟨d, b, ws, ?_, hd, xNr_go h hl hws hA⟩
      simp only [xj_ts]
      rw [if_pos (Or.inl (by omega))]
    | false =>
      rw [c1, xif_f] at h
      cases c2 : Nat.ble (Nat.add a l.length) x.2.1 with
      | true =>
        rw [c2, xif_t] at h
        have c2 : a + l.length ≤ x.2.1 := xble c2
        refine ⟨d, b, ws, ?_, hd, xNr_go h hl hws hA⟩
        simp only [xj_ts]
        rw [if_pos (Or.inr (by omega))]
      | false =>
        rw [c2, xif_f] at h
        obtain ⟨c3, h⟩ := xif_some h
        obtain ⟨c3, c4⟩ := xif_and c3
        have c3 := xcon_eq c3
        have c4 : a ≤ x.2.1 := xble c4
        split at h
        · rename_i t ht
          obtain ⟨off, o1, o2⟩ := i2 _ _ ht
          have hlt := (List.getElem?_eq_some_iff.mp ht).1
          have hlt : x.2.1 - a < l.length := hlt
          refine ⟨off, t, ws, ?_, o2, xNr_go h hl hws hA⟩
          simp only [xj_ts]
          rw [if_neg (by rintro (q | q) <;> omega)]
          have e : (y.toInt - lo).toNat = Nat.sub x.2.1 a := by
            show _ = x.2.1 - a
            omega
          rw [e]
          have o1 : offs[Nat.sub x.2.1 a]? = some off := by
            rw [← Array.getElem?_toList]; exact o1
          rw [o1]
        · cases h
  · cases h
end
