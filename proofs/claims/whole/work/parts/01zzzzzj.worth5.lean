/-! What a FORMULA is worth: the reference says so -/
section
variable {f o : Nat} {G : xG_} {C : fCs} {s : pPg} {M : Nat → List pRw} {N : List pNd}
def eFm (G : xG_) (o : Nat) (N : List pNd) (C : fCs) (s : pPg) (M : Nat → List pRw) : Prop := rNd G N ∧ rCs G o C ∧ rNs G 2 s.1 ∧ rPn G 2 s ∧ rTb G s.1.length (qN s) M
theorem rNs.ge' {G' : xG_} {o : Nat} {L : List Int} (h : rNs G o L) (h0 : G' o 8 = G o 8) (h1 : ∀ j, G' (o + 1) j = G (o + 1) j) : rNs G' o L := ⟨by rw [h0]; exact h.1, h.2.1, fun k hk => by rw [h1]; exact h.2.2 k hk⟩
theorem eFm.ge {G' : xG_} (h : eFm G o N C s M) (ho : 0 < o) (hf : xfE G G') : eFm G' o N C s M := by
  obtain ⟨a1, a2, a3, a4, a5⟩ := h
  exact ⟨a1.ge (hf _ _ (by omega)) (fun a j _ _ => hf _ _ (by omega)), fun x hx => by rw [hf _ _ (by omega), hf _ _ (by omega)]; exact a2 x hx, a3.ge' (hf _ _ (by omega)) (fun j => hf _ _ (by omega)), fun y hy => by rw [hf _ _ (by omega)]; exact a4 y hy, a5.ge (fun a j _ _ => hf _ _ (by omega))⟩
theorem xfE.tr {G1 G2 : xG_} (h1 : xfE G G1) (h2 : xfE G1 G2) : xfE G G2 := fun a j q => (h2 a j q).trans (h1 a j q)
theorem l_350r (hf : 600 < f) (ho : 0 < o) (hN : wFm N) (hl : N.length ≤ 62) (hC : okC C) (hM : okM s M) (hn2 : ∀ p, p < s.1.length → 0 ≤ pNn s.2.2.2.1 (p : Int)) : ∀ (n i : Nat) (G : xG_), i < n → i < N.length → eFm G o N C s M → G 0 91 = 0 →
    rWo G (g350r f n o (i : Int) G) (fW N C s M n i) := by
  intro n
  induction n with
  | zero => intro i G h; omega
  | succ n ih =>
    intro i G h1 h2 he h0
    obtain ⟨e1, e2, e3, e4, e5⟩ := he
    obtain ⟨n1, n2, n3, n4, n5⟩ := e1.2 i h2
    have hl5 : ∀ p, p < s.1.length → (M p).length ≤ 520 := fun p hp => (e5 p hp).1.2.1
    have hi2 : 0 ≤ (i : Int) ∧ (i : Int) < 140 := by omega
    have hw := hN i h2
    have hok := fun j (hj : j < n) (hj2 : j < N.length) => fW_ok hN hC hM hl5 n j hj hj2
    have go : ∀ {G' : xG_}, xfE G G' → ∀ j, j < i → G' 0 91 = 0 → rWo G' (g350r f n o (j : Int) G') (fW N C s M n j) := fun hx j hj h0' => ih j _ (by omega) (by omega) (eFm.ge ⟨e1, e2, e3, e4, e5⟩ ho hx) h0'
    clear ih
    show rWo G (g350b (g350r f n) f o (i : Int) G) (fW N C s M (n + 1) i)
    unfold g350b fW
    unfold wNd at hw
    rw [if_pos hi2, Int.toNat_natCast, n1]
    generalize hy : N.getD i dNd = y at *
    have hk : 1 ≤ y.1 ∧ y.1 ≤ 10 := by
      clear go hok
      omega
    rw [if_neg (by omega)]
    by_cases c1 : y.1 = 1
    · rw [if_pos c1, if_pos c1, if_pos hi2, n5]
      exact ⟨_, _, rfl, fun _ _ _ => rfl, h0, rfl⟩
    rw [if_neg c1, if_neg c1]
    by_cases c2 : y.1 = 2
    · have q : 0 ≤ y.2.1 ∧ y.2.1 < 72 := by
        clear go hok
        omega
      obtain ⟨c, hc⟩ : ∃ c : Nat, y.2.1 = (c : Int) := ⟨y.2.1.toNat, by omega⟩
      obtain ⟨r1, r2⟩ := e2 c (by omega)
      rw [if_pos c2, if_pos c2, if_pos hi2]
      unfold g350_98 g350_128 fCe
      rw [n2, if_pos q, hc, Int.toNat_natCast, r1]
      by_cases d2 : (C c).1 = 2
      · have hv : 1 ≤ (C c).2 ∧ (C c).2 ≤ 4 := by
          rcases hC c (by omega) with u | u | u
          · omega
          · omega
          · exact u.2
        have s1 : ∀ a j, ¬ (a = 0 ∧ j = 91) → xup2 G 0 91 (C c).2 a j = G a j := fun a j q => xup2_n (by omega)
        rw [if_neg (fun q => q d2), if_pos hi2, if_pos (by omega), if_pos d2, r2, xwr_g _ (by omega) (by omega), Option.bind_some, if_pos hi2]
        rw [s1 _ _ (by omega), Int.toNat_natCast, n2, hc, if_pos (by omega), Int.toNat_natCast, s1 _ _ (by omega), r1, if_pos (by omega)]
        exact ⟨_, _, rfl, fun a j q => xup2_n (by omega), xup2_s _ _ _ _⟩
      · rw [if_pos d2, if_pos hi2, if_neg d2, Int.toNat_natCast, n2, hc, if_pos (by omega), Int.toNat_natCast, r1]
        by_cases d1 : (C c).1 = 1
        · rw [if_neg (fun q => q d1), if_pos hi2, if_pos (by omega), if_pos d1, r2]
          exact ⟨_, _, rfl, fun _ _ _ => rfl, h0, rfl⟩
        · rw [if_pos d1, if_neg d1]
          exact ⟨_, _, rfl, fun _ _ _ => rfl, h0, rfl⟩
    rw [if_neg c2, if_neg c2]
    by_cases c3 : y.1 = 3
    · have q : (0 ≤ y.2.1 ∧ y.2.1 < i) ∧ (0 ≤ y.2.2.1 ∧ y.2.2.1 < i) ∧ (y.2.2.2.1 = 42 ∨ y.2.2.2.1 = 47 ∨ y.2.2.2.1 = 37 ∨ y.2.2.2.1 = 43 ∨ y.2.2.2.1 = 45) := by
        clear go hok
        rcases hw with q | q | q | q | q | q
        · omega
        · omega
        · exact q.2
        · omega
        · omega
        · omega
      obtain ⟨⟨q1, q2⟩, ⟨q3, q4⟩, q5⟩ := q
      obtain ⟨a, ha⟩ : ∃ a : Nat, y.2.1 = (a : Int) := ⟨y.2.1.toNat, by omega⟩
      obtain ⟨b, hb⟩ : ∃ b : Nat, y.2.2.1 = (b : Int) := ⟨y.2.2.1.toNat, by omega⟩
      have hoka := hok a (by omega) (by omega)
      have hokb := hok b (by omega) (by omega)
      obtain ⟨v1, G1, u1, u2, u3⟩ := go (fun _ _ _ => rfl) a (by omega) h0
      rw [if_pos c3, if_pos c3, if_pos hi2, n2, ha, hb, u1, Option.bind_some, Int.toNat_natCast, Int.toNat_natCast]
      simp only []
      unfold g350_163 g350_189
      cases hr : fW N C s M n a with
      | inl e =>
        rw [hr] at u3 hoka
        have z1 : G1 0 91 = e := u3
        have z2 : 1 ≤ e ∧ e ≤ 4 := hoka
        rw [if_pos (by omega), if_pos (by omega)]
        exact ⟨_, _, rfl, u2, z1⟩
      | inr va =>
        rw [hr] at u3 hoka
        obtain ⟨z1, z2⟩ : G1 0 91 = 0 ∧ v1 = va := u3
        have z3 : vOk va := hoka
        obtain ⟨v2, G2, w1, w2, w3⟩ := go u2 b (by omega) z1
        rw [if_neg (fun q => q z1), if_pos hi2, u2 _ _ (by omega), n3, hb, w1, Option.bind_some, z2]
        show rWo G _ (ebind (fW N C s M n b) _)
        simp only []
        cases hr2 : fW N C s M n b with
        | inl e =>
          rw [hr2] at w3 hokb
          have z4 : G2 0 91 = e := w3
          have z5 : 1 ≤ e ∧ e ≤ 4 := hokb
          rw [if_pos (by omega)]
          exact ⟨_, _, rfl, u2.tr w2, z4⟩
        | inr vb =>
          rw [hr2] at w3 hokb
          obtain ⟨z4, z5⟩ : G2 0 91 = 0 ∧ v2 = vb := w3
          obtain ⟨v3, G3, t1, t2, t3⟩ := l_351 (f := f) (op := y.2.2.2.1) q5 z3 hokb z4
          rw [if_neg (fun q => q z4), if_pos hi2, w2 _ _ (by omega), u2 _ _ (by omega), Int.toNat_natCast, n4, z5, t1, Option.bind_some]
          exact ⟨_, _, rfl, (u2.tr w2).tr t2, t3⟩
    rw [if_neg c3, if_neg c3]
    by_cases c4 : y.1 = 4 ∨ y.1 = 5
    · have q : (0 ≤ y.2.1 ∧ y.2.1 < 72) ∧ (0 ≤ y.2.2.1 ∧ y.2.2.1 < 72) := by
        clear go hok
        rcases hw with q | q | q | q | q | q
        · omega
        · omega
        · omega
        · exact q.2
        · omega
        · omega
      obtain ⟨v1, G1, u1, u2, u3⟩ := l_352 (f := f) (i := i) (by omega) hC e2 (by omega) q.1 q.2 n2 n3 n1 c4 h0
      rw [if_pos c4, u1, Option.bind_some]
      by_cases d : y.1 = 4
      · rw [if_pos d]
        exact ⟨_, _, rfl, u2, u3⟩
      · rw [if_neg d, if_pos (by omega)]
        exact ⟨_, _, rfl, u2, u3⟩
    rw [if_neg c4, if_neg (by omega), if_neg (by omega)]
    by_cases c10 : y.1 = 10
    · have q : (0 ≤ y.2.1 ∧ y.2.1 < i) ∧ (0 ≤ y.2.2.1 ∧ y.2.2.1 < i) ∧ 0 ≤ y.2.2.2.1 ∧ y.2.2.2.1 < i := by
        clear go hok
        rcases hw with q | q | q | q | q | q
        · omega
        · omega
        · omega
        · omega
        · omega
        · exact q.2
      obtain ⟨⟨q1, q2⟩, ⟨q3, q4⟩, q5, q6⟩ := q
      obtain ⟨a, ha⟩ : ∃ a : Nat, y.2.1 = (a : Int) := ⟨y.2.1.toNat, by omega⟩
      obtain ⟨b, hb⟩ : ∃ b : Nat, y.2.2.1 = (b : Int) := ⟨y.2.2.1.toNat, by omega⟩
      obtain ⟨c, hc⟩ : ∃ c : Nat, y.2.2.2.1 = (c : Int) := ⟨y.2.2.2.1.toNat, by omega⟩
      have hoka := hok a (by omega) (by omega)
      obtain ⟨v1, G1, u1, u2, u3⟩ := go (fun _ _ _ => rfl) a (by omega) h0
      rw [if_neg (by omega), if_neg (by omega), if_neg (by omega), if_neg (by omega), if_pos hi2, if_pos c10, n2, ha, hb, hc, u1, Option.bind_some, Int.toNat_natCast, Int.toNat_natCast, Int.toNat_natCast]
      simp only []
      unfold g350_243 g350_246
      cases hr : fW N C s M n a with
      | inl e =>
        rw [hr] at u3 hoka
        have z1 : G1 0 91 = e := u3
        have z2 : 1 ≤ e ∧ e ≤ 4 := hoka
        rw [if_neg (by omega)]
        exact ⟨_, _, rfl, u2, z1⟩
      | inr va =>
        rw [hr] at u3 hoka
        obtain ⟨z1, z2⟩ : G1 0 91 = 0 ∧ v1 = va := u3
        rw [if_pos z1, z2]
        show rWo G _ (if va = 0 then fW N C s M n c else fW N C s M n b)
        by_cases d : va = 0
        · obtain ⟨v2, G2, w1, w2, w3⟩ := go u2 c (by omega) z1
          rw [if_pos d, if_pos d, if_pos hi2, u2 _ _ (by omega), n4, hc, w1, Option.bind_some]
          exact ⟨_, _, rfl, u2.tr w2, w3⟩
        · obtain ⟨v2, G2, w1, w2, w3⟩ := go u2 b (by omega) z1
          rw [if_neg d, if_neg d, if_pos hi2, u2 _ _ (by omega), n3, hb, w1, Option.bind_some]
          exact ⟨_, _, rfl, u2.tr w2, w3⟩
    have q : y.1 = 6 ∧ y.2.1 = 0 ∨ 7 ≤ y.1 ∧ y.1 ≤ 9 ∧ 1 ≤ y.2.1 ∧ y.2.1 ≤ 4 := by
      clear go hok
      rcases hw with q | q | q | q | q | q
      · omega
      · omega
      · omega
      · omega
      · exact q
      · omega
    obtain ⟨v1, G1, u1, u2, u3⟩ := l_353 (f := f) (i := i) (by omega) e3 e4 hn2 e5 hM (by omega) n2 n1 n5 q h0
    rw [if_neg c10, u1, Option.bind_some]
    by_cases d6 : y.1 = 6
    · rw [if_pos d6]
      exact ⟨_, _, rfl, u2, u3⟩
    rw [if_neg d6]
    by_cases d7 : y.1 = 7
    · rw [if_pos d7]
      exact ⟨_, _, rfl, u2, u3⟩
    rw [if_neg d7]
    by_cases d8 : y.1 = 8
    · rw [if_pos d8]
      exact ⟨_, _, rfl, u2, u3⟩
    rw [if_neg d8, if_pos (by omega)]
    exact ⟨_, _, rfl, u2, u3⟩
/-- what the FORMULA with nodes N and root r is worth -/
def fWr (N : List pNd) (r : Int) (C : fCs) (s : pPg) (M : Nat → List pRw) : fWo := fW N C s M 64 r.toNat
theorem l_350 {r : Int} (hf : 600 < f) (ho : 0 < o) (hN : wFm N) (hl : N.length ≤ 62) (hC : okC C) (hM : okM s M) (hn2 : ∀ p, p < s.1.length → 0 ≤ pNn s.2.2.2.1 (p : Int)) (hr : 0 ≤ r ∧ r < N.length) (he : eFm G o N C s M) (h0 : G 0 91 = 0) : rWo G (g350 f o r G) (fWr N r C s M) := by
  have := l_350r (n := 64) hf ho hN hl hC hM hn2 r.toNat G (by omega) (by omega) he h0
  have e : ((r.toNat : Nat) : Int) = r := by omega
  rw [e] at this
  exact this
end
