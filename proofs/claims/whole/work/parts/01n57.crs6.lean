section
/-! THE CLASS: reason: explain() -/
theorem fst1_u {P : Nat → Prop} {n : Nat} {v w : Int} (h : fst1 P n v) (h' : fst1 P n w) : v = w := by
  rcases h with ⟨j, j1, j2, j3, rfl⟩ | ⟨j1, rfl⟩
  · rcases h' with ⟨k, k1, k2, k3, rfl⟩ | ⟨k1, _⟩
    · have : j = k := by
        rcases Nat.lt_trichotomy j k with c | c | c
        · exact absurd j2 (k3 j c)
        · exact c
        · exact absurd k2 (j3 k c)
      rw [this]
    · exact absurd j2 (k1 j j1)
  · rcases h' with ⟨k, k1, k2, k3, rfl⟩ | ⟨k1, rfl⟩
    · exact absurd k2 (j1 k k1)
    · rfl
theorem rsT_u {l : List pLt} {R : Nat → List pRw} {op : Nat → pRw → Prop} {b : List Int} {k : Nat} {v w : Int} (h : rsT l R op b k v) (h' : rsT l R op b k w) : v = w := by
  unfold rsT at h h'
  cases hq : (l.filter (fun y => decide (y.1 = 1)))[k]? with
  | none => rw [hq] at h h'; exact h.trans h'.symm
  | some y => rw [hq] at h h'; exact fst1_u h h'
theorem at_ex {Ls : List pLt} {k : Nat} (hk : k < pAtoms Ls) : ∃ l, l < Ls.length ∧ (Ls.getD l dLt).1 = 1 ∧ atN Ls l = k := by
  have key : ∀ n, n ≤ Ls.length → k < atN Ls n → ∃ l, l < n ∧ (Ls.getD l dLt).1 = 1 ∧ atN Ls l = k := by
    intro n
    induction n with
    | zero => intro _ h; exact absurd h (Nat.not_lt_zero _)
    | succ n ih =>
      intro hn h
      have e := atN_s (Ls := Ls) (l := n) (by omega)
      by_cases c : k < atN Ls n
      · obtain ⟨l, l1, l2⟩ := ih (by omega) c
        exact ⟨l, by omega, l2⟩
      · by_cases c1 : (Ls.getD n dLt).1 = 1
        · rw [if_pos c1] at e
          exact ⟨n, by omega, c1, by omega⟩
        · rw [if_neg c1] at e
          omega
  have e : atN Ls Ls.length = pAtoms Ls := by unfold atN pAtoms; rw [List.take_length]
  exact key Ls.length (Nat.le_refl _) (by omega)
section
variable {f q nq nx mp rp r sl p i : Nat} {S : Nat → Nat × Nat × Nat} {G : xG_} {m : Nat × Nat} {s : pPg} {xr cr : Nat → Nat} {M : Nat → List pRw} {as : List Int} {rk : Int}
/-- what gathersGiven() must tell -/
def gG1 (f : Nat) (S : Nat → Nat × Nat × Nat) (m : Nat × Nat) (q rp : Nat) (s : pPg) (M : Nat → List pRw) (p : Nat) (as : List Int) (G0 : xG_) : Prop := ∀ (r u : Nat) (G : xG_), r < s.2.2.2.2.1.length → G0 (q + 7) r = (u : Int) → (s.2.2.2.2.1.getD r dRu).1 = (p : Int) → (s.2.2.2.2.1.getD r dRu).2.2.1.1 ≠ 0 → cPs G → (∀ a j, 107 < a → G a j = G0 a j) → G 93 1 = (q : Int) → (∀ c, c < as.length → G 105 c = as.getD c 0) → ∃ v G', c167 f 93 u rp (S, G, m) = some (v, (S, G', m)) ∧ cPs G' ∧ (∀ b j, ¬ (83 ≤ b ∧ b ≤ 92) → b ≠ 103 → G' b j = G b j) ∧ (v = 1 ∧ (∃ ks, gDs (s.2.2.2.2.1.getD r dRu).2.2.2.2.2 (s.2.2.2.2.1.getD r dRu).2.2.2.2.1.length M qO1 (qG (s.2.2.2.2.1.getD r dRu)) (s.2.2.2.2.1.getD r dRu).2.2.1.2.2 (s.2.2.2.2.1.getD r dRu).2.2.2.1 (s.2.2.2.2.1.getD r dRu).2.2.1.2.1.toNat ks as) ∨ v = 0 ∧ ¬ ∃ ks, gDs (s.2.2.2.2.1.getD r dRu).2.2.2.2.2 (s.2.2.2.2.1.getD r dRu).2.2.2.2.1.length M qO1 (qG (s.2.2.2.2.1.getD r dRu)) (s.2.2.2.2.1.getD r dRu).2.2.1.2.2 (s.2.2.2.2.1.getD r dRu).2.2.2.1 (s.2.2.2.2.1.getD r dRu).2.2.1.2.1.toNat ks as)
/-- what explain() leaves -/
def exO (G : xG_) (s : pPg) (M : Nat → List pRw) (p : Nat) (as : List Int) (rk : Int) : Prop :=
  (∃ r, r < s.2.2.2.2.1.length ∧ rsG s M p as rk (s.2.2.2.2.1.getD r dRu) ∧ (∀ i, i < r → ¬ rsG s M p as rk (s.2.2.2.2.1.getD i dRu)) ∧ G 93 16 = (r : Int) ∧ ((qG (s.2.2.2.2.1.getD r dRu) ≠ 0 ∧ ∀ k, k < 3 → G 107 k = -1) ∨ (qG (s.2.2.2.2.1.getD r dRu) = 0 ∧ ∃ b, rsW s M p as rk (s.2.2.2.2.1.getD r dRu) b ∧ (∀ x, rsW s M p as rk (s.2.2.2.2.1.getD r dRu) x → vLe b x) ∧ ∀ k, k < 3 → rsT (s.2.2.2.2.1.getD r dRu).2.2.2.2.2 M (qOp (qK s) (qK s p : Int) rk) b k (G 107 k)))) ∨
  ((∀ r, r < s.2.2.2.2.1.length → ¬ rsG s M p as rk (s.2.2.2.2.1.getD r dRu)) ∧ G 93 16 = -1 ∧ ∀ k, k < 3 → G 107 k = -1)
def xEx (G G' : xG_) : Prop := ∀ b j, ¬ (83 ≤ b ∧ b ≤ 92) → ¬ (b = 93 ∧ (j = 1 ∨ j = 16)) → b ≠ 103 → b ≠ 105 → b ≠ 106 → b ≠ 107 → G' b j = G b j
theorem k_163l {G0 : xG_} (hf : 100003010 < f) (hs : cSs S) (hq : 226 < q) (hP : cPgm S G0 q nq s) (hok : qOc s) (hM : cMr S G0 nx mp q rp s xr cr M) (hMo : okM8 s M) (hmp : 107 < mp) (hrp : 203 < rp) (hpn : p < s.1.length) (hrk : 0 ≤ rk ∧ rk ≤ 1700) (has : as.length = qN s p) (hav : ∀ c, c < as.length → vOk (as.getD c 0)) (hG1 : gG1 f S m q rp s M p as G0) :
    ∀ (d r fu : Nat) (G : xG_), r + d = s.2.2.2.2.1.length → d < fu → cPs G → (∀ a j, 107 < a → G a j = G0 a j) → G 93 1 = (q : Int) → G 93 16 = -1 → (∀ k, k < 3 → G 107 k = -1) → (∀ c, c < as.length → G 105 c = as.getD c 0) → (∀ i, i < r → ¬ rsG s M p as rk (s.2.2.2.2.1.getD i dRu)) → ∃ G', c163_51 f fu 93 mp (p : Int) rk (r : Int) (S, G, m) = some (S, G', m) ∧ cPs G' ∧ (∀ b j, ¬ (83 ≤ b ∧ b ≤ 92) → ¬ (b = 93 ∧ j = 16) → b ≠ 103 → b ≠ 106 → b ≠ 107 → G' b j = G b j) ∧ exO G' s M p as rk := by
  have h24 : s.2.2.2.2.1.length ≤ 24 := hP.2.2.2.2.2.1.2.1
  intro d
  induction d with
  | zero =>
    intro r fu G e1 e2 hp hg h1 h16 h107 hgv hno
    obtain ⟨fu, rfl⟩ : ∃ t, fu = t + 1 := ⟨fu - 1, by omega⟩
    refine ⟨G, ?_, hp, fun _ _ _ _ _ _ _ => rfl, .inr ⟨fun r hr => hno r (by omega), h16, h107⟩⟩
    show c163_51b (c163_51 f fu) f _ _ _ _ _ _ = _
    unfold c163_51b
    rw [o_gr (s93 hs) h1, Option.bind_some, o_gi hP.1.1, Option.bind_some, hg _ _ (by omega), hP.2.2.2.2.2.1.1, if_pos (by omega)]
    rfl
  | succ d ih =>
    intro r fu G e1 e2 hp hg h1 h16 h107 hgv hno
    obtain ⟨fu, rfl⟩ : ∃ t, fu = t + 1 := ⟨fu - 1, by omega⟩
    have hr : r < s.2.2.2.2.1.length := by omega
    have er : xwr ((r : Int) + 1) = ((r + 1 : Nat) : Int) := by rw [xwr_g _ (by omega) (by omega)]; omega
    obtain ⟨u, K, pl, ⟨e7, hu8, e0'⟩, hR, hI, _⟩ := mx_rule hs hP hok hM hMo hrp hr
    have hm : s.2.2.2.2.1.getD r dRu ∈ s.2.2.2.2.1 := by rw [getD_e hr]; exact List.getElem_mem hr
    obtain ⟨w1, w2, w3, w4, w5, w6, w7, w8, w9⟩ := hok.1.1.2.2.2.2.2.2 _ hm
    have e0 := Eq.refl (c163_51 f (fu + 1) 93 mp (p : Int) rk (r : Int) (S, G, m))
    conv at e0 => { rhs; change c163_51b (c163_51 f fu) f 93 mp (p : Int) rk (r : Int) (S, G, m); unfold c163_51b }
    rw [o_gr (s93 hs) h1, Option.bind_some, o_gi hP.1.1, Option.bind_some, hg _ _ (by omega), hP.2.2.2.2.2.1.1, if_neg (by omega), o_gi (s93 hs), Option.bind_some, h16, if_neg (fun z => z rfl), Option.bind_some, o_gr (x := q) (y := q + 7) hP.1.1 (by rw [hg _ _ (by omega)]; exact hP.2.1.2.2.2.2.2.2.1), Option.bind_some, o_ar (x := q + 7) (y := u) hP.1.2.2.2.2.2.2.2.1 (by decide) (by omega : r < 24) (by rw [hg _ _ (by omega)]; exact e7), Option.bind_some, o_gi hR.1.1, Option.bind_some, hg _ _ (by omega), e0'] at e0
    -- the rule gives nothing
    have next : ∀ (G3 : xG_), cPs G3 → (∀ b j, ¬ (83 ≤ b ∧ b ≤ 92) → ¬ (b = 93 ∧ j = 16) → b ≠ 103 → b ≠ 106 → b ≠ 107 → G3 b j = G b j) → G3 93 16 = -1 → (∀ k, k < 3 → G3 107 k = -1) → ¬ rsG s M p as rk (s.2.2.2.2.1.getD r dRu) → c163_51 f (fu + 1) 93 mp (p : Int) rk (r : Int) (S, G, m) = c163_51 f fu 93 mp (p : Int) rk ((r + 1 : Nat) : Int) (S, G3, m) → ∃ G', c163_51 f (fu + 1) 93 mp (p : Int) rk (r : Int) (S, G, m) = some (S, G', m) ∧ cPs G' ∧ (∀ b j, ¬ (83 ≤ b ∧ b ≤ 92) → ¬ (b = 93 ∧ j = 16) → b ≠ 103 → b ≠ 106 → b ≠ 107 → G' b j = G b j) ∧ exO G' s M p as rk := fun G3 p3 z3 q16 q107 hn es => by
      obtain ⟨G', r1, r2, r3, r4⟩ := ih (r + 1) fu G3 (by omega) (by omega) p3 (fun a j y => by rw [z3 a j (by omega) (by omega) (by omega) (by omega) (by omega)]; exact hg a j y) (by rw [z3 _ _ (by omega) (by omega) (by omega) (by omega) (by omega)]; exact h1) q16 q107 (fun c hc => by rw [z3 _ _ (by omega) (by omega) (by omega) (by omega) (by omega)]; exact hgv c hc) (fun i hi => by
        by_cases e : i = r
        · rw [e]; exact hn
        · exact hno i (by omega))
      exact ⟨G', es.trans r1, r2, fun b j y1 y2 y3 y4 y5 => by rw [r3 b j y1 y2 y3 y4 y5, z3 b j y1 y2 y3 y4 y5], r4⟩
    -- it gives the row
    have done : ∀ (G3 : xG_), cPs G3 → (∀ b j, ¬ (83 ≤ b ∧ b ≤ 92) → ¬ (b = 93 ∧ j = 16) → b ≠ 103 → b ≠ 106 → b ≠ 107 → G3 b j = G b j) → G3 93 16 = (r : Int) → exO G3 s M p as rk → c163_51 f (fu + 1) 93 mp (p : Int) rk (r : Int) (S, G, m) = c163_51 f fu 93 mp (p : Int) rk ((r + 1 : Nat) : Int) (S, G3, m) → ∃ G', c163_51 f (fu + 1) 93 mp (p : Int) rk (r : Int) (S, G, m) = some (S, G', m) ∧ cPs G' ∧ (∀ b j, ¬ (83 ≤ b ∧ b ≤ 92) → ¬ (b = 93 ∧ j = 16) → b ≠ 103 → b ≠ 106 → b ≠ 107 → G' b j = G b j) ∧ exO G' s M p as rk := fun G3 p3 z3 q16 qx es => by
      obtain ⟨fu, rfl⟩ : ∃ t, fu = t + 1 := ⟨fu - 1, by omega⟩
      refine ⟨G3, es.trans ?_, p3, z3, qx⟩
      show c163_51b (c163_51 f fu) f _ _ _ _ _ _ = _
      unfold c163_51b
      rw [o_gr (s93 hs) (by rw [z3 _ _ (by omega) (by omega) (by omega) (by omega) (by omega)]; exact h1), Option.bind_some, o_gi hP.1.1, Option.bind_some, z3 _ _ (by omega) (by omega) (by omega) (by omega) (by omega), hg _ _ (by omega), hP.2.2.2.2.2.1.1]
      by_cases c : ((s.2.2.2.2.1.length : Nat) : Int) ≤ ((r + 1 : Nat) : Int)
      · rw [if_pos c]; rfl
      · rw [if_neg c, o_gi (s93 hs), Option.bind_some, q16, if_pos (by omega)]; rfl
    have put : ∀ (G2 : xG_) (w : Int), cPs G2 → (c163_154 (c163_51 f fu) f 93 mp (p : Int) rk (r : Int) w 93 (S, G2, m) = c163_51 f fu 93 mp (p : Int) rk ((r + 1 : Nat) : Int) (S, xup2 G2 93 16 w, m)) ∧ cPs (xup2 G2 93 16 w) := fun G2 w p2 => by
      refine ⟨?_, p2.ge (fun b j hz => xup2_n (by
        rcases hz with z | z | z | z | z | z | z | ⟨z, z1, z2, k, z3⟩ | z | z | z | ⟨k, z1, z2, z3⟩ <;> omega))⟩
      unfold c163_154 c163_157
      rw [o_p (s93 hs), Option.bind_some, er]
    have i93 : cq_is 10 18 93 (S, G, m) = some () := if_pos (s93 hs)
    have grp : cq_gr 2 1 8 mp (S, G, m) = some rp := o_gr hM.1 (by rw [hg _ _ hmp]; exact hM.2.2.1)
    by_cases ch : (s.2.2.2.2.1.getD r dRu).1 = (p : Int)
    · rw [if_neg (fun z => z ch), o_gi hR.1.1, Option.bind_some] at e0
      have qgz : qG (s.2.2.2.2.1.getD r dRu) = 0 ↔ (s.2.2.2.2.1.getD r dRu).2.2.1.1 = 0 := by
        unfold qG
        rcases w5.1 with z | z
        · rw [if_pos z.1]; exact ⟨fun _ => z.1, fun _ => rfl⟩
        · have : (10 : Int) ≤ (s.2.2.2.2.1.getD r dRu).2.2.1.1 := z.1.1
          rw [if_neg (by omega)]
          omega
      by_cases cg : (s.2.2.2.2.1.getD r dRu).2.2.1.1 = 0
      · have h3 : G u 3 = -1 := by
          rw [hg _ _ (by omega)]
          rcases hI.2.2.2.2 with z | z
          · exact z.2
          · have := z.1.1; omega
        rw [h3, if_neg (fun z => z rfl), grp, Option.bind_some, i93, Option.bind_some] at e0
        have hPG : cPgm S G q nq s := hP.ge (Nat.le_refl _) (fun _ _ => rfl) (fun a j y1 y2 => hg a j (by omega))
        have hMG : cMr S G nx mp q rp s xr cr M := ⟨hM.1, by rw [hg _ _ hmp]; exact hM.2.1, by rw [hg _ _ hmp]; exact hM.2.2.1, hM.2.2.2.1, fun p hp => by
          obtain ⟨y1, y2, y3⟩ := hM.2.2.2.2 p hp
          exact ⟨by rw [hg _ _ (by omega)]; exact y1, y2, y3.ge (fun _ _ _ => rfl) (fun j => hg _ _ (by omega)) (fun j => hg _ _ (by omega)) (fun j => hg _ _ (by omega))⟩⟩
        obtain ⟨v, G2, k1, k2, k3, k4⟩ := k_164w (f := f) (m := m) (rk := rk) (as := as) (r := r) (p := p) hf hs hp hq h1 hPG hok hMG hMo hrp hr (u := u) (by rw [hg _ _ (by omega)]; exact e7) ch hpn cg hrk hgv has hav
        rw [k1, Option.bind_some] at e0
        unfold c163_140 at e0
        have noG : (∀ w, ¬ rsW s M p as rk (s.2.2.2.2.1.getD r dRu) w) → ¬ rsG s M p as rk (s.2.2.2.2.1.getD r dRu) := fun hn hG => by
          rcases hG.2 with ⟨_, w, hw⟩ | ⟨z, _⟩
          · exact hn w hw
          · exact z (qgz.mpr cg)
        rcases k4 with ⟨rfl, n1, n2⟩ | ⟨rfl, b, n1, n2, n3, n4⟩
        · obtain ⟨u1, u2⟩ := put G2 (-1) k2
          rw [if_pos rfl, u1] at e0
          exact next _ u2 (fun b j y1 y2 y3 y4 y5 => by rw [xup2_n y2, k3 b j y1 y3 y4 y5]) (xup2_s _ _ _ _) (fun k hk => by rw [xup2_n (by omega), n2 k]; exact h107 k hk) (noG n1) e0
        · obtain ⟨u1, u2⟩ := put G2 (r : Int) k2
          rw [if_neg (show ¬ (1 : Int) = 0 by decide), u1] at e0
          refine done _ u2 (fun b j y1 y2 y3 y4 y5 => by rw [xup2_n y2, k3 b j y1 y3 y4 y5]) (xup2_s _ _ _ _) (.inl ⟨r, hr, ⟨ch, .inl ⟨qgz.mpr cg, b, n1⟩⟩, hno, xup2_s _ _ _ _, .inr ⟨qgz.mpr cg, b, n1, n2, fun k hk => ?_⟩⟩) e0
          rw [xup2_n (by omega)]
          by_cases ck : k < pAtoms (s.2.2.2.2.1.getD r dRu).2.2.2.2.2
          · obtain ⟨l, l1, l2, l3⟩ := at_ex ck
            have q := n4 l l1 l2
            have e := atN_get l1 l2
            rw [l3] at q e
            unfold rsT
            rw [e]
            exact q
          · unfold rsT
            have : ((s.2.2.2.2.1.getD r dRu).2.2.2.2.2.filter (fun y => decide (y.1 = 1)))[k]? = none := List.getElem?_eq_none (by unfold pAtoms at ck; omega)
            rw [this]
            show G2 107 k = -1
            rw [n3 k (by omega)]
            exact h107 k hk
      · have h3 : ¬ G u 3 = -1 := by
          rw [hg _ _ (by omega)]
          rcases hI.2.2.2.2 with z | z
          · exact absurd z.1 cg
          · have := z.2.1; have := z.2.2.1; omega
        rw [if_pos h3] at e0
        have noG : ¬ (rk = 1 ∧ ∃ ks, gDs (s.2.2.2.2.1.getD r dRu).2.2.2.2.2 (s.2.2.2.2.1.getD r dRu).2.2.2.2.1.length M qO1 (qG (s.2.2.2.2.1.getD r dRu)) (s.2.2.2.2.1.getD r dRu).2.2.1.2.2 (s.2.2.2.2.1.getD r dRu).2.2.2.1 (s.2.2.2.2.1.getD r dRu).2.2.1.2.1.toNat ks as) → ¬ rsG s M p as rk (s.2.2.2.2.1.getD r dRu) := fun hn hG => by
          rcases hG.2 with ⟨z, _⟩ | ⟨_, z⟩
          · exact cg (qgz.mp z)
          · exact hn z
        by_cases c1 : rk = 1
        · obtain ⟨v, G2, k1, k2, k3, k4⟩ := hG1 r u G hr e7 ch cg hp hg h1 hgv
          rw [if_neg (fun z => z c1), grp, Option.bind_some, i93, Option.bind_some, k1, Option.bind_some] at e0
          rcases k4 with ⟨rfl, k4⟩ | ⟨rfl, k4⟩
          · obtain ⟨u1, u2⟩ := put G2 (r : Int) k2
            rw [if_neg (show ¬ (1 : Int) = 0 by decide)] at e0
            unfold c163_140 at e0
            rw [if_neg (show ¬ (1 : Int) = 0 by decide), u1] at e0
            exact done _ u2 (fun b j y1 y2 y3 y4 y5 => by rw [xup2_n y2, k3 b j y1 y3]) (xup2_s _ _ _ _) (.inl ⟨r, hr, ⟨ch, .inr ⟨fun z => cg (qgz.mp z), c1, k4⟩⟩, hno, xup2_s _ _ _ _, .inl ⟨fun z => cg (qgz.mp z), fun k hk => by rw [xup2_n (by omega), k3 _ _ (by omega) (by omega)]; exact h107 k hk⟩⟩) e0
          · obtain ⟨u1, u2⟩ := put G2 (-1) k2
            rw [if_pos rfl] at e0
            unfold c163_139 c163_140 at e0
            rw [if_pos rfl, u1] at e0
            exact next _ u2 (fun b j y1 y2 y3 y4 y5 => by rw [xup2_n y2, k3 b j y1 y3]) (xup2_s _ _ _ _) (fun k hk => by rw [xup2_n (by omega), k3 _ _ (by omega) (by omega)]; exact h107 k hk) (noG (fun z => k4 z.2)) e0
        · obtain ⟨u1, u2⟩ := put G (-1) hp
          rw [if_pos c1] at e0
          unfold c163_139 c163_140 at e0
          rw [if_pos rfl, u1] at e0
          exact next _ u2 (fun b j y1 y2 y3 y4 y5 => xup2_n y2) (xup2_s _ _ _ _) (fun k hk => by rw [xup2_n (by omega)]; exact h107 k hk) (noG (fun z => c1 z.1)) e0
    · rw [if_pos ch] at e0
      unfold c163_157 at e0
      rw [er] at e0
      exact next G hp (fun _ _ _ _ _ _ _ => rfl) h16 h107 (fun z => ch z.1) e0
end
end
section
/-! THE CLASS: reason() in the house -/
section
variable {f A hr n sl : Nat} {S : Nat → Nat × Nat × Nat} {G G' : xG_} {m : Nat × Nat} {T : List (List Int)} {P : Nat → Nat} {lns : Nat → sLn} {tx : List Int} {kp : Nat × List (List Int)} {mt : Int × List Int} {pl rf : Int}
/-- what works and ways use doesn't stand in the house -/
theorem cHs.wk {n' : Nat} {H : sHs} (h : cHs S G A H n) (hn : n ≤ n') (hp : cPs G') (hG : ∀ a j, ¬ (72 ≤ a ∧ a ≤ 203) → G' a j = G a j) : cHs S G' A H n' := by
  obtain ⟨T, lns, hr, tx, kp, mt, pl, rf⟩ := H
  obtain ⟨⟨a1, a2, a3, a4⟩, ⟨P, d1, d2, d3⟩, ⟨c1, c2⟩, ⟨c3, c4⟩, c5', c6', c7', ⟨an, sp, k1, k2, k3, k4⟩, c9'⟩ := h
  have sf : xSf A G G' := fun a j y1 y2 => hG a j (by omega)
  have id1 : ∀ a, a < A → S a = S a := fun _ _ => rfl
  refine ⟨⟨a1, hp, a3.ge (fun a j y1 y2 => hG a j (by omega)), a4⟩, ⟨P, d1.ge (Nat.le_refl _) id1 sf (by rw [hG _ _ (by omega)]; exact Int.le_refl _), fun y hy => (d2 y hy).ge (Nat.le_refl _) id1 sf (fun a j y1 y2 => hG a j (by omega)), d3.ge (Nat.le_refl _) id1 sf ⟨hG _ _ (by omega), hG _ _ (by omega)⟩⟩, ⟨c1, by rw [hG _ _ (by omega)]; exact c2⟩, ⟨by rw [hG _ _ (by omega)]; exact c3, by rw [hG _ _ (by omega)]; omega⟩, by rw [hG _ _ (by omega)]; exact c5', by rw [hG _ _ (by omega)]; exact c6', c7'.ge (hG _ _ (by omega)) (fun p => hG _ _ (by omega)), ⟨an, sp, k1, by rw [hG _ _ (by omega)]; exact k2, by rw [hG _ _ (by omega)]; exact k3, k4.ge (fun _ _ _ => rfl) (fun j => hG _ _ (by omega)) (fun j => hG _ _ (by omega)) (fun j => hG _ _ (by omega))⟩, c9'.ge ⟨hG _ _ (by omega), hG _ _ (by omega)⟩ (fun j => hG _ _ (by omega))⟩
def gG2 (f : Nat) (S : Nat → Nat × Nat × Nat) (m : Nat × Nat) : Prop := ∀ (q nq nx mp rp : Nat) (s : pPg) (xr cr : Nat → Nat) (M : Nat → List pRw) (p : Nat) (as : List Int) (G : xG_), cSs S → cPgm S G q nq s → qOc s → cMr S G nx mp q rp s xr cr M → okM8 s M → 203 < rp → 226 < q → p < s.1.length → as.length = qN s p → (∀ c, c < as.length → vOk (as.getD c 0)) → gG1 f S m q rp s M p as G
/-- reason() -/
theorem k_182 {pp i k v t : Int} (hf : 100003010 < f) (hG2 : gG2 f S m) (h : cHs S G A (T, lns, hr, tx, kp, mt, pl, rf) n) (hb : (lns hr).2.1.1 + (lns hr).2.1.2.1 < 520) (hst : stRe T (lns hr) pp i k t v) : (t = 0 ∧ ∃ G', c182 f 64 pp i k (S, G, m) = some (.inr v, (S, G', m)) ∧ cHs S G' A (T, lns, hr, tx, kp, mt, pl, rf) (n + 1)) ∨ (t = 1 ∧ c182 f 64 pp i k (S, G, m) = some (.inl 1, cq_ex (S, G, m))) := by
  obtain ⟨P, mp, b1, b2, b3, b4, b5, b6, b7, b8, b9, b10⟩ := hs_ln h hb
  have hh := h
  obtain ⟨⟨a1, a2, a3, a4⟩, _⟩ := h
  obtain ⟨s, M, i1, i2⟩ := hst
  obtain ⟨rp, xr, cr, nq, r1, r2, r3, r4, r5, r6, r7, r8, r9⟩ := b2.pm b1 i1
  have t7 := r7.2
  have t8 := r8.2
  obtain ⟨q, hq⟩ : ∃ q, q = P (lMo (lns hr)).1 := ⟨_, rfl⟩
  rw [← hq] at r1 r2 r6
  have q226 : 226 < q := by omega
  have i3 : cq_is 1 14 (243 + 9 * hr) (S, G, m) = some () := if_pos b4.1
  have i4 : cq_is 2 8 mp (S, G, m) = some () := if_pos r1.1
  have g6 : cq_gi 11 6 17 64 (S, G, m) = some (hr : Int) := by rw [o_gi (s64 a1), b9]
  have e15 := k_15 (f := f) (m := m) (p := pp) (i := i) (col := 0) r4.1 r1 r2
  have h16 : s.1.length ≤ 16 := r2.2.2.1.2.1
  have e0 := Eq.refl (c182 f 64 pp i k (S, G, m))
  conv at e0 => { rhs; unfold c182 }
  rw [o_gr (y := 220) (s64 a1) (p64_5 a2), Option.bind_some, g6, Option.bind_some, o_ar (s220 a1) (by decide) b8 b6, Option.bind_some, i3, Option.bind_some, b7, Option.bind_some, i4, Option.bind_some] at e0
  by_cases c1 : (0 ≤ pp ∧ pp < s.1.length) ∧ 0 ≤ i ∧ i < (M pp.toNat).length
  · obtain ⟨p, rfl⟩ : ∃ p : Nat, pp = (p : Int) := ⟨pp.toNat, by omega⟩
    obtain ⟨j, rfl⟩ : ∃ j : Nat, i = (j : Int) := ⟨i.toNat, by omega⟩
    have ep : ((p : Nat) : Int).toNat = p := by omega
    have ej : ((j : Nat) : Int).toNat = j := by omega
    have hp : p < s.1.length := by omega
    have hn := (qN_pos r4 hp)
    rw [if_pos ⟨c1, by omega, by rw [ep]; omega⟩] at e15
    rw [e15, Option.bind_some, if_pos (show ¬ (1 : Int) = 0 by decide)] at e0
    rw [ep, ej] at i2
    have hj : j < (M p).length := by rw [ep] at c1; omega
    rcases i2 with ⟨_, rfl, hv⟩ | ⟨z, _⟩
    · refine .inl ⟨rfl, ?_⟩
      have same : c182 f 64 (p : Int) (j : Int) k (S, G, m) = some (.inr v, (S, G, m)) → ∃ G', c182 f 64 (p : Int) (j : Int) k (S, G, m) = some (.inr v, (S, G', m)) ∧ cHs S G' A (T, lns, hr, tx, kp, mt, pl, rf) (n + 1) := fun e => ⟨G, e, hh.wk (Nat.le_succ _) a2 (fun _ _ _ => rfl)⟩
      unfold c182_55 at e0
      by_cases k0 : k < 0
      · rw [if_pos k0] at e0
        rcases hv with ⟨_, e⟩ | ⟨_, z, _⟩
        · rw [e] at same ⊢; exact same e0
        · omega
      rw [if_neg k0] at e0
      -- no REASON has more rows
      have big : 3 < k → pIn s.2.1 (p : Int) = true ∨ rsA s M p ((M p).getD j dRw).1 ((M p).getD j dRw).2 k v → v = -1 ∨ pIn s.2.1 (p : Int) = true := fun hk hA => by
        rcases hA with z | hA
        · exact .inr z
        · refine .inl ?_
          rcases hA with ⟨r, q1, q2, q3, ⟨z, _⟩ | ⟨_, _, z⟩ | ⟨_, _, b, _, _, z⟩⟩ | ⟨_, z⟩
          · omega
          · exact z
          · have hm : s.2.2.2.2.1.getD r dRu ∈ s.2.2.2.2.1 := by rw [getD_e q1]; exact List.getElem_mem q1
            obtain ⟨w1, w2, w3, w4, w5, w6, w7, w8, w9⟩ := r4.1.1.2.2.2.2.2.2 _ hm
            unfold rsT at z
            have : ((s.2.2.2.2.1.getD r dRu).2.2.2.2.2.filter (fun y => decide (y.1 = 1)))[(k - 1).toNat]? = none := List.getElem?_eq_none (by unfold pAtoms at w8; omega)
            rw [this] at z
            exact z
          · exact z
      by_cases k3 : 3 < k
      · rw [if_pos k3] at e0
        have : v = -1 := by
          rcases hv with ⟨_, e⟩ | ⟨z1, _, z⟩
          · exact e
          · rcases big k3 (.inr z) with e | e
            · exact e
            · rw [z1] at e; cases e
        rw [this] at same ⊢
        exact same e0
      have gi : cq_ab (q + 4) (p : Int) (S, G, m) = some (b01 (pIn s.2.1 (p : Int))) := by
        rw [← (r2.2.2.2.2.1 p (by omega)).2.1]
        exact o_ab r2.1.2.2.2.2.1 (by omega)
      rw [if_neg k3, o_gr r1.1 r1.2.1, Option.bind_some, o_gr r2.1.1 r2.2.1.2.2.2.1, Option.bind_some, gi, Option.bind_some] at e0
      cases hi : pIn s.2.1 (p : Int) with
      | true =>
        rw [hi, if_neg (by decide)] at e0
        rcases hv with ⟨_, e⟩ | ⟨z, _⟩
        · rw [e] at same ⊢; exact same e0
        · rw [hi] at z; cases z
      | false =>
        rw [hi, if_pos (by decide)] at e0
        have hA : rsA s M p ((M p).getD j dRw).1 ((M p).getD j dRw).2 k v := by
          rcases hv with ⟨z | z, _⟩ | ⟨_, _, z⟩
          · rw [hi] at z; cases z
          · exact absurd z k0
          · exact z
        -- explain
        obtain ⟨d1, d2, d3⟩ := r1.2.2.2.2 p hp
        obtain ⟨o1, o2, o3, o4⟩ := r5 p hp
        have hlr := (d3.2.2.2.2.2.2.2 j hj).1
        have hrk := (d3.2.2.2.2.2.2.2 j hj).2.2
        have rkb := o4 _ (get_in hj)
        have avs : ∀ c, c < ((M p).getD j dRw).1.length → vOk (((M p).getD j dRw).1.getD c 0) := fun c hc => o3 _ (get_in hj) _ (by rw [getD_e hc]; exact List.getElem_mem hc)
        have z93 : ∀ (G : xG_) (w : Int) (x : Nat), cPs G → (x = 1 ∨ x = 16) → cPs (xup2 G 93 x w) := fun G w x hp hx => hp.ge (fun b j hz => xup2_n (by
          rcases hz with z | z | z | z | z | z | z | ⟨z, z1, z2, k, z3⟩ | z | z | z | ⟨k, z1, z2, z3⟩ <;> omega))
        have p1 := z93 G (q : Int) 1 a2 (.inl rfl)
        have p2 := z93 _ (-1) 16 p1 (.inr rfl)
        obtain ⟨G3, f1, f2, f3⟩ := k_382f (f := f) (m := m) (x := 107) (L := 3) (v := -1) (S := S) (G := xup2 (xup2 G 93 1 (q : Int)) 93 16 (-1)) (by omega) (by omega) (s107 a1)
        have z3 : ∀ a j, ¬ (a = 93 ∧ (j = 1 ∨ j = 16)) → a ≠ 107 → G3 a j = G a j := fun a j y1 y2 => by rw [f3 a j y2, xup2_n (by omega), xup2_n (by omega)]
        have p3 : cPs G3 := p2.ge (fun b j hz => f3 b j (by
          rcases hz with z | z | z | z | z | z | z | ⟨z, z1, z2, k, z3⟩ | z | z | z | ⟨k, z1, z2, z3⟩ <;> omega))
        have d33 : cRw S G3 (xr p) (qN s p) (cr p) (M p) := d3.ge (fun _ _ _ => rfl) (fun j => z3 _ _ (by omega) (by omega)) (fun j => z3 _ _ (by omega) (by omega)) (fun j => z3 _ _ (by omega) (by omega))
        obtain ⟨G4, l1, l2, l3⟩ := k_78 (f := f) (m := m) d33 hj (s105 a1) hn.2 (by omega : 105 ≠ xr p + 1)
        have z4 : ∀ a j, ¬ (a = 93 ∧ (j = 1 ∨ j = 16)) → a ≠ 105 → a ≠ 107 → G4 a j = G a j := fun a j y1 y2 y3 => by rw [l2 a j (by omega), z3 a j y1 y3]
        have p4 : cPs G4 := p3.ge (fun b j hz => l2 b j (by
          rcases hz with z | z | z | z | z | z | z | ⟨z, z1, z2, k, z3⟩ | z | z | z | ⟨k, z1, z2, z3⟩ <;> omega))
        have q41 : G4 93 1 = (q : Int) := by rw [l2 _ _ (by omega), f3 _ _ (by omega), xup2_n (by omega), xup2_s]
        have q416 : G4 93 16 = -1 := by rw [l2 _ _ (by omega), f3 _ _ (by omega), xup2_s]
        obtain ⟨G5, m1, m2, m3, m4⟩ := k_163l (f := f) (m := m) (G0 := G) (rk := ((M p).getD j dRw).2) (as := ((M p).getD j dRw).1) (p := p) (mp := mp) hf a1 q226 r2 r4 r1 r5 (by omega) (by omega) hp rkb hlr avs (hG2 q nq A mp rp s xr cr M p _ G a1 r2 r4 r1 r5 (by omega) q226 hp hlr avs) s.2.2.2.2.1.length 0 f G4 (by omega) (by have := r2.2.2.2.2.2.1.2.1; omega) p4 (fun a j y => z4 a j (by omega) (by omega) (by omega)) q41 q416 (fun k hk => by rw [l2 _ _ (by omega)]; exact f2 k hk) (fun c hc => l3 c (by omega)) (fun i hi => absurd hi (Nat.not_lt_zero _))
        have z5 : ∀ a j, ¬ (83 ≤ a ∧ a ≤ 107) → G5 a j = G a j := fun a j y => by rw [m3 a j (by omega) (by omega) (by omega) (by omega) (by omega), z4 a j (by omega) (by omega) (by omega)]
        have e163 : c163 f 93 mp (p : Int) (j : Int) (S, G, m) = some (S, G5, m) := by
          have i5 : cq_is 5 4 (xr p) (S, G3, m) = some () := if_pos d3.1
          unfold c163
          rw [o_gr r1.1 r1.2.1, Option.bind_some, o_pr (s93 a1), Option.bind_some, o_p (s93 a1), Option.bind_some, o_gr (y := 107) (s93 a1) (p93_17 p2), Option.bind_some, f1, Option.bind_some, o_gr (x := mp) (y := rp) r1.1 (by rw [z3 _ _ (by omega) (by omega)]; exact r1.2.2.1), Option.bind_some, o_ar (x := rp) (y := xr p) r1.2.2.2.1 (by decide) hp (by rw [z3 _ _ (by omega) (by omega)]; exact d1), Option.bind_some, o_gr d3.1 d33.2.2.2.1.2.2.2, Option.bind_some, o_a d3.2.2.1 (by have := d3.2.2.2.2.1; omega), Option.bind_some, Option.bind_some, o_ar (x := rp) (y := xr p) r1.2.2.2.1 (by decide) hp (by rw [z3 _ _ (by omega) (by omega)]; exact d1), Option.bind_some, o_gr (y := 105) (s93 a1) (p93_11 p3), Option.bind_some, i5, Option.bind_some, l1, Option.bind_some, z3 _ _ (by omega) (by omega), hrk]
          exact m1
        have i93 : cq_is 10 18 93 (S, G, m) = some () := if_pos (s93 a1)
        rw [o_gr (y := 93) (s64 a1) (p64_3 a2), Option.bind_some, i93, Option.bind_some, e163, Option.bind_some] at e0
        refine ⟨G5, ?_, hh.wk (Nat.le_succ _) m2 (fun a j y => z5 a j (by omega))⟩
        rw [e0]
        unfold c182_93
        -- one answer
        have key : v = (if k = 0 then G5 93 16 else G5 107 (k - 1).toNat) := by
          rcases m4 with ⟨r, x1, x2, x3, x4, x5⟩ | ⟨x1, x2, x3⟩
          · rcases hA with ⟨r', y1, y2, y3, y4⟩ | ⟨y1, _⟩
            · have er : r' = r := by
                rcases Nat.lt_trichotomy r' r with c | c | c
                · exact absurd y2 (x3 r' c)
                · exact c
                · exact absurd x2 (y3 r c)
              subst er
              rcases y4 with ⟨z0, z1⟩ | ⟨z0, z1, z2⟩ | ⟨z0, z1, b, z2, z3, z4⟩
              · rw [if_pos z0, x4]; exact z1
              · rw [if_neg z0]
                rcases x5 with ⟨_, u2⟩ | ⟨u1, _⟩
                · rw [z2, u2 _ (by omega)]
                · exact absurd u1 z1
              · rw [if_neg z0]
                rcases x5 with ⟨u1, _⟩ | ⟨_, b', u2, u3, u4⟩
                · exact absurd z1 u1
                · have eb : b = b' := by
                    have q1 : vCmp b b' ≤ 0 := z3 b' u2
                    have q2 : vCmp b' b ≤ 0 := u3 b z2
                    have q3 := vCmp_anti b b'
                    exact vCmp_eq (z2.1.1.trans u2.1.1.symm) (by omega)
                  rw [eb] at z4
                  exact rsT_u z4 (u4 _ (by omega))
            · exact absurd x2 (y1 r x1)
          · rcases hA with ⟨r', y1, y2, _⟩ | ⟨_, y2⟩
            · exact absurd y2 (x1 r' y1)
            · rw [y2]
              by_cases z0 : k = 0
              · rw [if_pos z0, x2]
              · rw [if_neg z0, x3 _ (by omega)]
        by_cases z0 : k = 0
        · rw [if_neg (fun z => z z0), o_gr (y := 93) (s64 a1) (by rw [z5 _ _ (by omega)]; exact p64_3 a2), Option.bind_some, o_gi (s93 a1), Option.bind_some, key, if_pos z0]
        · obtain ⟨w, rfl⟩ : ∃ w : Nat, k = ((w + 1 : Nat) : Int) := ⟨(k - 1).toNat, by omega⟩
          have e1 : xwr (((w + 1 : Nat) : Int) - 1) = (w : Int) := by rw [xwr_g _ (by omega) (by omega)]; omega
          have e2 : (((w + 1 : Nat) : Int) - 1).toNat = w := by omega
          rw [if_pos z0, o_gr (y := 93) (s64 a1) (by rw [z5 _ _ (by omega)]; exact p64_3 a2), Option.bind_some, o_gr (y := 107) (s93 a1) (p93_17 m2), Option.bind_some, e1, o_a (s107 a1) (by omega), Option.bind_some, key, if_neg z0, e2]
    · rw [ep] at c1
      exact absurd c1 z
  · rw [if_neg (fun z => c1 z.1)] at e15
    rw [e15, Option.bind_some, if_neg (fun z => z rfl)] at e0
    rcases i2 with ⟨z, _⟩ | ⟨_, z, _⟩
    · exact absurd z c1
    · exact .inr ⟨z, e0⟩
end
end
