/-! THE CLASS: reason: explain() -/
theorem fst1_u {P : Nat → Prop} {n : Nat} {v w : Int} (h : fst1 P n v) (h' : fst1 P n w) : v = w := by
  rcases h with ⟨j, j1, j2, j3, rfl⟩ | ⟨j1, rfl⟩
  · rcases h' with ⟨k, k1, k2, k3, rfl⟩ | ⟨k1, _⟩
    · have : j = k := by
        rcases Nat.lt_trichotomy j k with c | c | c
        · exact absurd j2 (k3 j c)
        · exact c
        · exact absurd k2 (j3 k c)
      rw [this]
    · exact absurd j2 (k1 j j1)
  · rcases h' with ⟨k, k1, k2, k3, rfl⟩ | ⟨k1, rfl⟩
    · exact absurd k2 (j1 k k1)
    · rfl
theorem rsT_u {l : List pLt} {R : Nat → List pRw} {op : Nat → pRw → Prop} {b : List Int} {k : Nat} {v w : Int} (h : rsT l R op b k v) (h' : rsT l R op b k w) : v = w := by
  unfold rsT at h h'
  cases hq : (l.filter (fun y => decide (y.1 = 1)))[k]? with
  | none => rw [hq] at h h'; exact h.trans h'.symm
  | some y => rw [hq] at h h'; exact fst1_u h h'
theorem at_ex {Ls : List pLt} {k : Nat} (hk : k < pAtoms Ls) : ∃ l, l < Ls.length ∧ (Ls.getD l dLt).1 = 1 ∧ atN Ls l = k := by
  have key : ∀ n, n ≤ Ls.length → k < atN Ls n → ∃ l, l < n ∧ (Ls.getD l dLt).1 = 1 ∧ atN Ls l = k := by
    intro n
    induction n with
    | zero => intro _ h; exact absurd h (Nat.not_lt_zero _)
    | succ n ih =>
      intro hn h
      have e := atN_s (Ls := Ls) (l := n) (by omega)
      by_cases c : k < atN Ls n
      · obtain ⟨l, l1, l2⟩ := ih (by omega) c
        exact ⟨l, by omega, l2⟩
      · by_cases c1 : (Ls.getD n dLt).1 = 1
        · rw [if_pos c1] at e
          exact ⟨n, by omega, c1, by omega⟩
        · rw [if_neg c1] at e
          omega
  have e : atN Ls Ls.length = pAtoms Ls := by unfold atN pAtoms; rw [List.take_length]
  exact key Ls.length (Nat.le_refl _) (by omega)
section
variable {f q nq nx mp rp r sl p i : Nat} {S : Nat → Nat × Nat × Nat} {G : xG_} {m : Nat × Nat} {s : pPg} {xr cr : Nat → Nat} {M : Nat → List pRw} {as : List Int} {rk : Int}
/-- what gathersGiven() must tell -/
def gG1 (f : Nat) (S : Nat → Nat × Nat × Nat) (m : Nat × Nat) (q rp : Nat) (s : pPg) (M : Nat → List pRw) (p : Nat) (as : List Int) (G0 : xG_) : Prop := ∀ (r u : Nat) (G : xG_), r < s.2.2.2.2.1.length → G0 (q + 7) r = (u : Int) → (s.2.2.2.2.1.getD r dRu).1 = (p : Int) → (s.2.2.2.2.1.getD r dRu).2.2.1.1 ≠ 0 → cPs G → (∀ a j, 107 < a → G a j = G0 a j) → G 93 1 = (q : Int) → (∀ c, c < as.length → G 105 c = as.getD c 0) → ∃ v G', c167 f 93 u rp (S, G, m) = some (v, (S, G', m)) ∧ cPs G' ∧ (∀ b j, ¬ (83 ≤ b ∧ b ≤ 92) → b ≠ 103 → G' b j = G b j) ∧ (v = 1 ∧ (∃ ks, gDs (s.2.2.2.2.1.getD r dRu).2.2.2.2.2 (s.2.2.2.2.1.getD r dRu).2.2.2.2.1.length M qO1 (qG (s.2.2.2.2.1.getD r dRu)) (s.2.2.2.2.1.getD r dRu).2.2.1.2.2 (s.2.2.2.2.1.getD r dRu).2.2.2.1 (s.2.2.2.2.1.getD r dRu).2.2.1.2.1.toNat ks as) ∨ v = 0 ∧ ¬ ∃ ks, gDs (s.2.2.2.2.1.getD r dRu).2.2.2.2.2 (s.2.2.2.2.1.getD r dRu).2.2.2.2.1.length M qO1 (qG (s.2.2.2.2.1.getD r dRu)) (s.2.2.2.2.1.getD r dRu).2.2.1.2.2 (s.2.2.2.2.1.getD r dRu).2.2.2.1 (s.2.2.2.2.1.getD r dRu).2.2.1.2.1.toNat ks as)
/-- what explain() leaves -/
def exO (G : xG_) (s : pPg) (M : Nat → List pRw) (p : Nat) (as : List Int) (rk : Int) : Prop :=
  (∃ r, r < s.2.2.2.2.1.length ∧ rsG s M p as rk (s.2.2.2.2.1.getD r dRu) ∧ (∀ i, i < r → ¬ rsG s M p as rk (s.2.2.2.2.1.getD i dRu)) ∧ G 93 16 = (r : Int) ∧ ((qG (s.2.2.2.2.1.getD r dRu) ≠ 0 ∧ ∀ k, k < 3 → G 107 k = -1) ∨ (qG (s.2.2.2.2.1.getD r dRu) = 0 ∧ ∃ b, rsW s M p as rk (s.2.2.2.2.1.getD r dRu) b ∧ (∀ x, rsW s M p as rk (s.2.2.2.2.1.getD r dRu) x → vLe b x) ∧ ∀ k, k < 3 → rsT (s.2.2.2.2.1.getD r dRu).2.2.2.2.2 M (qOp (qK s) (qK s p : Int) rk) b k (G 107 k)))) ∨
  ((∀ r, r < s.2.2.2.2.1.length → ¬ rsG s M p as rk (s.2.2.2.2.1.getD r dRu)) ∧ G 93 16 = -1 ∧ ∀ k, k < 3 → G 107 k = -1)
def xEx (G G' : xG_) : Prop := ∀ b j, ¬ (83 ≤ b ∧ b ≤ 92) → ¬ (b = 93 ∧ (j = 1 ∨ j = 16)) → b ≠ 103 → b ≠ 105 → b ≠ 106 → b ≠ 107 → G' b j = G b j
theorem k_163l {G0 : xG_} (hf : 100003010 < f) (hs : cSs S) (hq : 226 < q) (hP : cPgm S G0 q nq s) (hok : qOc s) (hM : cMr S G0 nx mp q rp s xr cr M) (hMo : okM8 s M) (hmp : 107 < mp) (hrp : 203 < rp) (hpn : p < s.1.length) (hrk : 0 ≤ rk ∧ rk ≤ 1700) (has : as.length = qN s p) (hav : ∀ c, c < as.length → vOk (as.getD c 0)) (hG1 : gG1 f S m q rp s M p as G0) :
    ∀ (d r fu : Nat) (G : xG_), r + d = s.2.2.2.2.1.length → d < fu → cPs G → (∀ a j, 107 < a → G a j = G0 a j) → G 93 1 = (q : Int) → G 93 16 = -1 → (∀ k, k < 3 → G 107 k = -1) → (∀ c, c < as.length → G 105 c = as.getD c 0) → (∀ i, i < r → ¬ rsG s M p as rk (s.2.2.2.2.1.getD i dRu)) → ∃ G', c163_51 f fu 93 mp (p : Int) rk (r : Int) (S, G, m) = some (S, G', m) ∧ cPs G' ∧ (∀ b j, ¬ (83 ≤ b ∧ b ≤ 92) → ¬ (b = 93 ∧ j = 16) → b ≠ 103 → b ≠ 106 → b ≠ 107 → G' b j = G b j) ∧ exO G' s M p as rk := by
  have h24 : s.2.2.2.2.1.length ≤ 24 := hP.2.2.2.2.2.1.2.1
  intro d
  induction d with
  | zero =>
    intro r fu G e1 e2 hp hg h1 h16 h107 hgv hno
    obtain ⟨fu, rfl⟩ : ∃ t, fu = t + 1 := ⟨fu - 1, by omega⟩
    refine ⟨G, ?_, hp, fun _ _ _ _ _ _ _ => rfl, .inr ⟨fun r hr => hno r (by omega), h16, h107⟩⟩
    show c163_51b (c163_51 f fu) f _ _ _ _ _ _ = _
    unfold c163_51b
    rw [o_gr (s93 hs) h1, Option.bind_some, o_gi hP.1.1, Option.bind_some, hg _ _ (by omega), hP.2.2.2.2.2.1.1, if_pos (by omega)]
    rfl
  | succ d ih =>
    intro r fu G e1 e2 hp hg h1 h16 h107 hgv hno
    obtain ⟨fu, rfl⟩ : ∃ t, fu = t + 1 := ⟨fu - 1, by omega⟩
    have hr : r < s.2.2.2.2.1.length := by omega
    have er : xwr ((r : Int) + 1) = ((r + 1 : Nat) : Int) := by rw [xwr_g _ (by omega) (by omega)]; omega
    obtain ⟨u, K, pl, ⟨e7, hu8, e0'⟩, hR, hI, _⟩ := mx_rule hs hP hok hM hMo hrp hr
    have hm : s.2.2.2.2.1.getD r dRu ∈ s.2.2.2.2.1 := by rw [getD_e hr]; exact List.getElem_mem hr
    obtain ⟨w1, w2, w3, w4, w5, w6, w7, w8, w9⟩ := hok.1.1.2.2.2.2.2.2 _ hm
    have e0 := Eq.refl (c163_51 f (fu + 1) 93 mp (p : Int) rk (r : Int) (S, G, m))
    conv at e0 => { rhs; change c163_51b (c163_51 f fu) f 93 mp (p : Int) rk (r : Int) (S, G, m); unfold c163_51b }
    rw [o_gr (s93 hs) h1, Option.bind_some, o_gi hP.1.1, Option.bind_some, hg _ _ (by omega), hP.2.2.2.2.2.1.1, if_neg (by omega), o_gi (s93 hs), Option.bind_some, h16, if_neg (fun z => z rfl), Option.bind_some, o_gr (x := q) (y := q + 7) hP.1.1 (by rw [hg _ _ (by omega)]; exact hP.2.1.2.2.2.2.2.2.1), Option.bind_some, o_ar (x := q + 7) (y := u) hP.1.2.2.2.2.2.2.2.1 (by decide) (by omega : r < 24) (by rw [hg _ _ (by omega)]; exact e7), Option.bind_some, o_gi hR.1.1, Option.bind_some, hg _ _ (by omega), e0'] at e0
    -- the rule gives nothing
    have next : ∀ (G3 : xG_), cPs G3 → (∀ b j, ¬ (83 ≤ b ∧ b ≤ 92) → ¬ (b = 93 ∧ j = 16) → b ≠ 103 → b ≠ 106 → b ≠ 107 → G3 b j = G b j) → G3 93 16 = -1 → (∀ k, k < 3 → G3 107 k = -1) → ¬ rsG s M p as rk (s.2.2.2.2.1.getD r dRu) → c163_51 f (fu + 1) 93 mp (p : Int) rk (r : Int) (S, G, m) = c163_51 f fu 93 mp (p : Int) rk ((r + 1 : Nat) : Int) (S, G3, m) → ∃ G', c163_51 f (fu + 1) 93 mp (p : Int) rk (r : Int) (S, G, m) = some (S, G', m) ∧ cPs G' ∧ (∀ b j, ¬ (83 ≤ b ∧ b ≤ 92) → ¬ (b = 93 ∧ j = 16) → b ≠ 103 → b ≠ 106 → b ≠ 107 → G' b j = G b j) ∧ exO G' s M p as rk := fun G3 p3 z3 q16 q107 hn es => by
      obtain ⟨G', r1, r2, r3, r4⟩ := ih (r + 1) fu G3 (by omega) (by omega) p3 (fun a j y => by rw [z3 a j (by omega) (by omega) (by omega) (by omega) (by omega)]; exact hg a j y) (by rw [z3 _ _ (by omega) (by omega) (by omega) (by omega) (by omega)]; exact h1) q16 q107 (fun c hc => by rw [z3 _ _ (by omega) (by omega) (by omega) (by omega) (by omega)]; exact hgv c hc) (fun i hi => by
        by_cases e : i = r
        · rw [e]; exact hn
        · exact hno i (by omega))
      exact ⟨G', es.trans r1, r2, fun b j y1 y2 y3 y4 y5 => by rw [r3 b j y1 y2 y3 y4 y5, z3 b j y1 y2 y3 y4 y5], r4⟩
    -- it gives the row
    have done : ∀ (G3 : xG_), cPs G3 → (∀ b j, ¬ (83 ≤ b ∧ b ≤ 92) → ¬ (b = 93 ∧ j = 16) → b ≠ 103 → b ≠ 106 → b ≠ 107 → G3 b j = G b j) → G3 93 16 = (r : Int) → exO G3 s M p as rk → c163_51 f (fu + 1) 93 mp (p : Int) rk (r : Int) (S, G, m) = c163_51 f fu 93 mp (p : Int) rk ((r + 1 : Nat) : Int) (S, G3, m) → ∃ G', c163_51 f (fu + 1) 93 mp (p : Int) rk (r : Int) (S, G, m) = some (S, G', m) ∧ cPs G' ∧ (∀ b j, ¬ (83 ≤ b ∧ b ≤ 92) → ¬ (b = 93 ∧ j = 16) → b ≠ 103 → b ≠ 106 → b ≠ 107 → G' b j = G b j) ∧ exO G' s M p as rk := fun G3 p3 z3 q16 qx es => by
      obtain ⟨fu, rfl⟩ : ∃ t, fu = t + 1 := ⟨fu - 1, by omega⟩
      refine ⟨G3, es.trans ?_, p3, z3, qx⟩
      show c163_51b (c163_51 f fu) f _ _ _ _ _ _ = _
      unfold c163_51b
      rw [o_gr (s93 hs) (by rw [z3 _ _ (by omega) (by omega) (by omega) (by omega) (by omega)]; exact h1), Option.bind_some, o_gi hP.1.1, Option.bind_some, z3 _ _ (by omega) (by omega) (by omega) (by omega) (by omega), hg _ _ (by omega), hP.2.2.2.2.2.1.1]
      by_cases c : ((s.2.2.2.2.1.length : Nat) : Int) ≤ ((r + 1 : Nat) : Int)
      · rw [if_pos c]; rfl
      · rw [if_neg c, o_gi (s93 hs), Option.bind_some, q16, if_pos (by omega)]; rfl
    have put : ∀ (G2 : xG_) (w : Int), cPs G2 → (c163_154 (c163_51 f fu) f 93 mp (p : Int) rk (r : Int) w 93 (S, G2, m) = c163_51 f fu 93 mp (p : Int) rk ((r + 1 : Nat) : Int) (S, xup2 G2 93 16 w, m)) ∧ cPs (xup2 G2 93 16 w) := fun G2 w p2 => by
      refine ⟨?_, p2.ge (fun b j hz => xup2_n (by
        rcases hz with z | z | z | z | z | z | z | ⟨z, z1, z2, k, z3⟩ | z | z | z | ⟨k, z1, z2, z3⟩ <;> omega))⟩
      unfold c163_154 c163_157
      rw [o_p (s93 hs), Option.bind_some, er]
    have i93 : cq_is 10 18 93 (S, G, m) = some () := if_pos (s93 hs)
    have grp : cq_gr 2 1 8 mp (S, G, m) = some rp := o_gr hM.1 (by rw [hg _ _ hmp]; exact hM.2.2.1)
    by_cases ch : (s.2.2.2.2.1.getD r dRu).1 = (p : Int)
    · rw [if_neg (fun z => z ch), o_gi hR.1.1, Option.bind_some] at e0
      have qgz : qG (s.2.2.2.2.1.getD r dRu) = 0 ↔ (s.2.2.2.2.1.getD r dRu).2.2.1.1 = 0 := by
        unfold qG
        rcases w5.1 with z | z
        · rw [if_pos z.1]; exact ⟨fun _ => z.1, fun _ => rfl⟩
        · have : (10 : Int) ≤ (s.2.2.2.2.1.getD r dRu).2.2.1.1 := z.1.1
          rw [if_neg (by omega)]
          omega
      by_cases cg : (s.2.2.2.2.1.getD r dRu).2.2.1.1 = 0
      · have h3 : G u 3 = -1 := by
          rw [hg _ _ (by omega)]
          rcases hI.2.2.2.2 with z | z
          · exact z.2
          · have := z.1.1; omega
        rw [h3, if_neg (fun z => z rfl), grp, Option.bind_some, i93, Option.bind_some] at e0
        have hPG : cPgm S G q nq s := hP.ge (Nat.le_refl _) (fun _ _ => rfl) (fun a j y1 y2 => hg a j (by omega))
        have hMG : cMr S G nx mp q rp s xr cr M := ⟨hM.1, by rw [hg _ _ hmp]; exact hM.2.1, by rw [hg _ _ hmp]; exact hM.2.2.1, hM.2.2.2.1, fun p hp => by
          obtain ⟨y1, y2, y3⟩ := hM.2.2.2.2 p hp
          exact ⟨by rw [hg _ _ (by omega)]; exact y1, y2, y3.ge (fun _ _ _ => rfl) (fun j => hg _ _ (by omega)) (fun j => hg _ _ (by omega)) (fun j => hg _ _ (by omega))⟩⟩
        obtain ⟨v, G2, k1, k2, k3, k4⟩ := k_164w (f := f) (m := m) (rk := rk) (as := as) (r := r) (p := p) hf hs hp hq h1 hPG hok hMG hMo hrp hr (u := u) (by rw [hg _ _ (by omega)]; exact e7) ch hpn cg hrk hgv has hav
        rw [k1, Option.bind_some] at e0
        unfold c163_140 at e0
        have noG : (∀ w, ¬ rsW s M p as rk (s.2.2.2.2.1.getD r dRu) w) → ¬ rsG s M p as rk (s.2.2.2.2.1.getD r dRu) := fun hn hG => by
          rcases hG.2 with ⟨_, w, hw⟩ | ⟨z, _⟩
          · exact hn w hw
          · exact z (qgz.mpr cg)
        rcases k4 with ⟨rfl, n1, n2⟩ | ⟨rfl, b, n1, n2, n3, n4⟩
        · obtain ⟨u1, u2⟩ := put G2 (-1) k2
          rw [if_pos rfl, u1] at e0
          exact next _ u2 (fun b j y1 y2 y3 y4 y5 => by rw [xup2_n y2, k3 b j y1 y3 y4 y5]) (xup2_s _ _ _ _) (fun k hk => by rw [xup2_n (by omega), n2 k]; exact h107 k hk) (noG n1) e0
        · obtain ⟨u1, u2⟩ := put G2 (r : Int) k2
          rw [if_neg (show ¬ (1 : Int) = 0 by decide), u1] at e0
          refine done _ u2 (fun b j y1 y2 y3 y4 y5 => by rw [xup2_n y2, k3 b j y1 y3 y4 y5]) (xup2_s _ _ _ _) (.inl ⟨r, hr, ⟨ch, .inl ⟨qgz.mpr cg, b, n1⟩⟩, hno, xup2_s _ _ _ _, .inr ⟨qgz.mpr cg, b, n1, n2, fun k hk => ?_⟩⟩) e0
          rw [xup2_n (by omega)]
          by_cases ck : k < pAtoms (s.2.2.2.2.1.getD r dRu).2.2.2.2.2
          · obtain ⟨l, l1, l2, l3⟩ := at_ex ck
            have q := n4 l l1 l2
            have e := atN_get l1 l2
            rw [l3] at q e
            unfold rsT
            rw [e]
            exact q
          · unfold rsT
            have : ((s.2.2.2.2.1.getD r dRu).2.2.2.2.2.filter (fun y => decide (y.1 = 1)))[k]? = none := List.getElem?_eq_none (by unfold pAtoms at ck; omega)
            rw [this]
            show G2 107 k = -1
            rw [n3 k (by omega)]
            exact h107 k hk
      · have h3 : ¬ G u 3 = -1 := by
          rw [hg _ _ (by omega)]
          rcases hI.2.2.2.2 with z | z
          · exact absurd z.1 cg
          · have := z.2.1; have := z.2.2.1; omega
        rw [if_pos h3] at e0
        have noG : ¬ (rk = 1 ∧ ∃ ks, gDs (s.2.2.2.2.1.getD r dRu).2.2.2.2.2 (s.2.2.2.2.1.getD r dRu).2.2.2.2.1.length M qO1 (qG (s.2.2.2.2.1.getD r dRu)) (s.2.2.2.2.1.getD r dRu).2.2.1.2.2 (s.2.2.2.2.1.getD r dRu).2.2.2.1 (s.2.2.2.2.1.getD r dRu).2.2.1.2.1.toNat ks as) → ¬ rsG s M p as rk (s.2.2.2.2.1.getD r dRu) := fun hn hG => by
          rcases hG.2 with ⟨z, _⟩ | ⟨_, z⟩
          · exact cg (qgz.mp z)
          · exact hn z
        by_cases c1 : rk = 1
        · obtain ⟨v, G2, k1, k2, k3, k4⟩ := hG1 r u G hr e7 ch cg hp hg h1 hgv
          rw [if_neg (fun z => z c1), grp, Option.bind_some, i93, Option.bind_some, k1, Option.bind_some] at e0
          rcases k4 with ⟨rfl, k4⟩ | ⟨rfl, k4⟩
          · obtain ⟨u1, u2⟩ := put G2 (r : Int) k2
            rw [if_neg (show ¬ (1 : Int) = 0 by decide)] at e0
            unfold c163_140 at e0
            rw [if_neg (show ¬ (1 : Int) = 0 by decide), u1] at e0
            exact done _ u2 (fun b j y1 y2 y3 y4 y5 => by rw [xup2_n y2, k3 b j y1 y3]) (xup2_s _ _ _ _) (.inl ⟨r, hr, ⟨ch, .inr ⟨fun z => cg (qgz.mp z), c1, k4⟩⟩, hno, xup2_s _ _ _ _, .inl ⟨fun z => cg (qgz.mp z), fun k hk => by rw [xup2_n (by omega), k3 _ _ (by omega) (by omega)]; exact h107 k hk⟩⟩) e0
          · obtain ⟨u1, u2⟩ := put G2 (-1) k2
            rw [if_pos rfl] at e0
            unfold c163_139 c163_140 at e0
            rw [if_pos rfl, u1] at e0
            exact next _ u2 (fun b j y1 y2 y3 y4 y5 => by rw [xup2_n y2, k3 b j y1 y3]) (xup2_s _ _ _ _) (fun k hk => by rw [xup2_n (by omega), k3 _ _ (by omega) (by omega)]; exact h107 k hk) (noG (fun z => k4 z.2)) e0
        · obtain ⟨u1, u2⟩ := put G (-1) hp
          rw [if_pos c1] at e0
          unfold c163_139 c163_140 at e0
          rw [if_pos rfl, u1] at e0
          exact next _ u2 (fun b j y1 y2 y3 y4 y5 => xup2_n y2) (xup2_s _ _ _ _) (fun k hk => by rw [xup2_n (by omega)]; exact h107 k hk) (noG (fun z => c1 z.1)) e0
    · rw [if_pos ch] at e0
      unfold c163_157 at e0
      rw [er] at e0
      exact next G hp (fun _ _ _ _ _ _ _ => rfl) h16 h107 (fun z => ch z.1) e0
end
