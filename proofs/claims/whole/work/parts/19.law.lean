/-! THE CLAIM OUT OF ONE WALK OF THE LAW'S BODY. Your part is whole_start (and what it stands on); all else here is the same for every law, but numbers. -/
def R_law : String := "ChangeHouseLaw"
def lw_P (b : Addr) (xs : List Int32) (args : Array Value) (s : State) : Prop := args = #[.ref b] ∧ s.IntsAt b xs ∧ xs.length ≤ 3072 ∧ (Jvm.Cond.and given_1 narrow_1).before args s = true
def lw_Q (_ : Array Value) (s : State) (o : Outcome) (t : State) : Prop := o = .returned (some (.int 1)) ∧ Framed s o t [] 601024 7293034
def lw_Z (below : List Frame) (a : Array Value) (s : State) : State → Prop := fun t => ∃ o, t.status = .running ∧ Ended t below o ∧ lw_Q a s o t
/-- the law's own end, with 1 on the stack, nothing written that was there before, its room as the claim has it -/
theorem lw_ret {p : Program} {l : Launch} {e : Env} {s : State} {m : MethodId} {below : List Frame} {meth : Method} {c : Code} {b : Nat} (hx : p.tables.exec = Jvm.exec) (hb : c.code = code) (hr : meth.sig.returnType = ret) (hlocks : meth.locks = false) {pc : Nat} {H : Heap} {ls : Array Slot} (hdg : decode code pc = .ok (.ireturn, 1)) : W p l e room_1 s m #[Value.ref b] below meth c H [] 601024 7293034 (lw_Z below #[Value.ref b] s) (F0 m pc ls [.int 1]) := by
  intro T hT X
  obtain ⟨fs, hret, hrun, hended, hW, hframe⟩ := X.leave (v := some (.int 1)) (hlocks := hlocks) (fun h => by rw [hr] at h; cases h)
  have hmeth' : T.vm.method? m = some meth := X.method'
  refine ⟨T.setFrames fs, ?_, .returned (some (.int 1)), hrun, hended, rfl, ⟨_, rfl⟩, hW, hframe⟩
  jvm_step X.here [X.here.top, hx, hb, hdg, hmeth', hr, ret, narrow_b1]
  (try refine ⟨rfl, ?_⟩); (try refine ⟨rfl, ?_⟩)
  first | (intro acts; rw [hret _ acts rfl rfl rfl]) | rw [hret _ _ rfl rfl rfl]
  exact Steps.refl _
/-- what holds at the law's entry: the machine, the code, the tables' words (any of lw_tbl by 'hts w (by decide +kernel)'), the script of L ints xs at the cell b, what the Statement gives of the start (any of its parts by flat_of_before) -/
def lw_At (p : Program) (s : State) (m : MethodId) (meth : Method) (c : Code) (b L : Nat) (xs : Nat → Int32) : Prop :=
  p.tables.exec = Jvm.exec ∧ c.code = code ∧ meth.sig.returnType = ret ∧ c.maxLocals = 8 ∧ s.vm.findClass R_law = some m.cls ∧ (∀ w ∈ lw_tbl, w.before #[Value.ref b] s = true) ∧ va_X b L xs s s.heap ∧ b < s.heap.size ∧ meth.locks = false ∧ (Jvm.Cond.and given_1 narrow_1).before #[Value.ref b] s = true
/-- the law's own row, its run, and WHAT IS OWED OF IT -/
def xj_lr : xj_mR := (16, x, code, 8, ret, 1, false, (0, 0), (0, 0))
def xj_law (n d : Nat) (xs : List Int32) : Option (xj_R × xj_M) := xj_loop (xj_call n d) (none, d, some xs) xj_lr n (0, [(0, .ref 0)], [], ([], 0))
def xj_good : Prop := ∀ xs : List Int32, xs.length ≤ 3072 → ∃ (n d : Nat) (Mf : xj_M), d ≤ 839 ∧ xj_law n d xs = some (.inl (some (.int 1)), Mf) ∧ Mf.1.length ≤ 601024 ∧ Mf.2 ≤ 7293034
/-- the String constants as the Statement has them -/
def xj_tm (k : Nat) : Term := .string "ChangeHouse$Tape" ([79, 85, 87, 89, 91, 93, 95, 97, 126, 131].getD k 0)
def xj_ln10 : List Nat := (List.range 10).map (fun k => (xj_sB k).length)
def xj_bt10 : List (List Int32) := (List.range 10).map xj_sB
theorem xj_ln10_eq : ∀ k, k < 10 → xj_ln10.getD k 0 = (xj_sB k).length := by decide +kernel
theorem xj_bt10_eq : ∀ k, k < 10 → xj_bt10.getD k [] = xj_sB k := by decide +kernel
theorem xj_g0 : ∀ i, i < 10 → xj_ln10.getD i 0 < 2 ^ 31 := by decide +kernel
theorem xj_g1 : ∀ i, i < 10 → Cond.exactly (xj_tm i) "java/lang/String" ∈ flatC (Jvm.Cond.and given_1 narrow_1) := by decide +kernel
theorem xj_g2 : ∀ i, i < 10 → Cond.eq (.field (xj_tm i) "java/lang/String" "coder" "B") (.int 0) ∈ flatC (Jvm.Cond.and given_1 narrow_1) := by decide +kernel
theorem xj_g3 : ∀ i, i < 10 → Cond.arrayOf (.field (xj_tm i) "java/lang/String" "value" "[B") .byte ∈ flatC (Jvm.Cond.and given_1 narrow_1) := by decide +kernel
theorem xj_g4 : ∀ i, i < 10 → Cond.eq (.length (.field (xj_tm i) "java/lang/String" "value" "[B")) (.int (Int32.ofNat (xj_ln10.getD i 0))) ∈ flatC (Jvm.Cond.and given_1 narrow_1) := by decide +kernel
theorem xj_g5 : ∀ i, i < 10 → ∀ j, j < xj_ln10.getD i 0 → Cond.eq (.elem (.field (xj_tm i) "java/lang/String" "value" "[B") (.int (Int32.ofNat j))) (.int ((xj_bt10.getD i []).getD j 0)) ∈ flatC (Jvm.Cond.and given_1 narrow_1) := by decide +kernel
theorem xj_Sof {args : Array Value} {s : State} {N : Nat} {tm : Nat → Term} {len : List Nat} {byt : List (List Int32)} {A : Nat → Prop} (hN : ∀ i : Nat, i < N → len.getD i 0 < 2 ^ 31) (hex : ∀ i : Nat, i < N → (Cond.exactly (tm i) "java/lang/String").before args s = true) (hco : ∀ i : Nat, i < N → (Cond.eq (.field (tm i) "java/lang/String" "coder" "B") (.int 0)).before args s = true)
    (har : ∀ i : Nat, i < N → (Cond.arrayOf (.field (tm i) "java/lang/String" "value" "[B") .byte).before args s = true) (hle : ∀ i : Nat, i < N → (Cond.eq (.length (.field (tm i) "java/lang/String" "value" "[B")) (.int (Int32.ofNat (len.getD i 0)))).before args s = true)
    (hel : ∀ i : Nat, i < N → ∀ j : Nat, j < len.getD i 0 → (Cond.eq (.elem (.field (tm i) "java/lang/String" "value" "[B") (.int (Int32.ofNat j))) (.int ((byt.getD i []).getD j 0))).before args s = true) (hA : ∀ a : Nat, a < s.heap.size → ¬ A a) :
    ∃ adK adV : Nat → Nat, ∀ i : Nat, i < N → (tm i).eval args s none [] s = some (.ref (adK i)) ∧ va_O "java/lang/String" (adK i) A s s.heap ∧ va_OF "java/lang/String" "coder" "B" (.int 0) (adK i) A s s.heap ∧ va_OF "java/lang/String" "value" "[B" (.ref (adV i)) (adK i) A s s.heap ∧ va_T .byte (adV i) (len.getD i 0) (fun j => .int ((byt.getD i []).getD j 0)) A s s.heap := by
  have h0 : ∀ i : Nat, ∃ q : Nat × Nat, i < N → (tm i).eval args s none [] s = some (.ref q.1) ∧ va_O "java/lang/String" q.1 A s s.heap ∧ va_OF "java/lang/String" "coder" "B" (.int 0) q.1 A s s.heap ∧ va_OF "java/lang/String" "value" "[B" (.ref q.2) q.1 A s s.heap ∧ va_T .byte q.2 (len.getD i 0) (fun j => .int ((byt.getD i []).getD j 0)) A s s.heap := by
    intro i
    by_cases hi : i < N
    · obtain ⟨a, c, cA, kA, q1, q2, q3, q4, q5, q6, -⟩ := Cond.exactly_spec (args := args) (first := s) (o := none) (s := s) (idx := []) (t := tm i) (cls := "java/lang/String") (hex i hi)
      obtain ⟨t, ht, hT⟩ := va_Tof (f := fun j => .int ((byt.getD i []).getD j 0)) (A := A) (hN i hi) (har i hi) (va_eqt (hle i hi)) (fun j hj => va_eqt (hel i hi j hj)) hA
      exact ⟨(a, t), fun _ => ⟨q1, ⟨cA, q3, q5, by rw [q6]; exact q2, hA a (Array.getElem?_eq_some_iff.mp q3).1⟩, vk_OFof q1 (va_eqt (hco i hi)) hA, vk_OFof q1 ht hA, hT⟩⟩
    · exact ⟨(0, 0), fun h => absurd h hi⟩
  obtain ⟨ad, had⟩ := Classical.axiomOfChoice h0
  exact ⟨fun i => (ad i).1, fun i => (ad i).2, fun i hi => had i hi⟩
theorem xj_g7 : ∀ q ∈ xj_sT, Term.string (xj_nm q.1) q.2.1 = xj_tm q.2.2.1 ∨ Cond.eq (xj_tm q.2.2.1) (Term.string (xj_nm q.1) q.2.1) ∈ flatC (Jvm.Cond.and given_1 narrow_1) := by decide +kernel
theorem xj_g8 : Cond.isRef (.static Bundle.tN "UNASSIGNED_STACK" Bundle.steD) ∈ flatC (Jvm.Cond.and given_1 narrow_1) := by decide +kernel
theorem xj_g9 : Cond.isRef (.static Bundle.tN "SUPPRESSED_SENTINEL" Bundle.listD) ∈ flatC (Jvm.Cond.and given_1 narrow_1) := by decide +kernel
theorem xj_ga : Cond.eq (.static "java/lang/String" "COMPACT_STRINGS" "Z") (.int 1) ∈ flatC (Jvm.Cond.and given_1 narrow_1) := by decide +kernel
theorem xj_gb : Cond.laysStatic Bundle.tN "UNASSIGNED_STACK" Bundle.steD ∈ lw_tbl := by decide +kernel
theorem xj_gc : Cond.laysStatic Bundle.tN "SUPPRESSED_SENTINEL" Bundle.listD ∈ lw_tbl := by decide +kernel
theorem xj_gd : Cond.laysStatic "java/lang/String" "COMPACT_STRINGS" "Z" ∈ lw_tbl := by decide +kernel
theorem xj_ge : Cond.initialized Bundle.tN ∈ lw_tbl := by decide +kernel
theorem xj_gf0 : Cond.initialized "java/lang/String" ∈ lw_tbl := by decide +kernel
theorem xj_gi : Cond.laysStatic "jdk/internal/util/Preconditions" "SIOOBE_FORMATTER" "Ljava/util/function/BiFunction;" ∈ lw_tbl := by decide +kernel
theorem xj_gj : Cond.isRef (.static "jdk/internal/util/Preconditions" "SIOOBE_FORMATTER" "Ljava/util/function/BiFunction;") ∈ flatC (Jvm.Cond.and given_1 narrow_1) := by decide +kernel
theorem xj_gh : ∀ r ∈ vwCl.map (fun r => (r.1, r.2.2)), Cond.instantiable r.1 r.2 ∈ lw_tbl := by decide +kernel
theorem xj_same_nil {s t : State} {L : List Loc} {k n k1 n1 : Nat} (h : s.sameButNew t L k n) (hL : ∀ z ∈ L, s.heap.size ≤ z.base) (hk : k ≤ k1) (hn : n ≤ n1) : s.sameButNew t [] k1 n1 := by
  obtain ⟨e1, e2, e3, e4, e5, e6⟩ := h.mono hk hn
  refine ⟨e1, e2, e3, e4, e5, fun a c hc => ?_⟩
  obtain ⟨c', h1, h2, h3, h4⟩ := e6 a c hc
  have ha := (Array.getElem?_eq_some_iff.mp hc).1
  exact ⟨c', h1, h2, h3, fun i _ => h4 i (fun hm => absurd (hL _ hm) (Nat.not_le.mpr ha))⟩
/-- from the entry, for every script, the law comes to its end with true -/
theorem whole_start (hg : xj_good) {p : Program} {e : Env} {s : State} {m : MethodId} {below : List Frame} {meth : Method} {c : Code} (l : Launch) (hl0 : l.stackTraces = false) (htb : ∀ x ∈ c.exceptionTable.toList, False) {b L : Nat} {xs : Nat → Int32} (hL : L ≤ 3072) (C0 : lw_At p s m meth c b L xs) : W p l e room_1 s m #[Value.ref b] below meth c s.heap [] 0 0 (lw_Z below #[Value.ref b] s) (entryFrame m ([Value.ref b] : List Value).toArray 8) := by
  obtain ⟨hx, hb, hr, hml, hown, hts, hX, hbl, hlocks, hgv⟩ := C0
  have hs := flat_of_before _ hgv
  have hA : ∀ a : Nat, a < s.heap.size → ¬ (fun q : Nat => s.heap.size ≤ q) a := fun a h => Nat.not_le.mpr h
  obtain ⟨adK, adV, hS⟩ := xj_Sof (A := fun q => s.heap.size ≤ q) (N := 10) (tm := xj_tm) (len := xj_ln10) (byt := xj_bt10) xj_g0 (fun i hi => hs _ (xj_g1 i hi)) (fun i hi => hs _ (xj_g2 i hi)) (fun i hi => hs _ (xj_g3 i hi)) (fun i hi => hs _ (xj_g4 i hi)) (fun i hi j hj => hs _ (xj_g5 i hi j hj)) hA
  obtain ⟨E, hE0, hE1, hE2⟩ : ∃ E : Nat → Nat, E 0 = b ∧ (∀ k, k < 10 → E (k + 1) = adK k) ∧ ∀ k, k < 10 → E (k + 11) = adV k :=
    ⟨fun k => match k with | 0 => b | k + 1 => if k < 10 then adK k else adV (k - 10), rfl, fun k hk => if_pos hk, fun k hk => by
      show (if k + 10 < 10 then adK (k + 10) else adV (k + 10 - 10)) = adV k
      rw [if_neg (by omega), Nat.add_sub_cancel]⟩
  have hts' : ∀ w ∈ xj_tb, w.before #[Value.ref b] s = true := fun w hw => hts w (xj_tb_in hw)
  obtain ⟨D, hK⟩ : ∃ D : va_G, xj_kn D s := by
    have h0 : ∀ ci : Nat, ∃ q : ClassId × (Nat → Nat), ∀ r : vw_C, vwCl[ci]? = some r → u_Kn s r.1 r.2.1 r.2.2 q.1 q.2 := by
      intro ci
      cases hc : vwCl[ci]? with
      | none => exact ⟨(0, fun _ => 0), fun r h => by cases h⟩
      | some r =>
        obtain ⟨cC, iS, h1⟩ := u_known (ws := xj_tb) (C := r.1) (T := r.2.1) (N := r.2.2) (n := r.2.2) hts' (xj_cl_ws hc) (hts _ (xj_gh (r.1, r.2.2) (List.mem_map.mpr ⟨r, List.mem_of_getElem? hc, rfl⟩)))
        exact ⟨(cC, iS), fun r' h => by cases h; exact h1⟩
    obtain ⟨f, hf⟩ := Classical.axiomOfChoice h0
    exact ⟨(fun ci => (f ci).1, fun ci => (f ci).2), fun ci r h => hf ci r h⟩
  have hkx : xj_kx s := ⟨fun C h => va_AO.of (hts _ h), fun a i y z h => va_Nw.of rfl (hts _ h), fun a b h => va_Nw.of rfl (hts _ h)⟩
  have hba : xj_ba E s.heap.size s := by
    refine ⟨⟨vx_Zqof (hts _ xj_gb) (hts _ xj_ge) (hs _ xj_g8) hA, vx_Zqof (hts _ xj_gc) (hts _ xj_ge) (hs _ xj_g9) hA, ⟨va_Zof (hts _ xj_gd) (hts _ xj_gf0) (va_eqi (hs _ xj_ga)) hA, va_Zqof (hts _ xj_gi) (hts _ (xj_tb_in xj_pk_in)) (hs _ xj_gj) hA⟩, fun k hk => ?_⟩, fun q hq => ?_, fun w hw hc => ?_⟩
    · have h := (hS k hk).2
      rw [hE1 k hk, hE2 k hk]
      rw [xj_ln10_eq k hk, xj_bt10_eq k hk] at h
      exact h
    · have h4 := List.all_eq_true.mp xj_sT_ok q hq
      simp only [Bool.and_eq_true] at h4
      have hk : q.2.2.1 < 10 := of_decide_eq_true h4.2
      rw [hE1 _ hk]
      refine vk_R.of (A := #[Value.ref b]) (hts _ (xj_w_in0 h4.1)) ?_
      rcases xj_g7 q hq with h | h
      · rw [h]; exact (hS _ hk).1
      · exact va_eqR (hs _ h) (hS _ hk).1
    · unfold xj_cd at hc
      split at hc
      · exact va_Nw.of rfl (hts _ hw)
      · exact va_Nw.of rfl (hts _ hw)
      · cases hc
  obtain ⟨n, d, Mf, hd, hrun, hMc, hMs⟩ := hg ((List.range L).map xs) (by simpa using hL)
  have hl := lv_entry ([Value.ref b] : List Value) (n := 8) (Nat.le_of_ble_eq_true rfl)
  rw [lg_entry_eq]
  have hSc : ∀ ys, (some ((List.range L).map xs)) = some ys → va_X (E 0) ys.length (fun j => ys.getD j 0) s s.heap ∧ E 0 < s.heap.size ∧ E 0 < s.heap.size := by
    intro ys h
    cases h
    rw [hE0]
    refine ⟨?_, hbl, hbl⟩
    obtain ⟨scr, h1, h2, h3, h4, h5⟩ := hX
    refine ⟨scr, h1, h2, h3, by simpa using h4, fun j hj => ?_⟩
    have hj : j < L := by simpa using hj
    rw [h5 j hj]
    simp [hj]
  have hlm : lv_args 0 [Value.ref b] = xj_lm E s.heap.size [(0, .ref 0)] := by
    show [(0, Value.ref b)] = [(0, xj_v E s.heap.size (.ref 0))]
    rw [show xj_v E s.heap.size (.ref 0) = .ref (xj_a E s.heap.size 0) from rfl, xj_a_lt (by decide), hE0]
  rw [hlm] at hl
  have hW := xj_loop_ok (p := p) (e := e) (R := room_1) (s := s) (m := m) (args := #[Value.ref b]) (below := below) (meth := meth) (c := c) (l := l) (D := D) (E := E) (b0 := s.heap.size) (d := d) (call := xj_call n d) (X := (none, d, some ((List.range L).map xs))) hl0 (Nat.le_refl _) (xj_call_le d) (xj_call_ok l hl0 D E s.heap.size n d) (row := xj_lr) hx hb hr hml hlocks hown (fun q => by cases q) hts' hK hkx hba htb hSc (n0 := 0) (z0 := 0) (rf := .inl (some (.int 1))) (Mf := Mf)
    (show d + 1 ≤ room_1.frames from Nat.le_trans (Nat.succ_le_succ hd) (by decide)) (show 100 * (d + 1) ≤ room_1.locals from Nat.le_trans (Nat.mul_le_mul_left 100 (Nat.succ_le_succ hd)) (by decide)) (show Mf.1.length - 0 ≤ room_1.cells from hMc) (show Mf.2 - 0 ≤ room_1.slots from hMs) n (0, [(0, .ref 0)], [], ([], 0)) s.heap [] _ hrun (Nat.le_refl _) (Nat.le_refl _) hl ⟨⟨rfl, fun i c h => by cases h⟩, va_S.rf⟩
  intro T hT X9
  obtain ⟨t, a1, o, b1, b2, b3⟩ := hW T hT X9
  refine ⟨t, a1, o, b1, b2, ?_⟩
  rcases b3 with ⟨⟨v, hv, ho, -, -⟩, L9, ⟨hret, hWm, hsame⟩, hfree⟩ | ⟨q, -, En, ce, L9, ⟨k, hk, -⟩, -⟩
  · cases hv
    exact ⟨ho, hret, hWm, xj_same_nil hsame hfree hMc hMs⟩
  · cases hk
set_option maxHeartbeats 4000000 in
theorem lw_walk (hg : xj_good) (l : Launch) (hl0 : l.stackTraces = false) (b : Addr) (xs : List Int32) : MetFree l x (headSpec (Jvm.Cond.code x code maxLocals ret :: tables_1) room_1) (lw_P b xs) (fun _ _ _ _ _ => True) lw_Q := by
  refine MetFree.of_bodyS (code := code) (maxLocals := maxLocals) (ret := ret) (by decide) ?_ ?_
  · intro args s m h hn
    obtain ⟨meth, c, h1, h2, h3, h4, h5, h6, -, -⟩ := Cond.code_spec hn (atoms_spec (ws := Jvm.Cond.code x code maxLocals ret :: tables_1) h _ List.mem_cons_self)
    exact ⟨meth, c, h1, h2, h3, h4, h5, h6⟩
  · intro p e s m args below meth c s₁ B hml0 hP _
    obtain ⟨rfl, hx, hbd, hgv⟩ := hP
    obtain ⟨scr, harrAt, hlist, hof, hsmall⟩ := hx
    obtain ⟨hcb, hkn, -, -⟩ := State.arrayAt?_spec harrAt
    have hown : s.vm.findClass R_law = some m.cls := findClass_of_methodNamed B.named
    have hts0 : ∀ c ∈ (Jvm.Cond.code x code maxLocals ret :: tables_1), c.before #[Value.ref b] s = true := atoms_spec (ws := Jvm.Cond.code x code maxLocals ret :: tables_1) B.pre
    have hts : ∀ w ∈ lw_tbl, w.before #[Value.ref b] s = true := k2_hts_sels lw_privs (fun w hw => hts0 w (List.mem_cons_of_mem _ hw)) lw_privs_ok
    have hml : c.maxLocals = 8 := B.maxLocals_eq (hts0 _ List.mem_cons_self)
    have htb : ∀ x ∈ c.exceptionTable.toList, False := by
      obtain ⟨meth9, c9, h1, h2, -, -, -, -, h7, -⟩ := Cond.code_spec B.named (hts0 _ List.mem_cons_self)
      cases Option.some.inj (h1.symm.trans B.method)
      cases Option.some.inj (h2.symm.trans (Stand.of_body B).code)
      intro x hx
      rw [Array.isEmpty_iff.mp h7] at hx
      cases hx
    have X₀ : Stand p l e room_1 s m #[Value.ref b] below meth c s₁ [] 0 0 := Stand.of_body B
    have hh0 : s₁.heap = s.heap := by rw [B.state]; rfl
    have hsz : scr.slots.size = xs.length := by rw [← Array.length_toList, hlist, List.length_map]
    have hval : ∀ j : Nat, j < xs.length → scr.slots[j]? = some (.int (xs.getD j 0)) := fun j hj => by
      rw [← Array.getElem?_toList, hlist]
      simp [hj]
    have hbl : b < s.heap.size := (Array.getElem?_eq_some_iff.mp hcb).1
    have hX : va_X b xs.length (fun j => xs.getD j 0) s s.heap := ⟨scr, hcb, hof, hkn, hsz, hval⟩
    have K : W p l e room_1 s m #[Value.ref b] below meth c s₁.heap [] 0 0 (lw_Z below #[Value.ref b] s) (entryFrame m ([Value.ref b] : List Value).toArray 8) := by
      rw [hh0]
      exact whole_start hg l hl0 htb hbd ⟨B.exec, B.bytes, B.returns, hml, hown, hts, hX, hbl, B.notSynchronized, hgv⟩
    obtain ⟨t, a1, o, b1, b2, b3⟩ := K s₁ rfl X₀
    exact ⟨t, o, a1, b1, b2, b3⟩
theorem lw_pre_spec {args : Array Value} {s : State} (h : (Jvm.Cond.and given_1 narrow_1).before args s = true) (hr : rest_1_c.before args s = true) : ∃ (b : Addr) (xs : List Int32), lw_P b xs args s := by
  have hs := flat_of_before _ h
  have hq := flat_of_before _ hr
  have hc : (Cond.count 1).before args s = true := hs _ (by decide +kernel)
  have harr : (Cond.arrayOf (.arg 0) .int).before args s = true := hs _ (by decide +kernel)
  have hle : (Cond.le (.length (.arg 0)) (.int 3072)).before args s = true := hs _ (by decide +kernel)
  have hlen : (Cond.isInt (.length (.arg 0))).before args s = true := hq _ (by decide +kernel)
  have hall : (Cond.all (.arg 0) (.isInt (.elem (.arg 0) (.index 0)))).before args s = true := hq _ (by decide +kernel)
  obtain ⟨b, xs, hb, hx⟩ := State.ints_of_pre rfl harr hlen hall
  have hsm : xs.length < 2 ^ 31 := hx.choose_spec.2.2.2
  have hev : (Term.length (.arg 0)).eval args s none [] s = some (.int xs.length.toInt32) := hx.length_eval hb
  have hv := Cond.le_ints hev (show (Term.int 3072).eval args s none [] s = some (.int 3072) from rfl)
  have hd : xs.length.toInt32 ≤ 3072 := by
    simpa [Cond.before, Cond.holds, hv] using hle
  have hN : xs.length ≤ 3072 := (Int32.ofNat_le_ofNat hsm (by decide)).mp (show Int32.ofNat xs.length ≤ Int32.ofNat 3072 from hd)
  exact ⟨b, xs, Cond.one_arg hc (show args[0]? = some (.ref b) from hb), hx, hN, h⟩
theorem lw_comes (hg : xj_good) (l : Launch) (hl0 : l.stackTraces = false) : Comes l x (Jvm.Cond.code x code maxLocals ret :: tables_1) room_1 (fun tb e args s => Calls_1 tb e args s ∧ rest_1 tb e args s ∧ Pre_1 tb e args s)
    (fun _ _ args s o t => lw_Q args s o t) := by
  intro p e ha hc hk s m args below hf hfit hheap happ hpre
  obtain ⟨b, xs, hP⟩ := lw_pre_spec hpre.2.2 hpre.2.1
  obtain ⟨k, o, h1, h2, h3, hQ⟩ := lw_walk hg l hl0 b xs p e ha hc hk s m args below hf ((Spec.applies_iff_loose hf).mp happ).1 hP trivial
  exact ⟨k, o, h1, h2, h3, hQ⟩
theorem lw_frame {s t : State} {o : Outcome} {args : Array Value} (h : Framed s o t [] 601024 7293034) :
    Framed s o t (fieldLocs frame_1_writes args s ++ arrayLocs frame_1_arrays args s ++ staticLocs frame_1_statics s) 601024 7293034 := h
theorem lw_limb (hg : xj_good) (L : Cond) (hL : ∀ (args : Array Value) (s t : State), L.after args s (.returned (some (.int 1))) t = true) :
    ArmFor flags0 classFile x code maxLocals ret World_1 tables_1 room_1 Calls_1 rest_1 Pre_1
      (fun tb e a s o t => postC L tb e a s o t ∧ Framed s o t (fieldLocs frame_1_writes a s ++ arrayLocs frame_1_arrays a s ++ staticLocs frame_1_statics s) 601024 7293034) := by
  intro l hfl _ _ p e ha hc hk s m args below hf hfit hheap happ hpre
  obtain ⟨k, o, h1, h2, h3, rfl, hF⟩ := lw_comes hg l (by unfold Launch.stackTraces; rw [hfl]; decide) p e ha hc hk s m args below hf hfit hheap happ hpre
  exact ⟨k, _, h1, h2, h3, hL args s _, lw_frame hF⟩
theorem xj_claim (hg : xj_good) : Claimed_1_1 ∧ Claimed_1_2 := ⟨lw_limb hg limb_1_1 (fun args s t => by simp [limb_1_1, Cond.after, Cond.holds, Cond.value]), lw_limb hg limb_1_2 (fun args s t => Cond.after_iff.mpr (by
  first | (rw [show limb_1_2 = Cond.eq .result (.int 1) from rfl, Cond.eq_ints (x := 1) (y := 1) rfl rfl]; simp; done) | (simp [limb_1_2, Cond.value, Term.eval]; done)))⟩
