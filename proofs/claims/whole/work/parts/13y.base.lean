/-! Below the memory: String constants, statics of the JDK (tables by wip/whole/mk_base.py); throwing -/
-- the bytes of the String constants: they are references 1 and on, their arrays 11 and on
/-- the links of String constants: class, entry, which, text, place of the word -/
def xj_sT : List (Nat × Nat × Nat × String × (Nat × Nat)) := [(8, 79, 0, "input", (3, 150)), (8, 85, 1, "output", (3, 203)), (8, 87, 2, "key", (3, 204)), (8, 89, 3, "not", (3, 205)), (8, 91, 4, "count", (3, 206)), (8, 93, 5, "sum", (3, 207)), (8, 95, 6, "least", (3, 208)), (8, 97, 7, "most", (3, 209)), (8, 126, 8, "(),./:+-*%=<>", (4, 0)), (8, 131, 9, "if", (5, 69)), (15, 108, 8, "(),./:+-*%=<>", (8, 184)), (15, 1091, 0, "input", (11, 45)), (15, 1096, 1, "output", (11, 51)), (15, 1097, 2, "key", (11, 52)), (15, 1098, 3, "not", (11, 53)), (15, 1099, 4, "count", (11, 54)), (15, 1100, 5, "sum", (11, 55)), (15, 1101, 6, "least", (11, 56)), (15, 1102, 7, "most", (11, 57)), (15, 1103, 9, "if", (11, 58))]
theorem xj_sT_ok : xj_sT.all (fun q => xj_w q.2.2.2.2 (.stringRef (xj_nm q.1) q.2.1 q.2.2.2.1) && decide (q.2.2.1 < 10)) = true := by decide +kernel
theorem xj_b_val : Cond.fieldLink "java/lang/String" 9 "java/lang/String" "value" "[B" ∈ xj_tb := xj_w_in (p := (14, 82)) (by decide +kernel) rfl
theorem xj_b_cod : Cond.fieldLink "java/lang/String" 15 "java/lang/String" "coder" "B" ∈ xj_tb := xj_w_in (p := (14, 83)) (by decide +kernel) rfl
theorem xj_b_cs : Cond.fieldLink "java/lang/String" 38 "java/lang/String" "COMPACT_STRINGS" "Z" ∈ xj_tb := xj_w_in (p := (3, 163)) (by decide +kernel) rfl
/-- Preconditions.checkIndex, by which charAt looks at its index -/
def xj_pk : MethodName := ⟨"jdk/internal/util/Preconditions", "checkIndex", "(IILjava/util/function/BiFunction;)I"⟩
def xj_pkr : xj_mR := (20, xj_pk, prog_31_method_11_code, 3, some .int, 3, false, (3, 183), (1, 15))
theorem xj_pk_li : Cond.methodLink "java/lang/String" 1059 xj_pk ∈ xj_tb := xj_w_in (p := (3, 181)) (by decide +kernel) rfl
theorem xj_pk_st : Cond.static xj_pk ∈ xj_tb := xj_w_in (p := (3, 182)) (by decide +kernel) rfl
theorem xj_pk_in : Cond.initialized "jdk/internal/util/Preconditions" ∈ xj_tb := xj_w_in (p := (1, 15)) (by decide +kernel) rfl
set_option maxRecDepth 100000 in
theorem xj_pk_co : Cond.code xj_pk prog_31_method_11_code 3 (some .int) ∈ xj_tb := List.mem_filter.mpr ⟨xj_seg_in (j := 3) (List.mem_of_getElem? (i := 183) rfl), rfl⟩
theorem xj_pk_fl : Cond.fieldLink "java/lang/String" 1053 "jdk/internal/util/Preconditions" "SIOOBE_FORMATTER" "Ljava/util/function/BiFunction;" ∈ xj_tb := xj_w_in (p := (3, 179)) (by decide +kernel) rfl
def xj_cd : Cond → Bool := fun w => match w with | .castable _ _ => true | .declares _ => true | _ => false
theorem xj_t0_cl : Cond.classLink "ChangeHouse$Reader" 162 "java/lang/IllegalArgumentException" ∈ xj_tb := xj_w_in (p := (4, 84)) (by decide +kernel) rfl
theorem xj_t0_in : Cond.initialized "java/lang/IllegalArgumentException" ∈ xj_tb := xj_w_in (p := (1, 25)) (by decide +kernel) rfl
theorem xj_t0_ca : Cond.castable "java/lang/IllegalArgumentException" "java/lang/IllegalArgumentException" ∈ lw_tbl := xj_w_in0 (p := (4, 86)) (by decide +kernel)
theorem xj_t0_go : ∀ w ∈ (vx_at0 "ChangeHouse$Reader" 164 "java/lang/IllegalArgumentException" ["java/lang/RuntimeException", "java/lang/Exception"]).filter goodWord, w ∈ lw_tbl := by decide +kernel
theorem xj_t0_ba : ∀ w ∈ (vx_at0 "ChangeHouse$Reader" 164 "java/lang/IllegalArgumentException" ["java/lang/RuntimeException", "java/lang/Exception"]).filter (fun w => !goodWord w), xj_cd w = true ∧ w ∈ lw_tbl := by decide +kernel
theorem xj_t0_ot : ∀ w ∈ Cond.classLink "ChangeHouse$Reader" 162 "java/lang/IllegalArgumentException" :: Cond.initialized "java/lang/IllegalArgumentException" :: vx_at0 "ChangeHouse$Reader" 164 "java/lang/IllegalArgumentException" ["java/lang/RuntimeException", "java/lang/Exception"], vx_ot w = true := by decide +kernel
theorem xj_t1_cl : Cond.classLink "ChangeHouse" 261 "java/util/NoSuchElementException" ∈ xj_tb := xj_w_in (p := (7, 237)) (by decide +kernel) rfl
theorem xj_t1_in : Cond.initialized "java/util/NoSuchElementException" ∈ xj_tb := xj_w_in (p := (1, 29)) (by decide +kernel) rfl
theorem xj_t1_ca : Cond.castable "java/util/NoSuchElementException" "java/util/NoSuchElementException" ∈ lw_tbl := xj_w_in0 (p := (7, 239)) (by decide +kernel)
theorem xj_t1_go : ∀ w ∈ (vx_at0 "ChangeHouse" 263 "java/util/NoSuchElementException" ["java/lang/RuntimeException", "java/lang/Exception"]).filter goodWord, w ∈ lw_tbl := by decide +kernel
theorem xj_t1_ba : ∀ w ∈ (vx_at0 "ChangeHouse" 263 "java/util/NoSuchElementException" ["java/lang/RuntimeException", "java/lang/Exception"]).filter (fun w => !goodWord w), xj_cd w = true ∧ w ∈ lw_tbl := by decide +kernel
theorem xj_t1_ot : ∀ w ∈ Cond.classLink "ChangeHouse" 261 "java/util/NoSuchElementException" :: Cond.initialized "java/util/NoSuchElementException" :: vx_at0 "ChangeHouse" 263 "java/util/NoSuchElementException" ["java/lang/RuntimeException", "java/lang/Exception"], vx_ot w = true := by decide +kernel
section
variable {p : Program} {l : Launch} {e : Env} {R : Room} {s : State} {m : MethodId} {args : Array Value} {below : List Frame} {meth : Method} {c : Code} {H : Heap} {locs : List Loc} {cells slots : Nat} {Q : State → Prop}
variable {mc ms : Nat} {free : Addr → Prop} {A0 A1 : Nat → Prop} {H0 : Heap} {a : Array Value} {ls : Array Slot} {st0 rest : List Value}
variable {Qc : Array Value → State → Outcome → State → Prop} {XC : String → State → State → Prop}
theorem xj_throw0 {cc : ByteArray} {pc : Nat} (hexec : p.tables.exec = Jvm.exec) (hb : c.code = cc) (hl : l.stackTraces = false) {own cls : String} {names : List String} {ik ic mc ms : Nat} {A : Nat → Prop}
    (hown : s.vm.findClass own = some m.cls) (hcls : Bundle.fit cls = true) (hnames : ∀ n ∈ names, Bundle.fit n = true)
    (hk : (Cond.classLink own ik cls).before args s = true) (hini : (Cond.initialized cls).before args s = true) (hat : ∀ w ∈ vx_at0 own ic cls names, w.before args s = true)
    (hgood : ∀ w ∈ Cond.classLink own ik cls :: Cond.initialized cls :: vx_at0 own ic cls names, vx_ot w = true)
    (hU : vx_Zq Bundle.tN "UNASSIGNED_STACK" Bundle.steD A s s.heap) (hN : vx_Zq Bundle.tN "SUPPRESSED_SENTINEL" Bundle.listD A s s.heap) (hS : va_S A s.heap H locs) (hsize : ls.size = c.maxLocals)
    (d0 : decode cc pc = .ok (.new ik, 3)) (d3 : decode cc (pc + 3) = .ok (.dup, 1)) (d4 : decode cc (pc + 4) = .ok (.invokespecial ic, 3)) (d7 : decode cc (pc + 7) = .ok (.athrow, 1))
    (hout : ∀ x ∈ c.exceptionTable.toList, covers x (pc + 7) = false)
    (hRframes : names.length + 3 < R.frames) (hRlocals : (rest.map fun v => v.category).sum + (13 * (names.length + 1) + 42) ≤ R.locals) (hRcells : cells + 1 ≤ R.cells) (hRslots : slots + 6 ≤ R.slots) (hlocks : meth.locks = false)
    (hx : ∀ t : State, s.vm.Alike t.vm → t.heap.size = H.size + 1 → (∀ q : Nat, q < H.size → t.heap[q]? = H[q]?) → XC cls s t)
    (hf : ∀ z ∈ locs, free z.base) (hc : cells + 1 ≤ mc) (hs : slots + 6 ≤ ms) :
    W p l e R s m args below meth c H locs cells slots (vx_MQ below Qc XC args s mc ms free) (F0 m pc ls rest) := by
  intro T hT X
  have htr : e.platform.stackTraces = false := (show e.platform.stackTraces = l.stackTraces by rw [X.admits.platform]).trans hl
  have Y := vx_rebase X (R' := { frames := R.frames, locals := R.locals, cells := 1, slots := 6 }) (Nat.le_refl _) (Nat.le_refl _) hRcells hRslots
  obtain ⟨s', hA⟩ : ∃ z, z = (T.setVm s.vm).setFrames (.invoking m args :: below) := ⟨_, rfl⟩
  rw [← hA] at Y
  have hvm : s'.vm = s.vm := by rw [hA]; rfl
  have hhp : s'.heap = H := by rw [hA]; exact hT
  have hW0 : s.WarmedH s'.vm := by rw [hvm]; exact State.WarmedH.refl s
  have hat' : ∀ w ∈ vx_at0 own ic cls names, w.before args s' = true := fun w hw => vx_ot_at hW0 hvm.symm (hgood w (List.mem_cons_of_mem _ (List.mem_cons_of_mem _ hw))) (hat w hw)
  have hk' : (Cond.classLink own ik cls).before args s' = true := vx_ot_at hW0 hvm.symm (hgood _ List.mem_cons_self) hk
  have hini' : (Cond.initialized cls).before args s' = true := vx_ot_at hW0 hvm.symm (hgood _ (List.mem_cons_of_mem _ List.mem_cons_self)) hini
  have hU' : vx_Zq Bundle.tN "UNASSIGNED_STACK" Bundle.steD A s' s'.heap := by rw [hhp]; exact vx_Zq.moved hW0.alike (hU.kept hS.2.1)
  have hN' : vx_Zq Bundle.tN "SUPPRESSED_SENTINEL" Bundle.listD A s' s'.heap := by rw [hhp]; exact vx_Zq.moved hW0.alike (hN.kept hS.2.1)
  have h : ∀ w ∈ Bundle.ownAtoms0 own ic cls names, w.before args s' = true := vx_own hat' (vx_isRefq hU'.1) (vx_isRefq hN'.1) hU'.2.word hN'.2.word
  have hown' : s'.vm.findClass own = some m.cls := by rw [hvm]; exact hown
  have hins : (Cond.instantiable cls 6).before args s' = true := h _ (by simp [Bundle.ownAtoms0])
  obtain ⟨vm₁, cX, kX, hfX, hkX, -, -, X₁, st1⟩ := Y.newCold hexec (own := own) (C := cls) (index := ik) (n := 6) hown' hk' hins hini'
    (g := F0 m pc ls rest) rfl (by rw [hb]; exact d0) (Nat.le_refl _) (Nat.le_refl _)
  generalize hT1 : (T.setVm vm₁).pushCell { cls := cX, slots := kX.instanceTypes.map defaultValue, vm := .none } = T1 at X₁ st1
  have hcat : (Value.ref T.heap.size).category = 1 := rfl
  have hcellA : T1.heap[T.heap.size]? = some (freshCell cX kX) := by rw [← hT1]; exact State.heap_pushCell_size _ _
  have d3' : decode c.code (pc + 3) = .ok (.dup, 1) := by rw [hb]; exact d3
  obtain ⟨U, hsteps, hrun, hend, hW, hsame, ce, hce, hO⟩ := X₁.ctorThrow0 hexec htr (own := own) (cls := cls) (names := names) (ic := ic) hown' hcls hnames h (fun x hx => nomatch hx) hfX hkX hcellA (by rw [hhp, hT]; exact Nat.le_refl _)
    (g := { method := m, pc := pc + 4, locals := ls, stack := .ref T.heap.size :: .ref T.heap.size :: rest, locked := none }) rfl hsize rfl rfl (rest := rest) rfl
    (by rw [hb]; exact d4) (by rw [hb]; exact d7) hout hRframes (by simp only [List.map_cons, List.sum_cons, hcat]; omega) hlocks
  have hsz := hsame.2.2.1
  obtain ⟨f1, f2⟩ := vx_frame hsame
  rw [hhp] at f1 f2
  have hsz1 : U.heap.size = H.size + 1 := by
    have hlt := (Array.getElem?_eq_some_iff.mp hce).1
    rw [hT] at hlt
    have h9 : U.heap.size ≤ s'.heap.size + (0 + 1) := hsz
    rw [hhp] at h9
    omega
  have hWs : s.WarmedH U.vm := State.WarmedH.trans hW0 hW
  have hcl : s.vm.findClass cls = some ce.cls := by
    have h9 := hO.cls
    rw [hvm] at h9
    exact h9
  have hall : s.sameButNew ({ U with vm := s.vm } : State) locs mc ms := by
    subst hA
    obtain ⟨e1, e2⟩ := hsame
    rw [State.setFrames_setFrames] at e1
    have h2 : (T.setVm s.vm).sameButNew ({ U with vm := s.vm } : State) [] (0 + 1) (0 + 6) := ⟨e1, e2⟩
    have h3 := X.same.trans h2
    rw [List.append_nil] at h3
    exact h3.mono hc hs
  refine ⟨U, ?_, .threw T.heap.size, hrun, hend, Or.inr ⟨T.heap.size, rfl, cls, ce, locs, hx U hWs.alike hsz1 (fun q hq => f2 q hq (fun z hz => nomatch hz)), hce, hO.vm, hcl, hWs, hall, hf⟩⟩
  refine st1 _ ?_
  show Steps p.tables e below (T1.setTop { method := m, pc := pc + 3, locals := ls, stack := .ref T.heap.size :: rest, locked := none }) _
  jvm_step X₁.here [X₁.here.top, hexec, d3', Value.category]
  exact hsteps
end
/-- what lies below the memory and stays: statics of Throwable and String, the String constants with their bytes -/
def xj_bs (E : Nat → Nat) (b0 : Nat) (U : State) (H : Heap) : Prop := vx_Zq Bundle.tN "UNASSIGNED_STACK" Bundle.steD (fun q => b0 ≤ q) U H ∧ vx_Zq Bundle.tN "SUPPRESSED_SENTINEL" Bundle.listD (fun q => b0 ≤ q) U H ∧ (va_Z "java/lang/String" "COMPACT_STRINGS" "Z" (.int 1) (fun q => b0 ≤ q) U H ∧ va_Zq "jdk/internal/util/Preconditions" "SIOOBE_FORMATTER" "Ljava/util/function/BiFunction;" (fun q => b0 ≤ q) U H) ∧
  ∀ k : Nat, k < 10 → va_O "java/lang/String" (E (k + 1)) (fun q => b0 ≤ q) U H ∧ va_OF "java/lang/String" "coder" "B" (.int 0) (E (k + 1)) (fun q => b0 ≤ q) U H ∧ va_OF "java/lang/String" "value" "[B" (.ref (E (k + 11))) (E (k + 1)) (fun q => b0 ≤ q) U H ∧ va_T .byte (E (k + 11)) (xj_sB k).length (fun j => .int ((xj_sB k).getD j 0)) (fun q => b0 ≤ q) U H
theorem xj_bs.moved {E : Nat → Nat} {b0 : Nat} {u U : State} {H : Heap} (hvm : u.vm.Alike U.vm) (h : xj_bs E b0 u H) : xj_bs E b0 U H :=
  ⟨vx_Zq.moved hvm h.1, vx_Zq.moved hvm h.2.1, ⟨va_Z.moved hvm h.2.2.1.1, va_Zq.moved hvm h.2.2.1.2⟩, fun k hk => ⟨va_O.moved hvm (h.2.2.2 k hk).1, va_OF.moved hvm (h.2.2.2 k hk).2.1, va_OF.moved hvm (h.2.2.2 k hk).2.2.1, va_T.moved hvm (h.2.2.2 k hk).2.2.2⟩⟩
theorem xj_bs.kept {E : Nat → Nat} {b0 : Nat} {U : State} {H H1 : Heap} (hq : ∀ a : Nat, a < H.size → ¬ b0 ≤ a → H1[a]? = H[a]?) (h : xj_bs E b0 U H) : xj_bs E b0 U H1 :=
  ⟨h.1.kept hq, h.2.1.kept hq, ⟨va_Z.kept h.2.2.1.1 hq, va_Zq.kept h.2.2.1.2 hq⟩, fun k hk => ⟨(h.2.2.2 k hk).1.kept hq, (h.2.2.2 k hk).2.1.kept hq, (h.2.2.2 k hk).2.2.1.kept hq, (h.2.2.2 k hk).2.2.2.kept hq⟩⟩
/-- the String constants' entries -/
def xj_ks (E : Nat → Nat) (s : State) : Prop := ∀ q ∈ xj_sT, vk_R (xj_nm q.1) q.2.1 q.2.2.2.1 (E (q.2.2.1 + 1)) s
theorem xj_ks.warm {E : Nat → Nat} {s U : State} (hW : s.WarmedH U.vm) (h : xj_ks E s) : xj_ks E U := fun q hq => (h q hq).warm hW
theorem xj_ks.same {E : Nat → Nat} {u U : State} (hv : u.vm = U.vm) (h : xj_ks E u) : xj_ks E U := fun q hq => (h q hq).same hv.symm
/-- words that stay by premises of their own -/
def xj_kd (s : State) : Prop := ∀ w ∈ lw_tbl, xj_cd w = true → va_Nw w s
theorem xj_kd.warm {s U : State} (hW : s.WarmedH U.vm) (h : xj_kd s) : xj_kd U := by
  intro w hw hc
  have h1 := h w hw hc
  unfold xj_cd at hc
  split at hc
  · exact va_Nw.warmC hW h1
  · exact va_Nw.warmD hW h1
  · cases hc
theorem xj_kd.same {u U : State} (hv : u.vm = U.vm) (h : xj_kd u) : xj_kd U := by
  intro w hw hc
  have h1 := h w hw hc
  unfold xj_cd at hc
  split at hc
  · exact va_Nw.same rfl hv h1
  · exact va_Nw.same rfl hv h1
  · cases hc
theorem xj_kd.use {s : State} {args : Array Value} (h : xj_kd s) {w : Cond} (hw : w ∈ lw_tbl) (hc : xj_cd w = true) : w.before args s = true := by
  have h1 := h w hw hc
  unfold xj_cd at hc
  split at hc
  · exact va_Nw.use rfl h1
  · exact va_Nw.use rfl h1
  · cases hc
def xj_ba (E : Nat → Nat) (b0 : Nat) (s : State) : Prop := xj_bs E b0 s s.heap ∧ xj_ks E s ∧ xj_kd s
def xj_str (o i : Nat) : Option Nat := (xj_sT.find? (fun q => q.1 == o && q.2.1 == i)).map (fun q => q.2.2.1)
theorem xj_str_ok {E : Nat → Nat} {s : State} (hs : xj_ks E s) {o i k : Nat} (h : xj_str o i = some k) : k < 10 ∧ ∃ tx : String, vk_R (xj_nm o) i tx (E (k + 1)) s := by
  unfold xj_str at h
  obtain ⟨q, h1, h2⟩ := Option.map_eq_some_iff.mp h
  have hm := List.mem_of_find?_eq_some h1
  have h3 := List.find?_some h1
  simp only [Bool.and_eq_true, beq_iff_eq] at h3
  have h4 := List.all_eq_true.mp xj_sT_ok q hm
  simp only [Bool.and_eq_true] at h4
  cases h2
  refine ⟨of_decide_eq_true h4.2, q.2.2.2.1, ?_⟩
  rw [← h3.1, ← h3.2]
  exact hs q hm
/-- what String's own code does with a String constant -/
def xj_fx (o : Nat) (ins : Instr) (st : List Value) : Option (List Value) := match ins with
  | .ldc i => (match xj_str o i with | some k => some (.ref (k + 1) :: st) | none => none)
  | .ldc_w i => (match xj_str o i with | some k => some (.ref (k + 1) :: st) | none => none)
  | .getstatic i => if o = 18 ∧ i = 38 then some (.int 1 :: st) else none
  | .getfield i => (match st with
    | .ref r :: t => if o = 18 ∧ i = 9 ∧ 1 ≤ r ∧ r ≤ 10 then some (.ref (r + 10) :: t) else if o = 18 ∧ i = 15 ∧ 1 ≤ r ∧ r ≤ 10 then some (.int 0 :: t) else none
    | _ => none)
  | .arraylength => (match st with
    | .ref r :: t => if 11 ≤ r ∧ r ≤ 20 then some (.int (Int32.ofNat (xj_sB (r - 11)).length) :: t) else none
    | _ => none)
  | .baload => (match st with
    | .int i :: .ref r :: t => if 11 ≤ r ∧ r ≤ 20 ∧ ¬ (i < 0 ∨ (xj_sB (r - 11)).length ≤ i.toNatClampNeg) then some (.int ((xj_sB (r - 11)).getD i.toNatClampNeg 0) :: t) else none
    | _ => none)
  | _ => none
/-- the law's script -/
def xj_sc (S : Option (List Int32)) (ins : Instr) (st : List Value) : Option (List Value) := match S with
  | none => none
  | some xs => (match ins with
    | .iaload => (match st with
      | .int i :: .ref 0 :: t => if ¬ (i < 0 ∨ xs.length ≤ i.toNatClampNeg) then some (.int (xs.getD i.toNatClampNeg 0) :: t) else none
      | _ => none)
    | .arraylength => (match st with
      | .ref 0 :: t => some (.int (Int32.ofNat xs.length) :: t)
      | _ => none)
    | _ => none)
theorem xj_a_lt {E : Nat → Nat} {b0 r : Nat} (h : r < 64) : xj_a E b0 r = E r := by unfold xj_a; rw [if_pos h]
section
variable {p : Program} {l : Launch} {e : Env} {R : Room} {s : State} {m : MethodId} {args : Array Value} {below : List Frame} {meth : Method} {c : Code} {H : Heap} {locs : List Loc} {cells slots : Nat} {Q : State → Prop} {cc : ByteArray} {pc : Nat} {ls : Array Slot} {E : Nat → Nat} {b0 : Nat} {D : va_G} {o : Nat} {rest : List Value}
theorem xj_ldcwS (hexec : p.tables.exec = Jvm.exec) (hb : c.code = cc) {own tx : String} {index q : Nat} (hown : s.vm.findClass own = some m.cls) (hZ : vk_R own index tx q s) (hdg : decode cc pc = .ok (.ldc_w index, 3))
    (k : W p l e R s m args below meth c H locs cells slots Q (F0 m (pc + 3) ls (.ref q :: rest))) : W p l e R s m args below meth c H locs cells slots Q (F0 m pc ls rest) := by
  intro T hT X
  obtain ⟨t, a1, b1⟩ := k T hT X
  obtain ⟨k0, cf, i, a', hk, hcf, hcp, -, hr, hev'⟩ := Cond.stringRef_spec hown hZ.1
  cases hZ.2.symm.trans hev'
  obtain ⟨k', hk', he⟩ := X.warmed.alike.2.2 _ _ hk
  have hr' : k'.resolved[index]? = some (some (.string q)) := by
    rcases X.warmed.entry hk hk' index with h | ⟨h, -⟩
    · rw [h]; exact hr
    · rw [hr] at h; cases h
  refine ⟨t, ?_, b1⟩
  have hdg' : decode c.code pc = .ok (.ldc_w index, 3) := by rw [hb]; exact hdg
  jvm_step X.here [hexec, hdg', ldc_w.wp_string (e := e) (s := T) (f := F0 m pc ls rest) X.here.top hk' (by rw [he]; exact hcf) hcp hr']
  exact a1
theorem xj_fx_ok (hx : p.tables.exec = Jvm.exec) (hb : c.code = cc) (hts : ∀ w ∈ xj_tb, w.before args s = true) (hown : s.vm.findClass (xj_nm o) = some m.cls) (hba : xj_ba E b0 s) (hS : va_S (fun q => b0 ≤ q) s.heap H locs) {ins : Instr} {st st' : List Value} (h : xj_fx o ins st = some st') (hd : decode cc pc = .ok (ins, xj_len ins))
    (k : W p l e R s m args below meth c H locs cells slots Q (F0 m (pc + xj_len ins) ls (xj_s E b0 st'))) : W p l e R s m args below meth c H locs cells slots Q (F0 m pc ls (xj_s E b0 st)) := by
  unfold xj_fx at h
  have ref : ∀ {r : Nat} {t : List Value}, r < 64 → xj_s E b0 (.ref r :: t) = .ref (E r) :: xj_s E b0 t := fun {r t} hr => by
    show xj_v E b0 (.ref r) :: xj_s E b0 t = _
    rw [show xj_v E b0 (.ref r) = .ref (xj_a E b0 r) from rfl, xj_a_lt hr]
  cases ins
  case ldc i =>
    simp only at h
    split at h
    · rename_i kq hq
      cases h
      obtain ⟨h10, tx, hR⟩ := xj_str_ok hba.2.1 hq
      rw [ref (by omega)] at k
      exact va_ldcS hx hb hown hR hd k
    · cases h
  case ldc_w i =>
    simp only at h
    split at h
    · rename_i kq hq
      cases h
      obtain ⟨h10, tx, hR⟩ := xj_str_ok hba.2.1 hq
      rw [ref (by omega)] at k
      exact xj_ldcwS hx hb hown hR hd k
    · cases h
  case getstatic i =>
    simp only at h
    split at h
    · rename_i hc
      cases h
      obtain ⟨rfl, rfl⟩ := hc
      exact va_gets hx hb hba.1.2.2.1.1 hS hown (hts _ xj_b_cs) (fun _ q => q) hd k
    · cases h
  case getfield i =>
    simp only at h
    split at h
    · rename_i r t
      split at h
      · rename_i hc
        cases h
        obtain ⟨rfl, rfl, h1, h2⟩ := hc
        have h1 : @LE.le Nat _ 1 r := h1
        have h2 : @LE.le Nat _ r 10 := h2
        obtain ⟨k9, rfl⟩ : ∃ k9 : Nat, r = k9 + 1 := Nat.exists_eq_add_of_le' h1
        rw [ref (by omega)] at k
        rw [ref (by omega)]
        exact vk_getf hx hb (hba.1.2.2.2 k9 (by omega)).2.2.1 hS hown (hts _ xj_b_val) (fun _ q => q) hd k
      · split at h
        · rename_i hc
          cases h
          obtain ⟨rfl, rfl, h1, h2⟩ := hc
          have h1 : @LE.le Nat _ 1 r := h1
          have h2 : @LE.le Nat _ r 10 := h2
          obtain ⟨k9, rfl⟩ : ∃ k9 : Nat, r = k9 + 1 := Nat.exists_eq_add_of_le' h1
          rw [ref (by omega)]
          exact vk_getf hx hb (hba.1.2.2.2 k9 (by omega)).2.1 hS hown (hts _ xj_b_cod) (fun _ q => q) hd k
        · cases h
    · cases h
  case arraylength =>
    simp only at h
    split at h
    · rename_i r t
      split at h
      · rename_i hc
        cases h
        have h1 : @LE.le Nat _ 11 r := hc.1
        have h2 : @LE.le Nat _ r 20 := hc.2
        obtain ⟨k9, rfl⟩ : ∃ k9 : Nat, r = k9 + 11 := Nat.exists_eq_add_of_le' h1
        rw [ref (by omega)]
        have hk9 : k9 + 11 - 11 = k9 := Nat.add_sub_cancel k9 11
        rw [show xj_sB (k9 + 11 - 11) = xj_sB k9 from congrArg xj_sB hk9] at k
        exact va_tlen hx hb (hba.1.2.2.2 k9 (by omega)).2.2.2 hS rfl hd k
      · cases h
    · cases h
  case baload =>
    simp only at h
    split at h
    · rename_i i r t
      split at h
      · rename_i hc
        cases h
        have h1 : @LE.le Nat _ 11 r := hc.1
        have h2 : @LE.le Nat _ r 20 := hc.2.1
        obtain ⟨k9, rfl⟩ : ∃ k9 : Nat, r = k9 + 11 := Nat.exists_eq_add_of_le' h1
        have hk9 : k9 + 11 - 11 = k9 := Nat.add_sub_cancel k9 11
        have hc3 := hc.2.2
        rw [show xj_sB (k9 + 11 - 11) = xj_sB k9 from congrArg xj_sB hk9] at k hc3
        have hgo := va_tb (t := E (k9 + 11)) (rest := xj_s E b0 t) hx hb (hba.1.2.2.2 k9 (by omega)).2.2.2 hS hc3 rfl hd k
        rw [← ref (r := k9 + 11) (t := t) (by omega)] at hgo
        exact hgo
      · cases h
    · cases h
  all_goals cases h
theorem xj_sc_ok (hx : p.tables.exec = Jvm.exec) (hb : c.code = cc) {S : Option (List Int32)} (hSc : ∀ xs, S = some xs → va_X (E 0) xs.length (fun j => xs.getD j 0) s s.heap ∧ E 0 < s.heap.size ∧ E 0 < b0) (hS : va_S (fun q => b0 ≤ q) s.heap H locs) {ins : Instr} {st st' : List Value} (h : xj_sc S ins st = some st') (hd : decode cc pc = .ok (ins, xj_len ins))
    (k : W p l e R s m args below meth c H locs cells slots Q (F0 m (pc + xj_len ins) ls (xj_s E b0 st'))) : W p l e R s m args below meth c H locs cells slots Q (F0 m pc ls (xj_s E b0 st)) := by
  unfold xj_sc at h
  split at h
  · cases h
  · rename_i xs
    obtain ⟨hX, hbl, hbA⟩ := hSc xs rfl
    have hn : ¬ b0 ≤ E 0 := by omega
    cases ins
    case iaload =>
      simp only at h
      split at h
      · rename_i i t
        split at h
        · rename_i hc
          cases h
          exact va_sld (A := fun q => b0 ≤ q) hx hb hX hbl hn hS hc hd k
        · cases h
      · cases h
    case arraylength =>
      simp only at h
      split at h
      · rename_i t
        cases h
        exact va_slen (A := fun q => b0 ≤ q) hx hb hX hbl hn hS hd k
      · cases h
    all_goals cases h
end
/-- throws: the class, the entry of the exception's class, that of its constructor, which -/
def xj_tT : List (Nat × Nat × Nat × Nat) := [(4, 162, 164, 0), (11, 261, 263, 1)]
def xj_th (o : Nat) (cc : ByteArray) (pc i : Nat) : Option Nat := match xj_tT.find? (fun q => q.1 == o && q.2.1 == i) with
  | none => none
  | some q => (match decode cc (pc + 3), decode cc (pc + 4), decode cc (pc + 7) with
    | .ok (.dup, 1), .ok (.invokespecial ic, 3), .ok (.athrow, 1) => if ic = q.2.2.1 then some q.2.2.2 else none
    | _, _, _ => none)
theorem xj_th_inv {o : Nat} {cc : ByteArray} {pc i k : Nat} (h : xj_th o cc pc i = some k) : ∃ ic : Nat, (o, i, ic, k) ∈ xj_tT ∧ decode cc (pc + 3) = .ok (.dup, 1) ∧ decode cc (pc + 4) = .ok (.invokespecial ic, 3) ∧ decode cc (pc + 7) = .ok (.athrow, 1) := by
  unfold xj_th at h
  split at h
  · cases h
  · rename_i q hq
    have hm := List.mem_of_find?_eq_some hq
    have h3 := List.find?_some hq
    simp only [Bool.and_eq_true, beq_iff_eq] at h3
    split at h
    · rename_i ic d3 d4 d7
      split at h
      · rename_i e
        cases h
        obtain ⟨q1, q2, q3, q4⟩ := q
        simp only at h3 e
        obtain ⟨rfl, rfl⟩ := h3
        subst e
        exact ⟨ic, hm, d3, d4, d7⟩
      · cases h
    · cases h
section
variable {p : Program} {l : Launch} {e : Env} {R : Room} {s : State} {m : MethodId} {args : Array Value} {below : List Frame} {meth : Method} {c : Code} {H : Heap} {locs : List Loc} {cells slots : Nat} {cc : ByteArray} {pc : Nat} {ls : Array Slot} {E : Nat → Nat} {b0 : Nat} {o : Nat} {mc ms : Nat} {Qc : Array Value → State → Outcome → State → Prop} {XC : String → State → State → Prop}
theorem xj_th_ok (hx : p.tables.exec = Jvm.exec) (hb : c.code = cc) (hl : l.stackTraces = false) (hts : ∀ w ∈ xj_tb, w.before args s = true) (hown : s.vm.findClass (xj_nm o) = some m.cls) (hba : xj_ba E b0 s) (hS : va_S (fun q => b0 ≤ q) s.heap H locs) (hsize : ls.size = c.maxLocals) {i k : Nat} (h : xj_th o cc pc i = some k) (hd : decode cc pc = .ok (.new i, 3))
    (hex : ∀ x ∈ c.exceptionTable.toList, False) (hRf : 6 ≤ R.frames) (hRl : 100 ≤ R.locals) (hRc : cells + 1 ≤ R.cells) (hRs : slots + 6 ≤ R.slots) (hlocks : meth.locks = false)
    (hX : ∀ t : State, s.vm.Alike t.vm → t.heap.size = H.size + 1 → (∀ q : Nat, q < H.size → t.heap[q]? = H[q]?) → XC (xj_en k) s t) (hc : cells + 1 ≤ mc) (hs : slots + 6 ≤ ms) :
    W p l e R s m args below meth c H locs cells slots (vx_MQ below Qc XC args s mc ms (fun q => b0 ≤ q)) (F0 m pc ls []) := by
  obtain ⟨ic, hm, d3, d4, d7⟩ := xj_th_inv h
  simp only [xj_tT, List.mem_cons, Prod.mk.injEq, List.not_mem_nil, or_false] at hm
  rcases hm with ⟨rfl, rfl, rfl, rfl⟩ | ⟨rfl, rfl, rfl, rfl⟩
  · exact xj_throw0 (A := fun q => b0 ≤ q) hx hb hl hown (by decide +kernel) (by decide +kernel) (hts _ xj_t0_cl) (hts _ xj_t0_in)
      (vx_hat (B := (vx_at0 "ChangeHouse$Reader" 164 "java/lang/IllegalArgumentException" ["java/lang/RuntimeException", "java/lang/Exception"]).filter (fun w => !goodWord w)) (fun w hw => hts w (List.mem_filter.mpr ⟨xj_t0_go w hw, (List.mem_filter.mp hw).2⟩)) (fun w hw => hw) (fun w hw => hba.2.2.use (xj_t0_ba w hw).2 (xj_t0_ba w hw).1))
      xj_t0_ot hba.1.1 hba.1.2.1 hS hsize hd d3 d4 d7 (fun x hx => (hex x hx).elim) hRf (Nat.le_trans (by decide) hRl) hRc hRs hlocks hX hS.2.2 hc hs
  · exact xj_throw0 (A := fun q => b0 ≤ q) hx hb hl hown (by decide +kernel) (by decide +kernel) (hts _ xj_t1_cl) (hts _ xj_t1_in)
      (vx_hat (B := (vx_at0 "ChangeHouse" 263 "java/util/NoSuchElementException" ["java/lang/RuntimeException", "java/lang/Exception"]).filter (fun w => !goodWord w)) (fun w hw => hts w (List.mem_filter.mpr ⟨xj_t1_go w hw, (List.mem_filter.mp hw).2⟩)) (fun w hw => hw) (fun w hw => hba.2.2.use (xj_t1_ba w hw).2 (xj_t1_ba w hw).1))
      xj_t1_ot hba.1.1 hba.1.2.1 hS hsize hd d3 d4 d7 (fun x hx => (hex x hx).elim) hRf (Nat.le_trans (by decide) hRl) hRc hRs hlocks hX hS.2.2 hc hs
end

