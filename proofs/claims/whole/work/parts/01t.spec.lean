/-! What a text says, over its TOKENS: kinds, begins, ends, numbers, meanings, whether a digit is right behind -/
abbrev tStr : Type := (Nat → Int) × (Nat → Nat) × (Nat → Nat) × (Nat → Int) × (Nat → Int) × (Nat → Bool)
def kK (t : tStr) (i : Nat) : Int := t.1 i
def kS (t : tStr) (i : Nat) : Nat := t.2.1 i
def kE (t : tStr) (i : Nat) : Nat := t.2.2.1 i
def kC (t : tStr) (i : Nat) : Int := t.2.2.2.1 i
def kW (t : tStr) (i : Nat) : Int := t.2.2.2.2.1 i
def kD (t : tStr) (i : Nat) : Bool := t.2.2.2.2.2 i
/-- the TOKENS of a text; with lm the 61st behind the first two can't stand -/
def tstr (B : Nat → Int) (n : Nat) (lm : Bool) : tStr := (fun i => if 0 ≤ B (tS B n i) ∧ lm = true ∧ 62 ≤ i then 5 else tkd B n (tS B n i), tS B n, fun i => ten B n (tS B n i), fun i => tco B n (tS B n i), fun i => tse B n (tS B n i), fun i => decide (tDi (B (ten B n (tS B n i)))))
/-- WRONG at a place, or what was read -/
def pbind {α β : Type} (x : Nat ⊕ α) (k : α → Nat ⊕ β) : Nat ⊕ β := match x with
  | .inl w => .inl w
  | .inr a => k a
def pNeed (t : tStr) (c : Int) (i : Nat) : Nat ⊕ Nat := if kK t i = c then .inr (i + 1) else .inl (kS t i)
def pVal (t : tStr) (i : Nat) : Nat ⊕ (Int × Nat) :=
  if kK t i = 4 ∧ kC t i ≤ 1000000000000 then .inr (kC t i, i + 1)
  else if kK t i = 45 ∧ kD t i = true then (if kK t (i + 1) = 4 ∧ kC t (i + 1) ≤ 1000000000000 then .inr (-(kC t (i + 1)), i + 2) else .inl (kS t (i + 1)))
  else if kK t i = 1 ∧ kW t i ≠ -1 then .inr (kW t i, i + 1)
  else .inl (kS t i)
def pName (t : tStr) (i : Nat) : Nat ⊕ (Int × Nat) :=
  if kK t i ≠ 1 then .inl (kS t i) else if 12 < kE t i - kS t i then .inl (kS t i + 12) else .inr (kC t i, i + 1)
def pIdx (N : List Int) (x : Int) : Int := match N.findIdx? (fun y => decide (y = x)) with
  | some p => (p : Int)
  | none => -1
/-- a predicate's number; a new NAME comes to N -/
def pPred (t : tStr) (N : List Int) (i : Nat) : Nat ⊕ (Int × List Int × Nat) := pbind (pName t i) fun r =>
  if pIdx N r.1 = -1 then (if N.length = 16 then .inl (kS t i) else .inr ((N.length : Int), N ++ [r.1], r.2)) else .inr (pIdx N r.1, N, r.2)
def pVix (V : List (Int × Nat)) (x : Int) : Int := match V.findIdx? (fun y => decide (y.1 = x)) with
  | some p => (p : Int)
  | none => -1
def pVar (t : tStr) (V : List (Int × Nat)) (i : Nat) : Nat ⊕ (Int × List (Int × Nat) × Nat) :=
  if kK t i ≠ 2 then .inl (kS t i) else if 8 < kE t i - kS t i then .inl (kS t i + 8)
  else if pVix V (kC t i) = -1 then (if V.length = 8 then .inl (kS t i) else .inr ((V.length : Int), V ++ [(kC t i, kS t i)], i + 1))
  else .inr (pVix V (kC t i), V, i + 1)
def pNum (t : tStr) (hi : Int) (i : Nat) : Nat ⊕ (Int × Nat) := if kK t i = 4 ∧ 1 ≤ kC t i ∧ kC t i ≤ hi then .inr (kC t i, i + 1) else .inl (kS t i)
abbrev pCd : Type := List (Int × Int)
abbrev pEx : Type := List (Int × Nat) × pCd × Nat
/-- EXPRESSIONS: 0 what stands between signs, 1 all, 2 what is behind the first operand, 3 signs of more strength, 4 of less; b brackets are open -/
def pX (t : tStr) : Nat → Nat → Nat → pEx → Nat ⊕ pEx
  | 0, _, _, _ => .inl 0
  | F + 1, 0, b, e =>
    if kK t e.2.2 = 2 then pbind (pVar t e.1 e.2.2) fun r => .inr (r.2.1, e.2.1 ++ [(2, r.1)], r.2.2)
    else if kK t e.2.2 = 40 then (if b = 4 then .inl (kS t e.2.2) else pbind (pX t F 1 (b + 1) (e.1, e.2.1, e.2.2 + 1)) fun e' => pbind (pNeed t 41 e'.2.2) fun i => .inr (e'.1, e'.2.1, i))
    else pbind (pVal t e.2.2) fun r => .inr (e.1, e.2.1 ++ [(1, r.1)], r.2)
  | F + 1, 1, b, e => pbind (pX t F 0 b e) fun e' => pX t F 2 b e'
  | F + 1, 2, b, e => pbind (pX t F 3 b e) fun e' => pX t F 4 b e'
  | F + 1, 3, b, e =>
    if kK t e.2.2 = 42 ∨ kK t e.2.2 = 47 ∨ kK t e.2.2 = 37 then pbind (pX t F 0 b (e.1, e.2.1, e.2.2 + 1)) fun e' => pX t F 3 b (e'.1, e'.2.1 ++ [(3, kK t e.2.2)], e'.2.2)
    else .inr e
  | F + 1, _, b, e =>
    if kK t e.2.2 = 43 ∨ kK t e.2.2 = 45 then pbind (pX t F 0 b (e.1, e.2.1, e.2.2 + 1)) fun e1 => pbind (pX t F 3 b e1) fun e' => pX t F 4 b (e'.1, e'.2.1 ++ [(3, kK t e.2.2)], e'.2.2)
    else .inr e
/-- a TERM: 1 a VARIABLE, 2 _, 3 a value -/
def pTerm (t : tStr) (V : List (Int × Nat)) (i : Nat) : Nat ⊕ ((Int × Int) × List (Int × Nat) × Nat) :=
  if kK t i = 2 then pbind (pVar t V i) fun r => .inr ((1, r.1), r.2.1, r.2.2)
  else if kK t i = 3 then .inr ((2, 0), V, i + 1)
  else pbind (pVal t i) fun r => .inr ((3, r.1), V, r.2)
/-- further TERMS -/
def pTerms (t : tStr) : Nat → pCd → List (Int × Nat) → Nat → Nat ⊕ (pCd × List (Int × Nat) × Nat)
  | 0, ts, V, i => .inr (ts, V, i)
  | k + 1, ts, V, i => if kK t i = 44 then pbind (pTerm t V (i + 1)) fun r => pTerms t k (ts ++ [r.1]) r.2.1 r.2.2 else .inr (ts, V, i)
/-- a LITERAL: 1 ATOM, 2 not, 3 compare; its predicate or sign; its place; TERMS; both sides -/
abbrev pLt : Type := Int × Int × Nat × pCd × pCd × pCd
/-- NAMES, VARIABLES, LITERALS, mentions (predicate, place, parts, what: 1 input, 2 output, 3 HEAD, 4 ATOM), TOKEN -/
abbrev pMn : Type := Int × Nat × Int × Int
abbrev pRs : Type := List Int × List (Int × Nat) × List pLt × List pMn × Nat
def pAtom (t : tStr) (tell : Bool) (k : Int) (s : pRs) : Nat ⊕ pRs :=
  pbind (if tell = true then pPred t s.1 s.2.2.2.2 else pbind (pName t s.2.2.2.2) fun r => .inr (pIdx s.1 r.1, s.1, r.2)) fun p =>
  pbind (pNeed t 40 p.2.2) fun i => pbind (pTerm t s.2.1 i) fun r => pbind (pTerms t 3 [r.1] r.2.1 r.2.2) fun q =>
  pbind (pNeed t 41 q.2.2) fun i => .inr (p.2.1, q.2.1, s.2.2.1 ++ [(k, p.1, kS t s.2.2.2.2, q.1, [], [])], s.2.2.2.1 ++ [(p.1, kS t s.2.2.2.2, (q.1.length : Int), 4)], i)
def pCmp (t : tStr) (F : Nat) (s : pRs) : Nat ⊕ pRs :=
  pbind (pX t F 1 0 (s.2.1, [], s.2.2.2.2)) fun a =>
  if kK t a.2.2 = 61 ∨ kK t a.2.2 = 257 ∨ kK t a.2.2 = 60 ∨ kK t a.2.2 = 258 ∨ kK t a.2.2 = 62 ∨ kK t a.2.2 = 259 then
    pbind (pX t F 1 0 (a.1, [], a.2.2 + 1)) fun b => .inr (s.1, b.1, s.2.2.1 ++ [(3, kK t a.2.2, kS t s.2.2.2.2, [], a.2.1, b.2.1)], s.2.2.2.1, b.2.2)
  else .inl (kS t a.2.2)
def pAtoms (l : List pLt) : Nat := (l.filter (fun x => decide (x.1 = 1))).length
def pLit (t : tStr) (tell : Bool) (F : Nat) (s : pRs) : Nat ⊕ pRs :=
  if s.2.2.1.length = 8 then .inl (kS t s.2.2.2.2)
  else if kK t s.2.2.2.2 = 9 then pAtom t tell 2 (s.1, s.2.1, s.2.2.1, s.2.2.2.1, s.2.2.2.2 + 1)
  else if kK t s.2.2.2.2 = 1 then
    (if 12 < kE t s.2.2.2.2 - kS t s.2.2.2.2 then .inl (kS t s.2.2.2.2 + 12)
     else if kK t (s.2.2.2.2 + 1) = 40 then (if pAtoms s.2.2.1 = 3 then .inl (kS t s.2.2.2.2) else pAtom t tell 1 s)
     else if kW t s.2.2.2.2 = -1 then .inl (kS t (s.2.2.2.2 + 1)) else pCmp t F s)
  else pCmp t F s
def pLits (t : tStr) (tell : Bool) (F : Nat) : Nat → pRs → Nat ⊕ pRs
  | 0, s => .inr s
  | k + 1, s => if kK t s.2.2.2.2 = 44 then pbind (pLit t tell F (s.1, s.2.1, s.2.2.1, s.2.2.2.1, s.2.2.2.2 + 1)) fun s' => pLits t tell F k s' else .inr s
/-- ITEMS: VARIABLES, gathering (kind 0 or 10 to 13, which ITEM, VARIABLE), codes, TOKEN -/
abbrev pIt : Type := List (Int × Nat) × (Int × Int × Int) × List pCd × Nat
def pItem (t : tStr) (F : Nat) (s : pIt) : Nat ⊕ pIt :=
  if 10 ≤ kK t s.2.2.2 ∧ kK t s.2.2.2 ≤ 13 then
    (if s.2.1.1 ≠ 0 then .inl (kS t s.2.2.2)
     else pbind (pNeed t 40 (s.2.2.2 + 1)) fun i =>
       if kK t s.2.2.2 = 10 then pbind (pNeed t 41 i) fun i => .inr (s.1, (10, (s.2.2.1.length : Int), -1), s.2.2.1 ++ [[]], i)
       else pbind (pVar t s.1 i) fun r => pbind (pNeed t 41 r.2.2) fun i => .inr (r.2.1, (kK t s.2.2.2, (s.2.2.1.length : Int), r.1), s.2.2.1 ++ [[]], i))
  else pbind (pX t F 1 0 (s.1, [], s.2.2.2)) fun e => .inr (e.1, s.2.1, s.2.2.1 ++ [e.2.1], e.2.2)
def pItems (t : tStr) (F : Nat) : Nat → pIt → Nat ⊕ pIt
  | 0, s => .inr s
  | k + 1, s => if kK t s.2.2.2 = 44 then pbind (pItem t F (s.1, s.2.1, s.2.2.1, s.2.2.2 + 1)) fun s' => pItems t F k s' else .inr s
/-- a rule: HEAD, its place, gathering, ITEMS, VARIABLES, LITERALS -/
abbrev pRu : Type := Int × Nat × (Int × Int × Int) × List pCd × List (Int × Nat) × List pLt
/-- a program: NAMES, inputs (predicate, n, k), outputs, mentions, rules, TOKEN -/
abbrev pPg : Type := List Int × List (Int × Int × Int) × List Int × List pMn × List pRu × Nat
def pInput (t : tStr) (s : pPg) : Nat ⊕ pPg :=
  pbind (pPred t s.1 (s.2.2.2.2.2 + 1)) fun p => pbind (pNeed t 47 p.2.2) fun i => pbind (pNum t 4 i) fun n =>
  pbind (if kK t n.2 = 8 then pNum t (n.1 - 1) (n.2 + 1) else .inr (0, n.2)) fun k => pbind (pNeed t 46 k.2) fun i =>
  .inr (p.2.1, s.2.1 ++ [(p.1, n.1, k.1)], s.2.2.1, s.2.2.2.1 ++ [(p.1, kS t (s.2.2.2.2.2 + 1), n.1, 1)], s.2.2.2.2.1, i)
def pOutput (t : tStr) (s : pPg) : Nat ⊕ pPg :=
  pbind (pPred t s.1 (s.2.2.2.2.2 + 1)) fun p => pbind (pNeed t 46 p.2.2) fun i =>
  .inr (p.2.1, s.2.1, s.2.2.1 ++ [p.1], s.2.2.2.1 ++ [(p.1, kS t (s.2.2.2.2.2 + 1), -1, 2)], s.2.2.2.2.1, i)
def pRule (t : tStr) (F : Nat) (s : pPg) : Nat ⊕ pPg :=
  if s.2.2.2.2.1.length = 24 then .inl (kS t s.2.2.2.2.2) else
  pbind (pPred t s.1 s.2.2.2.2.2) fun p => pbind (pNeed t 40 p.2.2) fun i => pbind (pItem t F ([], (0, -1, -1), [], i)) fun a => pbind (pItems t F 3 a) fun a =>
  pbind (pNeed t 41 a.2.2.2) fun i =>
  pbind (if kK t i = 256 then pbind (pLit t true F (p.2.1, a.1, [], s.2.2.2.1 ++ [(p.1, kS t s.2.2.2.2.2, (a.2.2.1.length : Int), 3)], i + 1)) (pLits t true F 9) else .inr (p.2.1, a.1, [], s.2.2.2.1 ++ [(p.1, kS t s.2.2.2.2.2, (a.2.2.1.length : Int), 3)], i)) fun l =>
  pbind (pNeed t 46 l.2.2.2.2) fun i =>
  .inr (l.1, s.2.1, s.2.2.1, l.2.2.2.1, s.2.2.2.2.1 ++ [(p.1, kS t s.2.2.2.2.2, a.2.1, a.2.2.1, l.2.1, l.2.2.1)], i)
def pProg (t : tStr) (F : Nat) : Nat → pPg → Nat ⊕ pPg
  | 0, _ => .inl 0
  | k + 1, s => if kK t s.2.2.2.2.2 = 0 then .inr s
    else pbind (if kK t s.2.2.2.2.2 = 6 then pInput t s else if kK t s.2.2.2.2.2 = 7 then pOutput t s else pRule t F s) fun s' => pProg t F k s'
/-- a QUERY over NAMES N -/
def pQuery (t : tStr) (F : Nat) (N : List Int) : Nat ⊕ pRs := pbind (pLit t false F (N, [], [], [], 0)) fun s => pbind (pLits t false F 9 s) fun s => pbind (pNeed t 46 s.2.2.2.2) fun i => if kK t i = 0 then .inr (s.1, s.2.1, s.2.2.1, s.2.2.2.1, i) else .inl (kS t i)
/-- CHANGES: + or -, NAME, place, values -/
abbrev pCh : Type := Int × Int × Nat × List Int
def pVals (t : tStr) : Nat → List Int → Nat → Nat ⊕ (List Int × Nat)
  | 0, vs, i => .inr (vs, i)
  | k + 1, vs, i => if kK t i = 44 then pbind (pVal t (i + 1)) fun r => pVals t k (vs ++ [r.1]) r.2 else .inr (vs, i)
def pChange (t : tStr) (i : Nat) : Nat ⊕ (pCh × Nat) :=
  if kK t i ≠ 43 ∧ kK t i ≠ 45 then .inl (kS t i) else
  pbind (pName t (i + 1)) fun x => pbind (pNeed t 40 x.2) fun j => pbind (pVal t j) fun v => pbind (pVals t 3 [v.1] v.2) fun r => pbind (pNeed t 41 r.2) fun j => pbind (pNeed t 46 j) fun j =>
  .inr ((kK t i, x.1, kS t (i + 1), r.1), j)
def pChanges (t : tStr) : Nat → List pCh → Nat → Nat ⊕ (List pCh × Nat)
  | 0, _, _ => .inl 0
  | k + 1, cs, i => if kK t i = 0 then .inr (cs, i) else pbind (pChange t i) fun r => pChanges t k (cs ++ [r.1]) r.2
