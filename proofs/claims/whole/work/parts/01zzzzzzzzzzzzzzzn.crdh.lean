/-! THE CLASS: round(): what its logs count -/
theorem lgC_app {α : Type} {l l' : List (Int × α)} {r : Nat} : lgC (l ++ l') r = lgC l r + lgC l' r := by
  unfold lgC
  rw [List.filter_append, List.length_append]
theorem lgC_all {α : Type} {l : List (Int × α)} {r : Nat} (h : ∀ a ∈ l, a.1 = (r : Int)) : lgC l r = l.length := by
  unfold lgC
  rw [List.filter_eq_self.mpr (fun a ha => decide_eq_true (h a ha))]
theorem lgC_no {α : Type} {l : List (Int × α)} {r : Nat} (h : ∀ a ∈ l, a.1 ≠ (r : Int)) : lgC l r = 0 := by
  unfold lgC
  rw [List.filter_eq_nil_iff.mpr (fun a ha z => h a ha (of_decide_eq_true z))]
  rfl
theorem lgC_cat {α : Type} {g : Nat → List (Int × α)} (hg : ∀ r, ∀ a ∈ g r, a.1 = (r : Int)) {b r : Nat} (h1 : b < r) : ∀ k, r ≤ b + k → lgC (hCat g b k) r = (g r).length
  | 0, h => by omega
  | k + 1, h => by
    show lgC (hCat g b k ++ g (b + k + 1)) r = _
    rw [lgC_app]
    by_cases c : r = b + k + 1
    · rw [lgC_no (fun a ha => by have := (hCat_mem hg k ha).2; omega), c, lgC_all (hg _), Nat.zero_add]
    · rw [lgC_cat hg h1 k (by omega), lgC_no (fun a ha => by rw [hg _ a ha]; omega), Nat.add_zero]
theorem tmIs_u {L : List pLg} {C : List pCg} {E : List pEg} {old x y : Int} (h : tmIs L C E old x) (h' : tmIs L C E old y) : x = y := by
  obtain ⟨a1, a2, a3⟩ := h
  obtain ⟨b1, b2, b3⟩ := h'
  rcases (by omega : x < y ∨ x = y ∨ y < x) with z | z | z
  · exact absurd a2 (b3 x a1 z)
  · exact z
  · exact absurd b2 (a3 y b1 z)
theorem tC9_cg {G : xG_} {ln : Nat} {W : Nat → Int} {rd : Int} {K : Nat → Nat} : ∀ n, (∀ c, c < n → (G (ln + 7) c = 0 ↔ W c = -1)) → tC9 G ln n = (cgN rd K W n).length
  | 0, _ => rfl
  | n + 1, h => by
    show tC9 G ln n + _ = (cgN rd K W n ++ _).length
    rw [List.length_append, tC9_cg n (fun c hc => h c (by omega))]
    by_cases q : W n = -1
    · rw [if_pos ((h n (by omega)).mpr q), if_pos q]; rfl
    · rw [if_neg (fun z => q ((h n (by omega)).mp z)), if_neg q]; rfl
theorem hLg_n {H : Nat → sMo} {r r0 : Nat} {mo : sMo} (h : r < r0) : hLg (hAd H r0 mo) r = hLg H r ∧ hCg (hAd H r0 mo) r = hCg H r ∧ hEg (hAd H r0 mo) r = hEg H r := by
  unfold hLg hCg hEg
  rw [hAd_n (by omega), hAd_n (by omega)]
  exact ⟨rfl, rfl, rfl⟩
theorem hLg_s {H : Nat → sMo} {r : Nat} {mo : sMo} : hLg (hAd H (r + 1) mo) (r + 1) = lgR ((r + 1 : Nat) : Int) mo.2.1 (H r).2.1 ∧ hCg (hAd H (r + 1) mo) (r + 1) = cgN ((r + 1 : Nat) : Int) (H r).2.2.1 mo.2.2.2.1 72 ∧ (hEg (hAd H (r + 1) mo) (r + 1)).length = if mo.2.2.2.2 = true then 1 else 0 := by
  unfold hLg hCg hEg
  rw [hAd_s, Nat.add_sub_cancel, hAd_n (by omega)]
  refine ⟨rfl, rfl, ?_⟩
  by_cases q : mo.2.2.2.2 = true
  · rw [if_pos q, if_pos q]; rfl
  · rw [if_neg q, if_neg q]; rfl
theorem lgR_le {rd : Int} {A B : List pFc} : (lgR rd A B).length ≤ A.length + B.length := by
  unfold lgR
  rw [List.length_append, lgD_ln2, lgD_ln2]
  have h1 := List.length_filter_le (fun y => ! decide (y ∈ A)) B
  have h2 := List.length_filter_le (fun y => ! decide (y ∈ B)) A
  omega
theorem hEg_le {H : Nat → sMo} {r : Nat} : (hEg H r).length ≤ 1 := by
  unfold hEg
  by_cases q : (H r).2.2.2.2 = true
  · rw [if_pos q]; exact Nat.le_refl _
  · rw [if_neg q]; exact Nat.zero_le _
theorem qCw_w {X : fXs} {s : pPg} {fr : Prop} {W W' : Nat → Int} {C D : fCs} {H : Nat → Prop} {c : Nat} (h : W c = W' c) : qCw X s fr W C D H c ↔ qCw X s fr W' C D H c := by
  unfold qCw
  rw [h]
theorem qFa.cg {s : pPg} {M M' : Nat → List pRw} {F : List pFc} (h : qFa s M F) (e : ∀ p, p < s.1.length → M p = M' p) : qFa s M' F := ⟨h.1, fun y => by
  rw [h.2 y]
  constructor
  · rintro ⟨p, p1, p2, w, p3, p4⟩
    exact ⟨p, p1, p2, w, by rw [← e p p1]; exact p3, p4⟩
  · rintro ⟨p, p1, p2, w, p3, p4⟩
    exact ⟨p, p1, p2, w, by rw [e p p1]; exact p3, p4⟩⟩
theorem xX_nx {T : List (List Int)} {K : Nat → Nat} {W : Nat → Int} {c : Nat} (hc : c < 72) : xOf T (kNx K W 72) c = if W c = -1 then xOf T K c else xOf T (fun c => (W c).toNat) c := by
  by_cases q : W c = -1
  · rw [if_pos q]
    exact xOf_1 (by unfold kNx; rw [if_neg (fun z => z.2 q)])
  · rw [if_neg q]
    exact xOf_1 (by unfold kNx; rw [if_pos ⟨hc, q⟩])
theorem xX_ge {T : List (List Int)} {K : Nat → Nat} {W : Nat → Int} {c : Nat} (hc : 72 ≤ c) : xOf T (kNx K W 72) c = xOf T K c := xOf_1 (by unfold kNx; rw [if_neg (fun z => by omega)])
