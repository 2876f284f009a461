section
variable {fc md rl bl pc ht : Int32} {nb kd fl sa po ng tt ac ha bd bp bf ck cg tc tf th tp aw ak ao cs ex mx va ff fv pr cn bm ds wx wy wz hd my vs : Nat → Int32} {R : Nat}
theorem fy_some {y r i : Nat} (h3 : fr_R3 po ng tc tt) (h4 : fr_R4 cg tc tf th tp bd bp bf) (hr : r < 4) (hy : y / 216 = r) (hi : i < 5)
    (hc : cg (5 * r + i) ≠ 0) (hvs : ∀ x, x < 4 → fr_Bd tc th tp r x 20 → vs x = fr_val bp bf fl y x) :
    ∃ w : Nat → Int32, (∀ x, x < 4 → fr_Bd tc th tp r x 20 → w x = fr_val bp bf fl y x) ∧
      ∀ post : Int32 → SY → Prop, post (fr_b (∃ f, f < 6 ∧ nb f ≠ 0 ∧ fr_T kd fl ck tc tf th tp (fr_val bp bf fl y) (5 * r + i) f)) (rl, bl, md, pc, ht, sa, cn, po, ac, bm, ck, cg, tc, tf, th, tp, ds, wx, wy, wz, nb, kd, fl, hd, my, w, pr) → wpY_some post (rl, bl, md, pc, ht, sa, cn, po, ac, bm, ck, cg, tc, tf, th, tp, ds, wx, wy, wz, nb, kd, fl, hd, my, vs, pr) (nI (5 * r + i)) := by
  have step : ∀ f w, f < 6 → ((∀ x, x < 4 → fr_Bd tc th tp r x 20 → w x = fr_val bp bf fl y x) ∧ ∀ f', f' < f → ¬ (nb f' ≠ 0 ∧ fr_T kd fl ck tc tf th tp (fr_val bp bf fl y) (5 * r + i) f')) →
      (∃ w', ((∀ x, x < 4 → fr_Bd tc th tp r x 20 → w' x = fr_val bp bf fl y x) ∧ ∀ f', f' < f + 1 → ¬ (nb f' ≠ 0 ∧ fr_T kd fl ck tc tf th tp (fr_val bp bf fl y) (5 * r + i) f')) ∧
        ∀ (P : Int32 → SY → Prop) n, wY_some_2 P (nI (5 * r + i)) n (nI (f + 1)) rl bl md pc ht sa cn po ac bm ck cg tc tf th tp ds wx wy wz nb kd fl hd my w' pr → wY_some_2 P (nI (5 * r + i)) (n + 1) (nI f) rl bl md pc ht sa cn po ac bm ck cg tc tf th tp ds wx wy wz nb kd fl hd my w pr) ∨
      (∃ w', ((∀ x, x < 4 → fr_Bd tc th tp r x 20 → w' x = fr_val bp bf fl y x) ∧ ∃ f, f < 6 ∧ nb f ≠ 0 ∧ fr_T kd fl ck tc tf th tp (fr_val bp bf fl y) (5 * r + i) f) ∧
        ∀ (P : Int32 → SY → Prop) n, P 1 (rl, bl, md, pc, ht, sa, cn, po, ac, bm, ck, cg, tc, tf, th, tp, ds, wx, wy, wz, nb, kd, fl, hd, my, w', pr) → wY_some_2 P (nI (5 * r + i)) (n + 1) (nI f) rl bl md pc ht sa cn po ac bm ck cg tc tf th tp ds wx wy wz nb kd fl hd my w pr) := by
    intro f w hf ⟨hI, hN⟩
    have hge : ¬ (6 : Int32) ≤ nI f := nI_ge (b := 6) hf (by decide)
    have hin : vp_in (nI f) 6 := vp_in_nI hf (by decide)
    have hcl : (nI f).toNatClampNeg = f := nI_clamp (by omega)
    by_cases h0 : nb f = 0
    · refine Or.inl ⟨w, ⟨hI, fun f' hf' => ?_⟩, fun P n hk => br_f hge ⟨hin, br_t (by rw [hcl]; exact h0) (nm_r (nI_1 f) hk)⟩⟩
      by_cases e : f' = f
      · rw [e]; exact fun H => H.1 h0
      · exact hN f' (by omega)
    · obtain ⟨w', h1, _, hW⟩ := fy_fits (rl := rl) (bl := bl) (md := md) (pc := pc) (ht := ht) (sa := sa) (cn := cn) (po := po) (ac := ac) (bm := bm) (ck := ck) (cg := cg) (tc := tc) (tf := tf) (th := th) (tp := tp) (ds := ds) (wx := wx) (wy := wy) (wz := wz) (nb := nb) (kd := kd) (fl := fl) (hd := hd) (my := my) (vs := w) (pr := pr) (m0 := 20) h3 h4 hr hy hi hf (fun e => absurd e hc) (by omega) hI
      by_cases hT : fr_T kd fl ck tc tf th tp (fr_val bp bf fl y) (5 * r + i) f
      · refine Or.inr ⟨w', ⟨h1, f, hf, h0, hT⟩, fun P n hk => br_f hge ⟨hin, br_f (by rw [hcl]; exact h0) (hW _ ?_)⟩⟩
        rw [fr_bt hT]
        exact br_f (by decide) hk
      · refine Or.inl ⟨w', ⟨h1, fun f' hf' => ?_⟩, fun P n hk => br_f hge ⟨hin, br_f (by rw [hcl]; exact h0) (hW _ ?_)⟩⟩
        · by_cases e : f' = f
          · rw [e]; exact fun H => hT H.2
          · exact hN f' (by omega)
        · rw [fr_bf hT]
          exact br_t rfl (nm_r (nI_1 f) hk)
  rcases fr_exr (σ := Nat → Int32) (Q := Int32 → SY → Prop) (ρ := Nat → Int32)
    (fun P n f w => wY_some_2 P (nI (5 * r + i)) n (nI f) rl bl md pc ht sa cn po ac bm ck cg tc tf th tp ds wx wy wz nb kd fl hd my w pr)
    (fun f w => (∀ x, x < 4 → fr_Bd tc th tp r x 20 → w x = fr_val bp bf fl y x) ∧ ∀ f', f' < f → ¬ (nb f' ≠ 0 ∧ fr_T kd fl ck tc tf th tp (fr_val bp bf fl y) (5 * r + i) f'))
    (fun P w => P 1 (rl, bl, md, pc, ht, sa, cn, po, ac, bm, ck, cg, tc, tf, th, tp, ds, wx, wy, wz, nb, kd, fl, hd, my, w, pr))
    (fun w => (∀ x, x < 4 → fr_Bd tc th tp r x 20 → w x = fr_val bp bf fl y x) ∧ ∃ f, f < 6 ∧ nb f ≠ 0 ∧ fr_T kd fl ck tc tf th tp (fr_val bp bf fl y) (5 * r + i) f) 6 step vs
    ⟨hvs, fun f' h => absurd h (Nat.not_lt_zero f')⟩ with ⟨w, ⟨hI, hN⟩, hW⟩ | ⟨w, ⟨hI, hN⟩, hW⟩
  · refine ⟨w, hI, fun post hp => ⟨1 + 6, hW post 1 ?_⟩⟩
    rw [fr_bf (fun ⟨f, h1, h2⟩ => hN f h1 h2)] at hp
    exact br_t (nI_le (a := 6) (b := 6) (by omega) (by decide)) hp
  · refine ⟨w, hI, fun post hp => ⟨1 + 6, hW post 1 ?_⟩⟩
    rw [fr_bt hN] at hp
    exact hp
/-- the positive conditions, one behind another -/
theorem fy_m13 {y r p nc : Nat} (h3 : fr_R3 po ng tc tt) (h4 : fr_R4 cg tc tf th tp bd bp bf) (hr : r < 4) (hy8 : y < 864) (hy : y / 216 = r) (hnc : nc ≤ 5) (hcn : cn r = nI nc) (hp : fr_np cg r nc = p) (hp3 : p < 4) :
    (∃ w : Nat → Int32, ((∀ x, x < 4 → fr_Bd tc th tp r x (4 * nc) → w x = fr_val bp bf fl y x) ∧
      ∀ i, i < nc → cg (5 * r + i) = 0 → nb (fr_dg y (fr_np cg r i)) ≠ 0 ∧ fr_T kd fl ck tc tf th tp (fr_val bp bf fl y) (5 * r + i) (fr_dg y (fr_np cg r i))) ∧
      ∀ (P : Int32 → SY → Prop) n, wY_match_13 P (nI y) (nI r) n (nI (fr_np cg r nc)) (nI (5 * r + nc)) rl bl md pc ht sa cn po ac bm ck cg tc tf th tp ds wx wy wz nb kd fl hd my w pr → wY_match_13 P (nI y) (nI r) (n + nc) (nI (fr_np cg r 0)) (nI (5 * r + 0)) rl bl md pc ht sa cn po ac bm ck cg tc tf th tp ds wx wy wz nb kd fl hd my vs pr) ∨
    (∃ w : Nat → Int32, (¬ ∀ i, i < nc → cg (5 * r + i) = 0 → nb (fr_dg y (fr_np cg r i)) ≠ 0 ∧ fr_T kd fl ck tc tf th tp (fr_val bp bf fl y) (5 * r + i) (fr_dg y (fr_np cg r i))) ∧
      ∀ (P : Int32 → SY → Prop) n, P 0 (rl, bl, md, pc, ht, sa, cn, po, ac, bm, ck, cg, tc, tf, th, tp, ds, wx, wy, wz, nb, kd, fl, hd, my, w, pr) → wY_match_13 P (nI y) (nI r) (n + nc) (nI (fr_np cg r 0)) (nI (5 * r + 0)) rl bl md pc ht sa cn po ac bm ck cg tc tf th tp ds wx wy wz nb kd fl hd my vs pr) := by
  have hce : cn (nI r).toNatClampNeg = nI nc := by rw [nI_clamp (by omega)]; exact hcn
  have step : ∀ i w, i < nc → ((∀ x, x < 4 → fr_Bd tc th tp r x (4 * i) → w x = fr_val bp bf fl y x) ∧
      ∀ i', i' < i → cg (5 * r + i') = 0 → nb (fr_dg y (fr_np cg r i')) ≠ 0 ∧ fr_T kd fl ck tc tf th tp (fr_val bp bf fl y) (5 * r + i') (fr_dg y (fr_np cg r i'))) →
      (∃ w', ((∀ x, x < 4 → fr_Bd tc th tp r x (4 * (i + 1)) → w' x = fr_val bp bf fl y x) ∧
        ∀ i', i' < i + 1 → cg (5 * r + i') = 0 → nb (fr_dg y (fr_np cg r i')) ≠ 0 ∧ fr_T kd fl ck tc tf th tp (fr_val bp bf fl y) (5 * r + i') (fr_dg y (fr_np cg r i'))) ∧
        ∀ (P : Int32 → SY → Prop) n, wY_match_13 P (nI y) (nI r) n (nI (fr_np cg r (i + 1))) (nI (5 * r + (i + 1))) rl bl md pc ht sa cn po ac bm ck cg tc tf th tp ds wx wy wz nb kd fl hd my w' pr → wY_match_13 P (nI y) (nI r) (n + 1) (nI (fr_np cg r i)) (nI (5 * r + i)) rl bl md pc ht sa cn po ac bm ck cg tc tf th tp ds wx wy wz nb kd fl hd my w pr) ∨
      (∃ w', (¬ ∀ i, i < nc → cg (5 * r + i) = 0 → nb (fr_dg y (fr_np cg r i)) ≠ 0 ∧ fr_T kd fl ck tc tf th tp (fr_val bp bf fl y) (5 * r + i) (fr_dg y (fr_np cg r i))) ∧
        ∀ (P : Int32 → SY → Prop) n, P 0 (rl, bl, md, pc, ht, sa, cn, po, ac, bm, ck, cg, tc, tf, th, tp, ds, wx, wy, wz, nb, kd, fl, hd, my, w', pr) → wY_match_13 P (nI y) (nI r) (n + 1) (nI (fr_np cg r i)) (nI (5 * r + i)) rl bl md pc ht sa cn po ac bm ck cg tc tf th tp ds wx wy wz nb kd fl hd my w pr) := by
    intro i w hi ⟨hI, hA⟩
    have h4' : vp_in (nI r) 4 := vp_in_nI hr (by omega)
    have hle : ¬ (5 * nI r + cn (nI r).toNatClampNeg ≤ nI (5 * r + i)) := by
      rw [hce, fr_5m, nI_add]
      exact nI_ge (by omega) (by omega)
    have h20 : vp_in (nI (5 * r + i)) 20 := vp_in_nI (by omega) (by omega)
    have hcl : (nI (5 * r + i)).toNatClampNeg = 5 * r + i := nI_clamp (by omega)
    by_cases hc : cg (5 * r + i) = 0
    · have hnp : fr_np cg r i < 3 := by have := fr_np_lt hi hc; omega
      have hd6 := fr_dg_lt y (fr_np cg r i)
      have hdv : vp_in (nI (fr_dg y (fr_np cg r i))) 6 := vp_in_nI hd6 (by omega)
      by_cases h0 : nb (fr_dg y (fr_np cg r i)) = 0
      · refine Or.inr ⟨w, fun H => (H i hi hc).1 h0, fun P n hk => ⟨h4', br_f hle ⟨h20, br_t (by rw [hcl]; exact hc) (nm_r (nI_1 _) (fy_place hy8 hnp ⟨hdv, br_t ?_ hk⟩))⟩⟩⟩
        rw [nI_clamp (by omega)]; exact h0
      · obtain ⟨w', _, h1, hW⟩ := fy_fits (rl := rl) (bl := bl) (md := md) (pc := pc) (ht := ht) (sa := sa) (cn := cn) (po := po) (ac := ac) (bm := bm) (ck := ck) (cg := cg) (tc := tc) (tf := tf) (th := th) (tp := tp) (ds := ds) (wx := wx) (wy := wy) (wz := wz) (nb := nb) (kd := kd) (fl := fl) (hd := hd) (my := my) (vs := w) (pr := pr) (m0 := 4 * i) h3 h4 hr hy (by omega) hd6 (fun _ => rfl) (Nat.le_refl _) hI
        by_cases hT : fr_T kd fl ck tc tf th tp (fr_val bp bf fl y) (5 * r + i) (fr_dg y (fr_np cg r i))
        · refine Or.inl ⟨w', ⟨fun x hx hB => h1 hT x hx (fr_Bd_e hr h3 hB), fun i' hi' hc' => ?_⟩, fun P n hk => ⟨h4', br_f hle ⟨h20, br_t (by rw [hcl]; exact hc) (nm_r (nI_1 _) (fy_place hy8 hnp ⟨hdv, br_f ?_ (hW _ ?_)⟩))⟩⟩⟩
          · by_cases e : i' = i
            · subst e; exact ⟨h0, hT⟩
            · exact hA i' (by omega) hc'
          · rw [nI_clamp (by omega)]; exact h0
          · rw [fr_bt hT]
            rw [fr_np_s hc] at hk
            exact br_f (by decide) (nm_r (nI_1 _) hk)
        · refine Or.inr ⟨w', fun H => hT (H i hi hc).2, fun P n hk => ⟨h4', br_f hle ⟨h20, br_t (by rw [hcl]; exact hc) (nm_r (nI_1 _) (fy_place hy8 hnp ⟨hdv, br_f ?_ (hW _ ?_)⟩))⟩⟩⟩
          · rw [nI_clamp (by omega)]; exact h0
          · rw [fr_bf hT]
            exact br_t rfl hk
    · refine Or.inl ⟨w, ⟨fun x hx hB => hI x hx (fr_Bd_n hr h3 h4 hc hB), fun i' hi' hc' => ?_⟩, fun P n hk => ⟨h4', br_f hle ⟨h20, br_f (by rw [hcl]; exact hc) (nm_r (nI_1 _) ?_)⟩⟩⟩
      · by_cases e : i' = i
        · subst e; exact absurd hc' hc
        · exact hA i' (by omega) hc'
      · rw [fr_np_k hc] at hk
        exact hk
  exact fr_exr (σ := Nat → Int32) (Q := Int32 → SY → Prop) (ρ := Nat → Int32)
    (fun P n i w => wY_match_13 P (nI y) (nI r) n (nI (fr_np cg r i)) (nI (5 * r + i)) rl bl md pc ht sa cn po ac bm ck cg tc tf th tp ds wx wy wz nb kd fl hd my w pr)
    (fun i w => (∀ x, x < 4 → fr_Bd tc th tp r x (4 * i) → w x = fr_val bp bf fl y x) ∧
      ∀ i', i' < i → cg (5 * r + i') = 0 → nb (fr_dg y (fr_np cg r i')) ≠ 0 ∧ fr_T kd fl ck tc tf th tp (fr_val bp bf fl y) (5 * r + i') (fr_dg y (fr_np cg r i')))
    (fun P w => P 0 (rl, bl, md, pc, ht, sa, cn, po, ac, bm, ck, cg, tc, tf, th, tp, ds, wx, wy, wz, nb, kd, fl, hd, my, w, pr))
    (fun _ => ¬ ∀ i, i < nc → cg (5 * r + i) = 0 → nb (fr_dg y (fr_np cg r i)) ≠ 0 ∧ fr_T kd fl ck tc tf th tp (fr_val bp bf fl y) (5 * r + i) (fr_dg y (fr_np cg r i)))
    nc step vs ⟨fun x hx ⟨i, s, h, _⟩ => absurd h (by omega), fun i' h => absurd h (Nat.not_lt_zero i')⟩
/-- the negated conditions -/
theorem fy_m106 {y r nc : Nat} (h3 : fr_R3 po ng tc tt) (h4 : fr_R4 cg tc tf th tp bd bp bf) (hr : r < 4) (hy : y / 216 = r) (hnc : nc ≤ 5) (hcn : cn r = nI nc)
    (hvs : ∀ x, x < 4 → fr_Bd tc th tp r x 20 → vs x = fr_val bp bf fl y x) :
    (∃ w : Nat → Int32, ((∀ x, x < 4 → fr_Bd tc th tp r x 20 → w x = fr_val bp bf fl y x) ∧
      ∀ i, i < nc → cg (5 * r + i) ≠ 0 → ¬ ∃ f, f < 6 ∧ nb f ≠ 0 ∧ fr_T kd fl ck tc tf th tp (fr_val bp bf fl y) (5 * r + i) f) ∧
      ∀ (P : Int32 → SY → Prop) n, wY_match_106 P (nI r) n (nI (5 * r + nc)) rl bl md pc ht sa cn po ac bm ck cg tc tf th tp ds wx wy wz nb kd fl hd my w pr → wY_match_106 P (nI r) (n + nc) (nI (5 * r + 0)) rl bl md pc ht sa cn po ac bm ck cg tc tf th tp ds wx wy wz nb kd fl hd my vs pr) ∨
    (∃ w : Nat → Int32, (¬ ∀ i, i < nc → cg (5 * r + i) ≠ 0 → ¬ ∃ f, f < 6 ∧ nb f ≠ 0 ∧ fr_T kd fl ck tc tf th tp (fr_val bp bf fl y) (5 * r + i) f) ∧
      ∀ (P : Int32 → SY → Prop) n, P 0 (rl, bl, md, pc, ht, sa, cn, po, ac, bm, ck, cg, tc, tf, th, tp, ds, wx, wy, wz, nb, kd, fl, hd, my, w, pr) → wY_match_106 P (nI r) (n + nc) (nI (5 * r + 0)) rl bl md pc ht sa cn po ac bm ck cg tc tf th tp ds wx wy wz nb kd fl hd my vs pr) := by
  have hce : cn (nI r).toNatClampNeg = nI nc := by rw [nI_clamp (by omega)]; exact hcn
  have step : ∀ i w, i < nc → ((∀ x, x < 4 → fr_Bd tc th tp r x 20 → w x = fr_val bp bf fl y x) ∧
      ∀ i', i' < i → cg (5 * r + i') ≠ 0 → ¬ ∃ f, f < 6 ∧ nb f ≠ 0 ∧ fr_T kd fl ck tc tf th tp (fr_val bp bf fl y) (5 * r + i') f) →
      (∃ w', ((∀ x, x < 4 → fr_Bd tc th tp r x 20 → w' x = fr_val bp bf fl y x) ∧
        ∀ i', i' < i + 1 → cg (5 * r + i') ≠ 0 → ¬ ∃ f, f < 6 ∧ nb f ≠ 0 ∧ fr_T kd fl ck tc tf th tp (fr_val bp bf fl y) (5 * r + i') f) ∧
        ∀ (P : Int32 → SY → Prop) n, wY_match_106 P (nI r) n (nI (5 * r + (i + 1))) rl bl md pc ht sa cn po ac bm ck cg tc tf th tp ds wx wy wz nb kd fl hd my w' pr → wY_match_106 P (nI r) (n + 1) (nI (5 * r + i)) rl bl md pc ht sa cn po ac bm ck cg tc tf th tp ds wx wy wz nb kd fl hd my w pr) ∨
      (∃ w', (¬ ∀ i, i < nc → cg (5 * r + i) ≠ 0 → ¬ ∃ f, f < 6 ∧ nb f ≠ 0 ∧ fr_T kd fl ck tc tf th tp (fr_val bp bf fl y) (5 * r + i) f) ∧
        ∀ (P : Int32 → SY → Prop) n, P 0 (rl, bl, md, pc, ht, sa, cn, po, ac, bm, ck, cg, tc, tf, th, tp, ds, wx, wy, wz, nb, kd, fl, hd, my, w', pr) → wY_match_106 P (nI r) (n + 1) (nI (5 * r + i)) rl bl md pc ht sa cn po ac bm ck cg tc tf th tp ds wx wy wz nb kd fl hd my w pr) := by
    intro i w hi ⟨hI, hA⟩
    have h4' : vp_in (nI r) 4 := vp_in_nI hr (by omega)
    have hle : ¬ (5 * nI r + cn (nI r).toNatClampNeg ≤ nI (5 * r + i)) := by
      rw [hce, fr_5m, nI_add]
      exact nI_ge (by omega) (by omega)
    have h20 : vp_in (nI (5 * r + i)) 20 := vp_in_nI (by omega) (by omega)
    have hcl : (nI (5 * r + i)).toNatClampNeg = 5 * r + i := nI_clamp (by omega)
    by_cases hc : cg (5 * r + i) = 0
    · refine Or.inl ⟨w, ⟨hI, fun i' hi' hc' => ?_⟩, fun P n hk => ⟨h4', br_f hle ⟨h20, br_t (by rw [hcl]; exact hc) (nm_r (nI_1 _) hk)⟩⟩⟩
      by_cases e : i' = i
      · subst e; exact absurd hc hc'
      · exact hA i' (by omega) hc'
    · obtain ⟨w', h1, hW⟩ := fy_some (rl := rl) (bl := bl) (md := md) (pc := pc) (ht := ht) (sa := sa) (cn := cn) (po := po) (ac := ac) (bm := bm) (ck := ck) (cg := cg) (tc := tc) (tf := tf) (th := th) (tp := tp) (ds := ds) (wx := wx) (wy := wy) (wz := wz) (nb := nb) (kd := kd) (fl := fl) (hd := hd) (my := my) (vs := w) (pr := pr) h3 h4 hr hy (by omega) hc hI
      by_cases hE : ∃ f, f < 6 ∧ nb f ≠ 0 ∧ fr_T kd fl ck tc tf th tp (fr_val bp bf fl y) (5 * r + i) f
      · refine Or.inr ⟨w', fun H => H i hi hc hE, fun P n hk => ⟨h4', br_f hle ⟨h20, br_f (by rw [hcl]; exact hc) (hW _ ?_)⟩⟩⟩
        rw [fr_bt hE]
        exact br_f (by decide) hk
      · refine Or.inl ⟨w', ⟨h1, fun i' hi' hc' => ?_⟩, fun P n hk => ⟨h4', br_f hle ⟨h20, br_f (by rw [hcl]; exact hc) (hW _ ?_)⟩⟩⟩
        · by_cases e : i' = i
          · subst e; exact hE
          · exact hA i' (by omega) hc'
        · rw [fr_bf hE]
          exact br_t rfl (nm_r (nI_1 _) hk)
  exact fr_exr (σ := Nat → Int32) (Q := Int32 → SY → Prop) (ρ := Nat → Int32)
    (fun P n i w => wY_match_106 P (nI r) n (nI (5 * r + i)) rl bl md pc ht sa cn po ac bm ck cg tc tf th tp ds wx wy wz nb kd fl hd my w pr)
    (fun i w => (∀ x, x < 4 → fr_Bd tc th tp r x 20 → w x = fr_val bp bf fl y x) ∧
      ∀ i', i' < i → cg (5 * r + i') ≠ 0 → ¬ ∃ f, f < 6 ∧ nb f ≠ 0 ∧ fr_T kd fl ck tc tf th tp (fr_val bp bf fl y) (5 * r + i') f)
    (fun P w => P 0 (rl, bl, md, pc, ht, sa, cn, po, ac, bm, ck, cg, tc, tf, th, tp, ds, wx, wy, wz, nb, kd, fl, hd, my, w, pr))
    (fun _ => ¬ ∀ i, i < nc → cg (5 * r + i) ≠ 0 → ¬ ∃ f, f < 6 ∧ nb f ≠ 0 ∧ fr_T kd fl ck tc tf th tp (fr_val bp bf fl y) (5 * r + i) f)
    nc step vs ⟨hvs, fun i' h => absurd h (Nat.not_lt_zero i')⟩
/-- what a rule with fewer positive conditions leaves at 0 -/
theorem fy_m80 {y r p : Nat} (hy8 : y < 864) (hp3 : p ≤ 3) :
    ((∀ j, p ≤ j → j < 3 → fr_dg y j = 0) ∧ ∀ (P : Int32 → SY → Prop) n, wY_match_80 P (nI y) (nI r) rl bl md pc ht sa cn po ac bm ck cg tc tf th tp ds wx wy wz nb kd fl hd my vs pr n (nI 3) → wY_match_80 P (nI y) (nI r) rl bl md pc ht sa cn po ac bm ck cg tc tf th tp ds wx wy wz nb kd fl hd my vs pr (n + (3 - p)) (nI p)) ∨
    ((¬ ∀ j, p ≤ j → j < 3 → fr_dg y j = 0) ∧ ∀ (P : Int32 → SY → Prop) n, P 0 (rl, bl, md, pc, ht, sa, cn, po, ac, bm, ck, cg, tc, tf, th, tp, ds, wx, wy, wz, nb, kd, fl, hd, my, vs, pr) → wY_match_80 P (nI y) (nI r) rl bl md pc ht sa cn po ac bm ck cg tc tf th tp ds wx wy wz nb kd fl hd my vs pr (n + (3 - p)) (nI p)) := by
  have step : ∀ j (s : Unit), j < 3 - p → (∀ j', p ≤ j' → j' < p + j → fr_dg y j' = 0) →
      (∃ s' : Unit, (∀ j', p ≤ j' → j' < p + (j + 1) → fr_dg y j' = 0) ∧ ∀ (P : Int32 → SY → Prop) n, wY_match_80 P (nI y) (nI r) rl bl md pc ht sa cn po ac bm ck cg tc tf th tp ds wx wy wz nb kd fl hd my vs pr n (nI (p + (j + 1))) → wY_match_80 P (nI y) (nI r) rl bl md pc ht sa cn po ac bm ck cg tc tf th tp ds wx wy wz nb kd fl hd my vs pr (n + 1) (nI (p + j))) ∨
      (∃ s' : Unit, (¬ ∀ j, p ≤ j → j < 3 → fr_dg y j = 0) ∧ ∀ (P : Int32 → SY → Prop) n, P 0 (rl, bl, md, pc, ht, sa, cn, po, ac, bm, ck, cg, tc, tf, th, tp, ds, wx, wy, wz, nb, kd, fl, hd, my, vs, pr) → wY_match_80 P (nI y) (nI r) rl bl md pc ht sa cn po ac bm ck cg tc tf th tp ds wx wy wz nb kd fl hd my vs pr (n + 1) (nI (p + j))) := by
    intro j _ hj hI
    have hge : ¬ (3 : Int32) ≤ nI (p + j) := nI_ge (b := 3) (by omega) (by decide)
    by_cases h0 : fr_dg y (p + j) = 0
    · refine Or.inl ⟨(), fun j' h1 h2 => ?_, fun P n hk => br_f hge (fy_place hy8 (by omega) ?_)⟩
      · by_cases e : j' = p + j
        · rw [e]; exact h0
        · exact hI j' h1 (by omega)
      · rw [h0]
        exact br_t nI_0 (nm_r (nI_1 _) hk)
    · refine Or.inr ⟨(), fun H => h0 (H _ (by omega) (by omega)), fun P n hk => br_f hge (fy_place hy8 (by omega) ?_)⟩
      have := fr_dg_lt y (p + j)
      exact br_f (nI_ne0 (by omega) (by omega)) hk
  rcases fr_exr (σ := Unit) (Q := Int32 → SY → Prop) (ρ := Unit)
    (fun P n j _ => wY_match_80 P (nI y) (nI r) rl bl md pc ht sa cn po ac bm ck cg tc tf th tp ds wx wy wz nb kd fl hd my vs pr n (nI (p + j))) (fun j _ => ∀ j', p ≤ j' → j' < p + j → fr_dg y j' = 0) (fun P _ => P 0 (rl, bl, md, pc, ht, sa, cn, po, ac, bm, ck, cg, tc, tf, th, tp, ds, wx, wy, wz, nb, kd, fl, hd, my, vs, pr))
    (fun _ => ¬ ∀ j, p ≤ j → j < 3 → fr_dg y j = 0) (3 - p) step () (fun j' h1 h2 => absurd h2 (by omega)) with ⟨_, hI, hW⟩ | ⟨_, hI, hW⟩
  · refine Or.inl ⟨fun j h1 h2 => hI j h1 (by omega), fun P n hk => hW P n ?_⟩
    show wY_match_80 P (nI y) (nI r) rl bl md pc ht sa cn po ac bm ck cg tc tf th tp ds wx wy wz nb kd fl hd my vs pr n (nI (p + (3 - p)))
    rw [show p + (3 - p) = 3 from by omega]
    exact hk
  · exact Or.inr ⟨hI, fun P n hk => hW P n hk⟩
theorem fy_match {y : Nat} (h2 : fr_R2 R po ng cn ac cg) (h3 : fr_R3 po ng tc tt) (h4 : fr_R4 cg tc tf th tp bd bp bf) (hy8 : y < 864) :
    ∃ w : Nat → Int32, (fr_M nb kd fl po ng ck cg tc tf th tp bp bf y → ∀ x, x < 4 → fr_Bd tc th tp (y / 216) x 20 → w x = fr_val bp bf fl y x) ∧
      ∀ post : Int32 → SY → Prop, post (fr_b (fr_M nb kd fl po ng ck cg tc tf th tp bp bf y)) (rl, bl, md, pc, ht, sa, cn, po, ac, bm, ck, cg, tc, tf, th, tp, ds, wx, wy, wz, nb, kd, fl, hd, my, w, pr) → wpY_match post (rl, bl, md, pc, ht, sa, cn, po, ac, bm, ck, cg, tc, tf, th, tp, ds, wx, wy, wz, nb, kd, fl, hd, my, vs, pr) (nI y) := by
  have hr : y / 216 < 4 := by omega
  obtain ⟨p4, m3, hcn, _, hnp, _⟩ := h2 _ hr
  have p4' := p4.1
  have m3' := m3.1
  have hM := fr_M_Y (nb := nb) (kd := kd) (fl := fl) (po := po) (ng := ng) (ck := ck) (cg := cg) (tc := tc) (tf := tf) (th := th) (tp := tp) (bp := bp) (bf := bf) (y := y) p4' hnp
  have hle : ∀ w : Nat → Int32, (5 * nI (y / 216) + cn (nI (y / 216)).toNatClampNeg ≤ nI (5 * (y / 216) + (fr_n (po (y / 216)) + fr_n (ng (y / 216))))) := by
    intro _
    rw [nI_clamp (by omega), hcn, fr_5m, nI_add]
    exact Int32.le_refl _
  have hvr : vp_in (nI (y / 216)) 4 := vp_in_nI hr (by omega)
  rcases fy_m13 (rl := rl) (bl := bl) (md := md) (pc := pc) (ht := ht) (sa := sa) (cn := cn) (po := po) (ac := ac) (bm := bm) (ck := ck) (cg := cg) (tc := tc) (tf := tf) (th := th) (tp := tp) (ds := ds) (wx := wx) (wy := wy) (wz := wz) (nb := nb) (kd := kd) (fl := fl) (hd := hd) (my := my) (vs := vs) (pr := pr) (p := fr_n (po (y / 216))) h3 h4 hr hy8 rfl (by omega) hcn hnp p4' with ⟨w, ⟨hI, hA⟩, hW⟩ | ⟨w, hA, hW⟩
  · have hI20 : ∀ x, x < 4 → fr_Bd tc th tp (y / 216) x 20 → w x = fr_val bp bf fl y x := fun x hx hB => hI x hx (fr_Bd_20 hr h3 rfl hB)
    rcases fy_m80 (rl := rl) (bl := bl) (md := md) (pc := pc) (ht := ht) (sa := sa) (cn := cn) (po := po) (ac := ac) (bm := bm) (ck := ck) (cg := cg) (tc := tc) (tf := tf) (th := th) (tp := tp) (ds := ds) (wx := wx) (wy := wy) (wz := wz) (nb := nb) (kd := kd) (fl := fl) (hd := hd) (my := my) (vs := w) (pr := pr) (r := y / 216) (p := fr_n (po (y / 216))) hy8 (by omega) with ⟨hB, hW2⟩ | ⟨hB, hW2⟩
    · rcases fy_m106 (rl := rl) (bl := bl) (md := md) (pc := pc) (ht := ht) (sa := sa) (cn := cn) (po := po) (ac := ac) (bm := bm) (ck := ck) (cg := cg) (tc := tc) (tf := tf) (th := th) (tp := tp) (ds := ds) (wx := wx) (wy := wy) (wz := wz) (nb := nb) (kd := kd) (fl := fl) (hd := hd) (my := my) (vs := w) (pr := pr) h3 h4 hr rfl (by omega) hcn hI20 with ⟨w2, ⟨hI2, hN⟩, hW3⟩ | ⟨w2, hN, hW3⟩
      · refine ⟨w2, fun _ => hI2, fun post hp => ⟨by decide, nm_r (fr_d216 (by omega)) (nm_r (fr_5m _) ⟨_, hW post 1 ?_⟩)⟩⟩
        rw [fr_bt (hM.mpr ⟨hA, hB, hN⟩)] at hp
        rw [hnp]
        refine ⟨hvr, br_t (hle w) ⟨_, hW2 post 1 (br_t (nI_le (a := 3) (b := 3) (by omega) (by decide)) (nm_r (fr_5m _) ⟨_, hW3 post 1 ?_⟩))⟩⟩
        exact ⟨hvr, br_t (hle w) hp⟩
      · refine ⟨w2, fun H => absurd (hM.mp H).2.2 hN, fun post hp => ⟨by decide, nm_r (fr_d216 (by omega)) (nm_r (fr_5m _) ⟨_, hW post 1 ?_⟩)⟩⟩
        rw [fr_bf (fun H => hN (hM.mp H).2.2)] at hp
        rw [hnp]
        exact ⟨hvr, br_t (hle w) ⟨_, hW2 post 1 (br_t (nI_le (a := 3) (b := 3) (by omega) (by decide)) (nm_r (fr_5m _) ⟨_, hW3 post 1 hp⟩))⟩⟩
    · refine ⟨w, fun H => absurd (hM.mp H).2.1 hB, fun post hp => ⟨by decide, nm_r (fr_d216 (by omega)) (nm_r (fr_5m _) ⟨_, hW post 1 ?_⟩)⟩⟩
      rw [fr_bf (fun H => hB (hM.mp H).2.1)] at hp
      rw [hnp]
      exact ⟨hvr, br_t (hle w) ⟨_, hW2 post 1 hp⟩⟩
  · refine ⟨w, fun H => absurd (hM.mp H).1 hA, fun post hp => ⟨by decide, nm_r (fr_d216 (by omega)) (nm_r (fr_5m _) ⟨_, hW post 1 ?_⟩)⟩⟩
    rw [fr_bf (fun H => hA (hM.mp H).1)] at hp
    exact hp
/-! ===== the reference settles ===== -/
theorem fy_settle {fin : Nat} (h2 : fr_R2 R po ng cn ac cg) (h3 : fr_R3 po ng tc tt) (h4 : fr_R4 cg tc tf th tp bd bp bf) (hfin : fin ≤ 4)
    (hfe : (bl = 0 → rl = nI fin) ∧ (¬ bl = 0 → rl - 1 = nI fin)) :
    ∃ hd' my' vs' : Nat → Int32, fr_St fin (fr_M nb kd fl po ng ck cg tc tf th tp bp bf) hd my hd' my' ∧ ∀ post : SY → Prop, post (rl, bl, md, pc, ht, sa, cn, po, ac, bm, ck, cg, tc, tf, th, tp, ds, wx, wy, wz, nb, kd, fl, hd', my', vs', pr) → wpY_settle post (rl, bl, md, pc, ht, sa, cn, po, ac, bm, ck, cg, tc, tf, th, tp, ds, wx, wy, wz, nb, kd, fl, hd, my, vs, pr) := by
  have step : ∀ i (s : (Nat → Int32) × (Nat → Int32) × (Nat → Int32)), i < 216 * fin →
      (∀ y, y < 864 → (y < i → s.1 y = fr_b (fr_M nb kd fl po ng ck cg tc tf th tp bp bf y) ∧ (fr_M nb kd fl po ng ck cg tc tf th tp bp bf y → s.2.1 y = my y) ∧ (¬ fr_M nb kd fl po ng ck cg tc tf th tp bp bf y → s.2.1 y = 0)) ∧ (i ≤ y → s.1 y = hd y ∧ s.2.1 y = my y)) →
      ∃ s' : (Nat → Int32) × (Nat → Int32) × (Nat → Int32), (∀ y, y < 864 → (y < i + 1 → s'.1 y = fr_b (fr_M nb kd fl po ng ck cg tc tf th tp bp bf y) ∧ (fr_M nb kd fl po ng ck cg tc tf th tp bp bf y → s'.2.1 y = my y) ∧ (¬ fr_M nb kd fl po ng ck cg tc tf th tp bp bf y → s'.2.1 y = 0)) ∧ (i + 1 ≤ y → s'.1 y = hd y ∧ s'.2.1 y = my y)) ∧
        ∀ (P : SY → Prop) n, wY_settle_23 P (nI fin) n (nI (i + 1)) rl bl md pc ht sa cn po ac bm ck cg tc tf th tp ds wx wy wz nb kd fl (s'.1) (s'.2.1) (s'.2.2) pr → wY_settle_23 P (nI fin) (n + 1) (nI i) rl bl md pc ht sa cn po ac bm ck cg tc tf th tp ds wx wy wz nb kd fl (s.1) (s.2.1) (s.2.2) pr := by
    intro i s hi hI
    have hi8 : i < 864 := by omega
    have hge : ¬ ((216 : Int32) * nI fin ≤ nI i) := by
      rw [show (216 : Int32) * nI fin = nI (216 * fin) from pk_mul 216 fin]
      exact nI_ge hi (by omega)
    have hin : vp_in (nI i) 864 := vp_in_nI hi8 (by decide)
    have hcl : (nI i).toNatClampNeg = i := nI_clamp (by omega)
    obtain ⟨w, _, hW⟩ := fy_match (rl := rl) (bl := bl) (md := md) (pc := pc) (ht := ht) (sa := sa) (cn := cn) (po := po) (ac := ac) (bm := bm) (ck := ck) (cg := cg) (tc := tc) (tf := tf) (th := th) (tp := tp) (ds := ds) (wx := wx) (wy := wy) (wz := wz) (nb := nb) (kd := kd) (fl := fl) (hd := s.1) (my := s.2.1) (vs := s.2.2) (pr := pr) h2 h3 h4 hi8
    by_cases hM : fr_M nb kd fl po ng ck cg tc tf th tp bp bf i
    · refine ⟨(upd s.1 i 1, s.2.1, w), fun y hy => ⟨fun hl => ?_, fun hl => ?_⟩, fun P n hk => br_f hge (hW _ ?_)⟩
      · by_cases e : y = i
        · subst e
          exact ⟨by show upd s.1 y 1 y = _; rw [pk_us, fr_bt hM], fun _ => ((hI y hy).2 (Nat.le_refl _)).2, fun h => absurd hM h⟩
        · have := (hI y hy).1 (by omega)
          exact ⟨by show upd s.1 i 1 y = _; rw [pk_un e]; exact this.1, this.2⟩
      · have := (hI y hy).2 (by omega)
        exact ⟨by show upd s.1 i 1 y = _; rw [pk_un (by omega)]; exact this.1, this.2⟩
      · rw [fr_bt hM]
        refine ⟨hin, nm_r (e' := upd s.1 i 1) (by rw [hcl, ← fr_bt (p := True) trivial, fr_bv]) ⟨hin, br_f ?_ (nm_r (nI_1 i) hk)⟩⟩
        rw [hcl, pk_us]; decide
    · refine ⟨(upd s.1 i 0, upd s.2.1 i 0, w), fun y hy => ⟨fun hl => ?_, fun hl => ?_⟩, fun P n hk => br_f hge (hW _ ?_)⟩
      · by_cases e : y = i
        · subst e
          exact ⟨by show upd s.1 y 0 y = _; rw [pk_us, fr_bf hM], fun h => absurd h hM, fun _ => pk_us⟩
        · have := (hI y hy).1 (by omega)
          refine ⟨by show upd s.1 i 0 y = _; rw [pk_un e]; exact this.1, ?_⟩
          show (_ → upd s.2.1 i 0 y = _) ∧ (_ → upd s.2.1 i 0 y = _)
          rw [pk_un e]; exact this.2
      · have := (hI y hy).2 (by omega)
        refine ⟨by show upd s.1 i 0 y = _; rw [pk_un (by omega)]; exact this.1, ?_⟩
        show upd s.2.1 i 0 y = _
        rw [pk_un (by omega)]; exact this.2
      · rw [fr_bf hM]
        refine ⟨hin, nm_r (e' := upd s.1 i 0) (by rw [hcl, ← fr_bf (p := False) id, fr_bv]) ⟨hin, br_t ?_ ⟨hin, nm_r (e' := upd s.2.1 i 0) (by rw [hcl, ← fr_bf (p := False) id, fr_bv]) (nm_r (nI_1 i) hk)⟩⟩⟩
        rw [hcl, pk_us]
  obtain ⟨s, hI, hW⟩ := fr_exl (σ := (Nat → Int32) × (Nat → Int32) × (Nat → Int32)) (Q := SY → Prop)
    (fun P n i s => wY_settle_23 P (nI fin) n (nI i) rl bl md pc ht sa cn po ac bm ck cg tc tf th tp ds wx wy wz nb kd fl (s.1) (s.2.1) (s.2.2) pr)
    (fun i s => ∀ y, y < 864 → (y < i → s.1 y = fr_b (fr_M nb kd fl po ng ck cg tc tf th tp bp bf y) ∧ (fr_M nb kd fl po ng ck cg tc tf th tp bp bf y → s.2.1 y = my y) ∧ (¬ fr_M nb kd fl po ng ck cg tc tf th tp bp bf y → s.2.1 y = 0)) ∧ (i ≤ y → s.1 y = hd y ∧ s.2.1 y = my y))
    (216 * fin) step (hd, my, vs) (fun y hy => ⟨fun h => absurd h (Nat.not_lt_zero y), fun _ => ⟨rfl, rfl⟩⟩)
  have hend : ∀ post : SY → Prop, post (rl, bl, md, pc, ht, sa, cn, po, ac, bm, ck, cg, tc, tf, th, tp, ds, wx, wy, wz, nb, kd, fl, s.1, s.2.1, s.2.2, pr) → ∃ n, wY_settle_23 post (nI fin) n 0 rl bl md pc ht sa cn po ac bm ck cg tc tf th tp ds wx wy wz nb kd fl hd my vs pr := fun post hp =>
    ⟨1 + 216 * fin, hW post 1 (br_t (by rw [show (216 : Int32) * nI fin = nI (216 * fin) from pk_mul 216 fin]; exact Int32.le_refl _) hp)⟩
  refine ⟨s.1, s.2.1, s.2.2, hI, fun post hp => br_c (fun e => ?_) (fun e => nm_r (hfe.2 e) (hend post hp))⟩
  have h := hend post hp
  rw [← hfe.1 e] at h
  exact h
end
