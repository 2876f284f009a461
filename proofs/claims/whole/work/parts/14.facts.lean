section
variable {fc md rl bl pc ht : Int32} {nb kd fl sa po ng tt ac ha bd bp bf ck cg tc tf th tp aw ak ao cs ex mx va ff fv pr cn bm ds wx wy wz hd my vs : Nat → Int32} {R : Nat}
theorem fr_fin {B : Nat} (hB : B ≤ 1) (hBR : B ≤ R) : (nI B = 0 → nI R = nI (R - B)) ∧ (¬ nI B = 0 → nI R - 1 = nI (R - B)) := by
  rcases (show B = 0 ∨ B = 1 by omega) with rfl | rfl
  · exact ⟨fun _ => rfl, fun h => absurd nI_0 h⟩
  · exact ⟨fun h => absurd h (by decide), fun _ => pk_sub (b := 1) hBR⟩
/-! ===== finish ===== -/
theorem i_vc_finish {k : Nat} {u : SX} {v : SY} (I : i_Rel k u v) (hk : k + 5 ≤ 2560) : wpX_finish (fun r u' => wpY_finish (fun r' v' => r' = r ∧ i_Rel (k + 5) u' v') v) u := by
  have up := i_up I
  obtain ⟨R, B, fc, md, rl, bl, pc, ht, nb, kd, fl, sa, po, ng, tt, ac, ha, bd, bp, bf, ck, cg, tc, tf, th, tp, aw, ak, ao, cs, ex, mx, va, ff, fv, pr, cn, bm, ds, wx, wy, wz, hd, my, vs, rfl, rfl, h1, rfl, h3, rfl, h5, h6, h7, h8, h9⟩ := I
  rcases (show B = 0 ∨ B = 1 by omega) with rfl | rfl
  · exact br_t nI_0 (br_t nI_0 ⟨rfl, up⟩)
  · obtain ⟨r, rfl⟩ : ∃ r, R = r + 1 := ⟨R - 1, by omega⟩
    have hr : r < 4 := by omega
    obtain ⟨q1, q2, q3, q4, q5, q6⟩ := h6.1 r hr
    have hcl : (nI (r + 1) - 1).toNatClampNeg = r := by rw [nI_pred]; exact nI_clamp (by omega)
    have hin : vp_in (nI (r + 1) - 1) 4 := by rw [nI_pred]; exact vp_in_nI hr (by decide)
    by_cases e0 : po r = 0
    · exact br_f (by decide) ⟨hin, br_t (by rw [hcl]; exact e0) (br_f (by decide) ⟨hin, br_t (by rw [hcl]; exact e0) ⟨rfl, up⟩⟩)⟩
    · obtain ⟨ex', mx', va', hSx, hWx⟩ := fx_settle (fc := fc) (md := md) (rl := nI (r + 1)) (bl := 0) (pc := pc) (nb := nb) (kd := kd) (fl := fl) (sa := sa) (po := po) (ng := ng) (tt := tt) (ac := ac) (ha := ha) (bd := bd) (bp := bp) (bf := bf) (ck := ck) (cg := cg) (tc := tc) (tf := tf) (th := th) (tp := tp) (aw := aw) (ak := ak) (ao := ao) (cs := cs) (ex := ex) (mx := mx) (va := va) (ff := ff) (fv := fv) (pr := pr) (fin := r + 1) h7 h6.1 h6.2.1 h6.2.2.1 h6.2.2.2.1 (by omega) ⟨fun _ => rfl, fun h => absurd rfl h⟩
      obtain ⟨hd', my', vs', hSy, hWy⟩ := fy_settle (rl := nI (r + 1)) (bl := 0) (md := md) (pc := pc) (ht := ht) (sa := sa) (cn := cn) (po := po) (ac := ac) (bm := bm) (ck := ck) (cg := cg) (tc := tc) (tf := tf) (th := th) (tp := tp) (ds := ds) (wx := wx) (wy := wy) (wz := wz) (nb := nb) (kd := kd) (fl := fl) (hd := hd) (my := my) (vs := vs) (pr := pr) (fin := r + 1) h6.1 h6.2.1 h6.2.2.1 (by omega) ⟨fun _ => rfl, fun h => absurd rfl h⟩
      refine br_f (by decide) ⟨hin, br_f (by rw [hcl]; exact e0) (hWx _ (br_f (by decide) ⟨hin, br_f (by rw [hcl]; exact e0) (hWy _ ⟨rfl, ?_⟩)⟩))⟩
      exact fr_mk (B := 0) ⟨h1, rfl, by omega, rfl, by omega, h6, h7, fr_FB_up h8 (by omega), fr_FL_2 h9 (by omega) hSx hSy⟩
/-! ===== the first slot with a number ===== -/
theorem fx_slot_some {post : Int32 → Prop} {f : Nat} {x : Int32} (hf : f < 6) (e : nb f = x) (hm : ∀ g, g < f → ¬ nb g = x) (h : post (nI f)) : wpX_slotOfNumber post (fc, md, rl, bl, pc, nb, kd, fl, sa, po, ng, tt, ac, ha, bd, bp, bf, ck, cg, tc, tf, th, tp, aw, ak, ao, cs, ex, mx, va, ff, fv, pr) x := by
  refine ⟨f + 1, fr_upto (fun n i => wX_slotOfNumber_2 post x fc md rl bl pc nb kd fl sa po ng tt ac ha bd bp bf ck cg tc tf th tp aw ak ao cs ex mx va ff fv pr n (nI i)) f ?_ ?_⟩
  · intro n
    exact br_f (nI_ge (b := 6) hf (by decide)) ⟨vp_in_nI hf (by decide), br_t (by rw [nI_clamp (by omega)]; exact e) h⟩
  · intro n i hi hk
    exact br_f (nI_ge (b := 6) (by omega) (by decide)) ⟨vp_in_nI (by omega) (by decide), br_f (by rw [nI_clamp (by omega)]; exact hm i hi) (nm_r (nI_1 i) hk)⟩
theorem fx_slot_none {post : Int32 → Prop} {x : Int32} (hm : ∀ g, g < 6 → ¬ nb g = x) (h : post (-1)) : wpX_slotOfNumber post (fc, md, rl, bl, pc, nb, kd, fl, sa, po, ng, tt, ac, ha, bd, bp, bf, ck, cg, tc, tf, th, tp, aw, ak, ao, cs, ex, mx, va, ff, fv, pr) x := by
  refine ⟨6 + 1, fr_upto (fun n i => wX_slotOfNumber_2 post x fc md rl bl pc nb kd fl sa po ng tt ac ha bd bp bf ck cg tc tf th tp aw ak ao cs ex mx va ff fv pr n (nI i)) 6 ?_ ?_⟩
  · intro n
    exact br_t (nI_le (a := 6) (b := 6) (by omega) (by decide)) h
  · intro n i hi hk
    exact br_f (nI_ge (b := 6) (by omega) (by decide)) ⟨vp_in_nI (by omega) (by decide), br_f (by rw [nI_clamp (by omega)]; exact hm i hi) (nm_r (nI_1 i) hk)⟩
theorem fx_store_some {post : Int32 → SX → Prop} {f : Nat} {k x y z : Int32} (hf : f < 6) (e : nb f = 0) (hm : ∀ g, g < f → ¬ nb g = 0)
    (h : post (md + 1) (fc + 1, md + 1, rl, bl, pc, upd nb f (md + 1), upd kd f k, upd (upd (upd fl (3 * f) x) (3 * f + 1) y) (3 * f + 2) z, sa, po, ng, tt, ac, ha, bd, bp, bf, ck, cg, tc, tf, th, tp, aw, ak, ao, cs, ex, mx, va, ff, fv, pr)) : wpX_storeFact post (fc, md, rl, bl, pc, nb, kd, fl, sa, po, ng, tt, ac, ha, bd, bp, bf, ck, cg, tc, tf, th, tp, aw, ak, ao, cs, ex, mx, va, ff, fv, pr) k x y z := by
  have hin : vp_in (nI f) 6 := vp_in_nI hf (by decide)
  have hcl : (nI f).toNatClampNeg = f := nI_clamp (by omega)
  have e0 : nI f * 3 = nI (3 * f) := fr_m3 _
  have e1 : nI f * 3 + 1 = nI (3 * f + 1) := by rw [fr_m3, nI_1]
  have e2 : nI f * 3 + 2 = nI (3 * f + 2) := by rw [fr_m3]; exact nI_add _ 2
  refine fx_slot_some hf e hm (br_f (fr_m1 (by omega)) (nm_e (nm_e ⟨hin, nm_r (e' := upd nb f (md + 1)) (by rw [hcl]) ⟨hin, nm_r (e' := upd kd f k) (by rw [hcl]) ⟨?_, nm_r (e' := upd fl (3 * f) x) (by rw [e0, nI_clamp (by omega)]) ⟨?_, nm_r (e' := upd (upd fl (3 * f) x) (3 * f + 1) y) (by rw [e1, nI_clamp (by omega)]) ⟨?_, nm_r (e' := upd (upd (upd fl (3 * f) x) (3 * f + 1) y) (3 * f + 2) z) (by rw [e2, nI_clamp (by omega)]) h⟩⟩⟩⟩⟩)))
  · rw [e0]; exact vp_in_nI (by omega) (by decide)
  · rw [e1]; exact vp_in_nI (by omega) (by decide)
  · rw [e2]; exact vp_in_nI (by omega) (by decide)
theorem fx_store_none {post : Int32 → SX → Prop} {k x y z : Int32} (hm : ∀ g, g < 6 → ¬ nb g = 0) (h : post 0 (fc, md, rl, bl, pc, nb, kd, fl, sa, po, ng, tt, ac, ha, bd, bp, bf, ck, cg, tc, tf, th, tp, aw, ak, ao, cs, ex, mx, va, ff, fv, pr)) : wpX_storeFact post (fc, md, rl, bl, pc, nb, kd, fl, sa, po, ng, tt, ac, ha, bd, bp, bf, ck, cg, tc, tf, th, tp, aw, ak, ao, cs, ex, mx, va, ff, fv, pr) k x y z :=
  fx_slot_none hm (br_t rfl h)
theorem fx_erase_some {post : Int32 → SX → Prop} {f : Nat} {x : Int32} (hx : x ≠ 0) (hf : f < 6) (e : nb f = x) (hm : ∀ g, g < f → ¬ nb g = x)
    (h : post 1 (fc - 1, md, rl, bl, pc, upd nb f 0, kd, fl, sa, po, ng, tt, ac, ha, bd, bp, bf, ck, cg, tc, tf, th, tp, aw, ak, ao, cs, ex, mx, va, ff, fv, pr)) : wpX_eraseFact post (fc, md, rl, bl, pc, nb, kd, fl, sa, po, ng, tt, ac, ha, bd, bp, bf, ck, cg, tc, tf, th, tp, aw, ak, ao, cs, ex, mx, va, ff, fv, pr) x :=
  br_f hx (fx_slot_some hf e hm (br_f (fr_m1 (by omega)) ⟨vp_in_nI hf (by decide), nm_r (e' := upd nb f 0) (by rw [nI_clamp (by omega)]) (nm_e h)⟩))
theorem fx_erase_none {post : Int32 → SX → Prop} {x : Int32} (hm : x ≠ 0 → ∀ g, g < 6 → ¬ nb g = x) (h : post 0 (fc, md, rl, bl, pc, nb, kd, fl, sa, po, ng, tt, ac, ha, bd, bp, bf, ck, cg, tc, tf, th, tp, aw, ak, ao, cs, ex, mx, va, ff, fv, pr)) : wpX_eraseFact post (fc, md, rl, bl, pc, nb, kd, fl, sa, po, ng, tt, ac, ha, bd, bp, bf, ck, cg, tc, tf, th, tp, aw, ak, ao, cs, ex, mx, va, ff, fv, pr) x :=
  br_c (fun _ => h) (fun e => fx_slot_none (hm e) (br_t rfl h))
theorem fy_add_loop {post : Int32 → SY → Prop} {f : Nat} {k x y z : Int32} (hf : f ≤ 6) (e : f < 6 → nb f = 0) (hm : ∀ g, g < f → ¬ nb g = 0)
    (h : wY_add_26 post k x y z (nI f) rl bl md pc ht sa cn po ac bm ck cg tc tf th tp ds wx wy wz nb kd fl hd my vs pr) : wpY_add post (rl, bl, md, pc, ht, sa, cn, po, ac, bm, ck, cg, tc, tf, th, tp, ds, wx, wy, wz, nb, kd, fl, hd, my, vs, pr) k x y z := by
  refine ⟨f + 1, fr_upto (fun n i => wY_add_3 post k x y z rl bl md pc ht sa cn po ac bm ck cg tc tf th tp ds wx wy wz nb kd fl hd my vs pr n (nI i)) f ?_ ?_⟩
  · intro n
    by_cases h6 : f = 6
    · subst h6
      exact br_t (nI_le (a := 6) (b := 6) (by omega) (by decide)) h
    · exact br_f (nI_ge (b := 6) (by omega) (by decide)) ⟨vp_in_nI (by omega) (by decide), br_t (by rw [nI_clamp (by omega)]; exact e (by omega)) h⟩
  · intro n i hi hk
    exact br_f (nI_ge (b := 6) (by omega) (by decide)) ⟨vp_in_nI (by omega) (by decide), br_f (by rw [nI_clamp (by omega)]; exact hm i hi) (nm_r (nI_1 i) hk)⟩
theorem fy_add_bad {post : Int32 → SY → Prop} {k x y z : Int32} (hk : k < 0 ∨ (¬ k < 0 ∧ 3 < k)) (h : post 0 (rl, bl, md, pc, ht, sa, cn, po, ac, bm, ck, cg, tc, tf, th, tp, ds, wx, wy, wz, nb, kd, fl, hd, my, vs, pr)) : wpY_add post (rl, bl, md, pc, ht, sa, cn, po, ac, bm, ck, cg, tc, tf, th, tp, ds, wx, wy, wz, nb, kd, fl, hd, my, vs, pr) k x y z := by
  have h26 : ∀ f : Nat, wY_add_26 post k x y z (nI f) rl bl md pc ht sa cn po ac bm ck cg tc tf th tp ds wx wy wz nb kd fl hd my vs pr := fun f => by
    rcases hk with e | ⟨e1, e2⟩
    · exact br_t e h
    · exact br_f e1 (br_t e2 h)
  rcases fr_fst (fun f => nb f = 0) 6 with ⟨f, hf, e, hm⟩ | hm
  · exact fy_add_loop (by omega) (fun _ => e) hm (h26 f)
  · exact fy_add_loop (f := 6) (by omega) (fun h => absurd h (by omega)) hm (h26 6)
theorem fy_add_none {post : Int32 → SY → Prop} {k x y z : Int32} (hm : ∀ g, g < 6 → ¬ nb g = 0) (h : post 0 (rl, bl, md, pc, ht, sa, cn, po, ac, bm, ck, cg, tc, tf, th, tp, ds, wx, wy, wz, nb, kd, fl, hd, my, vs, pr)) : wpY_add post (rl, bl, md, pc, ht, sa, cn, po, ac, bm, ck, cg, tc, tf, th, tp, ds, wx, wy, wz, nb, kd, fl, hd, my, vs, pr) k x y z :=
  fy_add_loop (f := 6) (by omega) (fun h => absurd h (by omega)) hm (br_c (fun _ => h) (fun _ => br_c (fun _ => h) (fun _ => br_t rfl h)))
theorem fy_add_some {post : Int32 → SY → Prop} {f kk : Nat} {x y z : Int32} {hd' my' vs' : Nat → Int32} (hkk : kk < 4) (hf : f < 6) (e : nb f = 0) (hm : ∀ g, g < f → ¬ nb g = 0)
    (hW : ∀ P : SY → Prop, P (rl, bl, md + 1, pc, ht, sa, cn, po, ac, bm, ck, cg, tc, tf, th, tp, ds, wx, wy, wz, upd nb f (md + 1), upd kd f (nI kk), upd (upd (upd fl (3 * f) x) (3 * f + 1) y) (3 * f + 2) z, hd', my', vs', pr) → wpY_settle P (rl, bl, md + 1, pc, ht, sa, cn, po, ac, bm, ck, cg, tc, tf, th, tp, ds, wx, wy, wz, upd nb f (md + 1), upd kd f (nI kk), upd (upd (upd fl (3 * f) x) (3 * f + 1) y) (3 * f + 2) z, hd, my, vs, pr))
    (h : post (md + 1) (rl, bl, md + 1, pc, ht, sa, cn, po, ac, bm, ck, cg, tc, tf, th, tp, ds, wx, wy, wz, upd nb f (md + 1), upd kd f (nI kk), upd (upd (upd fl (3 * f) x) (3 * f + 1) y) (3 * f + 2) z, hd', my', vs', pr)) : wpY_add post (rl, bl, md, pc, ht, sa, cn, po, ac, bm, ck, cg, tc, tf, th, tp, ds, wx, wy, wz, nb, kd, fl, hd, my, vs, pr) (nI kk) x y z := by
  have hin : vp_in (nI f) 6 := vp_in_nI hf (by decide)
  have hcl : (nI f).toNatClampNeg = f := nI_clamp (by omega)
  have e0 : 3 * nI f = nI (3 * f) := fr_3m _
  have e1 : 3 * nI f + 1 = nI (3 * f + 1) := by rw [fr_3m, nI_1]
  have e2 : 3 * nI f + 2 = nI (3 * f + 2) := by rw [fr_3m]; exact nI_add _ 2
  have h6 : ¬ nI f = 6 := fun e => by
    have := (nI_eq (a := f) (b := 6) (by omega) (by omega)).mp e
    omega
  refine fy_add_loop (by omega) (fun _ => e) hm (br_f (nI_pos (by omega)) (br_f (nI_nlt (a := 3) (by omega) (by decide)) (br_f h6 (nm_e ⟨hin, nm_r (e' := upd nb f (md + 1)) (by rw [hcl]) ⟨hin, nm_r (e' := upd kd f (nI kk)) (by rw [hcl, fr_8 (by omega)]) ⟨?_, nm_r (e' := upd fl (3 * f) x) (by rw [e0, nI_clamp (by omega)]) ⟨?_, nm_r (e' := upd (upd fl (3 * f) x) (3 * f + 1) y) (by rw [e1, nI_clamp (by omega)]) ⟨?_, nm_r (e' := upd (upd (upd fl (3 * f) x) (3 * f + 1) y) (3 * f + 2) z) (by rw [e2, nI_clamp (by omega)]) (hW _ h)⟩⟩⟩⟩⟩))))
  · rw [e0]; exact vp_in_nI (by omega) (by decide)
  · rw [e1]; exact vp_in_nI (by omega) (by decide)
  · rw [e2]; exact vp_in_nI (by omega) (by decide)
theorem fy_rem_none {post : Int32 → SY → Prop} {x : Int32} (hm : ¬ x ≤ 0 → ∀ g, g < 6 → ¬ nb g = x) (h : post 0 (rl, bl, md, pc, ht, sa, cn, po, ac, bm, ck, cg, tc, tf, th, tp, ds, wx, wy, wz, nb, kd, fl, hd, my, vs, pr)) : wpY_remove post (rl, bl, md, pc, ht, sa, cn, po, ac, bm, ck, cg, tc, tf, th, tp, ds, wx, wy, wz, nb, kd, fl, hd, my, vs, pr) x := by
  refine ⟨6 + 1, fr_upto (fun n i => wY_remove_2 post x rl bl md pc ht sa cn po ac bm ck cg tc tf th tp ds wx wy wz nb kd fl hd my vs pr n (nI i)) 6 ?_ ?_⟩
  · intro n
    exact br_t (nI_le (a := 6) (b := 6) (by omega) (by decide)) h
  · intro n i hi hk
    exact br_f (nI_ge (b := 6) (by omega) (by decide)) (br_c (fun _ => nm_r (nI_1 i) hk) (fun e => ⟨vp_in_nI (by omega) (by decide), br_f (by rw [nI_clamp (by omega)]; exact hm e i hi) (nm_r (nI_1 i) hk)⟩))
theorem fy_rem_some {post : Int32 → SY → Prop} {f : Nat} {x : Int32} {hd' my' vs' : Nat → Int32} (hx : ¬ x ≤ 0) (hf : f < 6) (e : nb f = x) (hm : ∀ g, g < f → ¬ nb g = x)
    (hW : ∀ P : SY → Prop, P (rl, bl, md, pc, ht, sa, cn, po, ac, bm, ck, cg, tc, tf, th, tp, ds, wx, wy, wz, upd nb f 0, kd, fl, hd', my', vs', pr) → wpY_settle P (rl, bl, md, pc, ht, sa, cn, po, ac, bm, ck, cg, tc, tf, th, tp, ds, wx, wy, wz, upd nb f 0, kd, fl, hd, my, vs, pr))
    (h : post 1 (rl, bl, md, pc, ht, sa, cn, po, ac, bm, ck, cg, tc, tf, th, tp, ds, wx, wy, wz, upd nb f 0, kd, fl, hd', my', vs', pr)) : wpY_remove post (rl, bl, md, pc, ht, sa, cn, po, ac, bm, ck, cg, tc, tf, th, tp, ds, wx, wy, wz, nb, kd, fl, hd, my, vs, pr) x := by
  refine ⟨f + 1, fr_upto (fun n i => wY_remove_2 post x rl bl md pc ht sa cn po ac bm ck cg tc tf th tp ds wx wy wz nb kd fl hd my vs pr n (nI i)) f ?_ ?_⟩
  · intro n
    exact br_f (nI_ge (b := 6) hf (by decide)) (br_f hx ⟨vp_in_nI hf (by decide), br_t (by rw [nI_clamp (by omega)]; exact e) ⟨vp_in_nI hf (by decide), nm_r (e' := upd nb f 0) (by rw [nI_clamp (by omega)]) (hW _ h)⟩⟩)
  · intro n i hi hk
    exact br_f (nI_ge (b := 6) (by omega) (by decide)) (br_f hx ⟨vp_in_nI (by omega) (by decide), br_f (by rw [nI_clamp (by omega)]; exact hm i hi) (nm_r (nI_1 i) hk)⟩)
/-! ===== add, remove ===== -/
theorem i_vc_add {k : Nat} {u : SX} {v : SY} (I : i_Rel k u v) (hk : k + 5 ≤ 2560) (v1 : Int32) (v2 : Int32) (v3 : Int32) (v4 : Int32) : wpX_add (fun r u' => wpY_add (fun r' v' => r' = r ∧ i_Rel (k + 5) u' v') v v1 v2 v3 v4) u v1 v2 v3 v4 := by
  have up := i_up I
  obtain ⟨R, B, fc, md, rl, bl, pc, ht, nb, kd, fl, sa, po, ng, tt, ac, ha, bd, bp, bf, ck, cg, tc, tf, th, tp, aw, ak, ao, cs, ex, mx, va, ff, fv, pr, cn, bm, ds, wx, wy, wz, hd, my, vs, rfl, rfl, h1, rfl, h3, rfl, h5, h6, h7, h8, h9⟩ := I
  by_cases n0 : v1 < 0
  · exact br_t n0 (br_t rfl (fy_add_bad (Or.inl n0) ⟨rfl, up⟩))
  · by_cases n4 : 4 ≤ v1
    · refine br_f n0 (br_t n4 (br_t rfl (fy_add_bad (Or.inr ⟨n0, ?_⟩) ⟨rfl, up⟩)))
      have e3 : (3 : Int32).toInt = 3 := by decide
      have e4 : (4 : Int32).toInt = 4 := by decide
      rw [Int32.le_iff_toInt_le, e4] at n4
      rw [Int32.lt_iff_toInt_lt, e3]
      omega
    · obtain ⟨kk, hkk, rfl⟩ := fr_kind (n := 4) (by omega) n0 n4
      refine br_f n0 (br_f n4 (br_f (by decide) ?_))
      rcases fr_fst (fun f => nb f = 0) 6 with ⟨f, hf, e, hm⟩ | hm
      · obtain ⟨ex', mx', va', hSx, hWx⟩ := fx_settle (fc := fc + 1) (md := md + 1) (rl := nI R) (bl := nI B) (pc := pc) (nb := upd nb f (md + 1)) (kd := upd kd f (nI kk)) (fl := upd (upd (upd fl (3 * f) v2) (3 * f + 1) v3) (3 * f + 2) v4) (sa := sa) (po := po) (ng := ng) (tt := tt) (ac := ac) (ha := ha) (bd := bd) (bp := bp) (bf := bf) (ck := ck) (cg := cg) (tc := tc) (tf := tf) (th := th) (tp := tp) (aw := aw) (ak := ak) (ao := ao) (cs := cs) (ex := ex) (mx := mx) (va := va) (ff := ff) (fv := fv) (pr := pr) (fin := R - B) h7 h6.1 h6.2.1 h6.2.2.1 h6.2.2.2.1 (by omega) (fr_fin h3 h5)
        obtain ⟨hd', my', vs', hSy, hWy⟩ := fy_settle (rl := nI R) (bl := nI B) (md := md + 1) (pc := pc) (ht := ht) (sa := sa) (cn := cn) (po := po) (ac := ac) (bm := bm) (ck := ck) (cg := cg) (tc := tc) (tf := tf) (th := th) (tp := tp) (ds := ds) (wx := wx) (wy := wy) (wz := wz) (nb := upd nb f (md + 1)) (kd := upd kd f (nI kk)) (fl := upd (upd (upd fl (3 * f) v2) (3 * f + 1) v3) (3 * f + 2) v4) (hd := hd) (my := my) (vs := vs) (pr := pr) (fin := R - B) h6.1 h6.2.1 h6.2.2.1 (by omega) (fr_fin h3 h5)
        refine fx_store_some hf e hm (hWx _ (fy_add_some hkk hf e hm hWy ⟨rfl, ?_⟩))
        exact fr_mk ⟨h1, rfl, h3, rfl, h5, h6, h7, fr_FB_up (fr_FB_add h8 (by omega) hf e).1 (by omega), fr_FL_2 h9 (Nat.le_refl _) hSx hSy⟩
      · obtain ⟨ex', mx', va', hSx, hWx⟩ := fx_settle (fc := fc) (md := md) (rl := nI R) (bl := nI B) (pc := pc) (nb := nb) (kd := kd) (fl := fl) (sa := sa) (po := po) (ng := ng) (tt := tt) (ac := ac) (ha := ha) (bd := bd) (bp := bp) (bf := bf) (ck := ck) (cg := cg) (tc := tc) (tf := tf) (th := th) (tp := tp) (aw := aw) (ak := ak) (ao := ao) (cs := cs) (ex := ex) (mx := mx) (va := va) (ff := ff) (fv := fv) (pr := pr) (fin := R - B) h7 h6.1 h6.2.1 h6.2.2.1 h6.2.2.2.1 (by omega) (fr_fin h3 h5)
        refine fx_store_none hm (hWx _ (fy_add_none hm ⟨rfl, ?_⟩))
        exact fr_mk ⟨h1, rfl, h3, rfl, h5, h6, h7, fr_FB_up h8 (by omega), fr_FL_1 h9 hSx⟩
theorem i_vc_remove {k : Nat} {u : SX} {v : SY} (I : i_Rel k u v) (hk : k + 5 ≤ 2560) (v1 : Int32) : wpX_remove (fun r u' => wpY_remove (fun r' v' => r' = r ∧ i_Rel (k + 5) u' v') v v1) u v1 := by
  obtain ⟨R, B, fc, md, rl, bl, pc, ht, nb, kd, fl, sa, po, ng, tt, ac, ha, bd, bp, bf, ck, cg, tc, tf, th, tp, aw, ak, ao, cs, ex, mx, va, ff, fv, pr, cn, bm, ds, wx, wy, wz, hd, my, vs, rfl, rfl, h1, rfl, h3, rfl, h5, h6, h7, h8, h9⟩ := I
  have hn := fr_FB_n h8
  have h31 : ∀ f, f < 6 → fr_n (nb f) < 2 ^ 31 := by
    obtain ⟨⟨m, g1, g2, g3⟩, _, _⟩ := h8
    intro f hf
    have := (g3 f hf).1
    omega
  rcases fr_fst (fun f => nb f = v1 ∧ ¬ v1 ≤ 0) 6 with ⟨f, hf, ⟨e, hpos⟩, hm⟩ | hm
  · have hm' : ∀ g, g < f → ¬ nb g = v1 := fun g hg h => hm g hg ⟨h, hpos⟩
    have hv0 : v1 ≠ 0 := fun h => hpos (by rw [h]; decide)
    obtain ⟨ex', mx', va', hSx, hWx⟩ := fx_settle (fc := fc - 1) (md := md) (rl := nI R) (bl := nI B) (pc := pc) (nb := upd nb f 0) (kd := kd) (fl := fl) (sa := sa) (po := po) (ng := ng) (tt := tt) (ac := ac) (ha := ha) (bd := bd) (bp := bp) (bf := bf) (ck := ck) (cg := cg) (tc := tc) (tf := tf) (th := th) (tp := tp) (aw := aw) (ak := ak) (ao := ao) (cs := cs) (ex := ex) (mx := mx) (va := va) (ff := ff) (fv := fv) (pr := pr) (fin := R - B) h7 h6.1 h6.2.1 h6.2.2.1 h6.2.2.2.1 (by omega) (fr_fin h3 h5)
    obtain ⟨hd', my', vs', hSy, hWy⟩ := fy_settle (rl := nI R) (bl := nI B) (md := md) (pc := pc) (ht := ht) (sa := sa) (cn := cn) (po := po) (ac := ac) (bm := bm) (ck := ck) (cg := cg) (tc := tc) (tf := tf) (th := th) (tp := tp) (ds := ds) (wx := wx) (wy := wy) (wz := wz) (nb := upd nb f 0) (kd := kd) (fl := fl) (hd := hd) (my := my) (vs := vs) (pr := pr) (fin := R - B) h6.1 h6.2.1 h6.2.2.1 (by omega) (fr_fin h3 h5)
    unfold wpX_remove
    refine fx_erase_some hv0 hf e hm' ?_
    refine hWx _ ⟨rfl, fy_rem_some hpos hf e hm' hWy ⟨rfl, ?_⟩⟩
    exact fr_mk ⟨h1, rfl, h3, rfl, h5, h6, h7, fr_FB_up (fr_FB_del h8 hf (by rw [e]; exact hv0) (by omega)) (by omega), fr_FL_2 h9 (Nat.le_refl _) hSx hSy⟩
  · obtain ⟨ex', mx', va', hSx, hWx⟩ := fx_settle (fc := fc) (md := md) (rl := nI R) (bl := nI B) (pc := pc) (nb := nb) (kd := kd) (fl := fl) (sa := sa) (po := po) (ng := ng) (tt := tt) (ac := ac) (ha := ha) (bd := bd) (bp := bp) (bf := bf) (ck := ck) (cg := cg) (tc := tc) (tf := tf) (th := th) (tp := tp) (aw := aw) (ak := ak) (ao := ao) (cs := cs) (ex := ex) (mx := mx) (va := va) (ff := ff) (fv := fv) (pr := pr) (fin := R - B) h7 h6.1 h6.2.1 h6.2.2.1 h6.2.2.2.1 (by omega) (fr_fin h3 h5)
    unfold wpX_remove
    refine fx_erase_none (fun hv0 g hg e => hm g hg ⟨e, fun hl => ?_⟩) ?_
    · rw [← e, hn g hg] at hl
      have := (nI_leI (b := 0) (h31 g hg) (by omega)).mp hl
      rw [← e, hn g hg] at hv0
      exact hv0 (by rw [show fr_n (nb g) = 0 from by omega]; rfl)
    · refine hWx _ ⟨rfl, fy_rem_none (fun hpos g hg e => hm g hg ⟨e, hpos⟩) ⟨rfl, ?_⟩⟩
      exact fr_mk ⟨h1, rfl, h3, rfl, h5, h6, h7, fr_FB_up h8 (by omega), fr_FL_1 h9 hSx⟩
end
