section
variable {fc md rl bl pc ht : Int32} {nb kd fl sa po ng tt ac ha bd bp bf ck cg tc tf th tp aw ak ao cs ex mx va ff fv pr cn bm ds wx wy wz hd my vs : Nat → Int32} {R : Nat}
/-! ===== usable operands ===== -/
theorem fx_usable {post : Int32 → Prop} {r : Nat} {o : Int32} (h5 : fr_R5 R tc th tp bd bp bf bm) (hr : r < 4) (h : post (fr_b (fr_Us bd r o))) : wpX_isUsable post (fc, md, rl, bl, pc, nb, kd, fl, sa, po, ng, tt, ac, ha, bd, bp, bf, ck, cg, tc, tf, th, tp, aw, ak, ao, cs, ex, mx, va, ff, fv, pr) (nI r) o := by
  refine br_c (fun e => ?_) (fun e => nm_e (br_c (fun a1 => br_t rfl ?_) (fun a1 => br_c (fun a2 => br_t rfl ?_) (fun a2 => br_f (by decide) ?_))))
  · rw [fr_bt (p := fr_Us bd r o) (fun h => absurd e h)] at h
    exact h
  · rw [fr_bf (fun H => by obtain ⟨x, hx, ex, _⟩ := H e; rw [ex] at a1; exact nI_pos (by omega) a1)] at h
    exact h
  · rw [fr_bf (fun H => by obtain ⟨x, hx, ex, _⟩ := H e; rw [ex] at a2; exact nI_ge (b := 4) hx (by decide) a2)] at h
    exact h
  · obtain ⟨x, hx, ex⟩ := fr_kind (n := 4) (by omega) a1 a2
    rw [ex]
    refine fx_bound h5 hr hx (br_c (fun e0 => ?_) (fun e0 => ?_))
    · rw [fr_bf (fun H => by
        obtain ⟨x', hx', ex', hb⟩ := H e
        have : x = x' := (nI_eq (by omega) (by omega)).mp (ex.symm.trans ex')
        rw [this] at e0
        exact hb e0)] at h
      exact h
    · rw [fr_bt (p := fr_Us bd r o) (fun _ => ⟨x, hx, ex, e0⟩)] at h
      exact h
theorem fy_known {post : Int32 → Prop} {r : Nat} {o : Int32} (h5 : fr_R5 R tc th tp bd bp bf bm) (hr : r < 4) (h : post (fr_b (fr_Us bd r o))) : wpY_known post (nI (r + 1), bl, md, pc, ht, sa, cn, po, ac, bm, ck, cg, tc, tf, th, tp, ds, wx, wy, wz, nb, kd, fl, hd, my, vs, pr) o := by
  refine nm_e (br_c (fun e => ?_) (fun e => br_c (fun a1 => ?_) (fun a1 => br_c (fun a2 => ?_) (fun a2 => ?_))))
  · rw [fr_bt (p := fr_Us bd r o) (fun h => absurd e h)] at h
    exact h
  · rw [fr_bf (fun H => by obtain ⟨x, hx, ex, _⟩ := H e; rw [ex] at a1; exact nI_pos (by omega) a1)] at h
    exact h
  · rw [fr_bf (fun H => by obtain ⟨x, hx, ex, _⟩ := H e; rw [ex] at a2; exact nI_nlt (a := 3) (by omega) (by decide) a2)] at h
    exact h
  · obtain ⟨x, hx, ex⟩ := fr_kind2 (M := 3) (n := 3) (by decide) a1 a2
    obtain ⟨b1, b2, b3⟩ := h5 r hr
    obtain ⟨c1, c2, c3⟩ := b3 x hx
    rw [ex, nI_pred, nI_clamp (by omega), b1.2, fr_16c _ b1.1 x hx]
    refine ⟨vp_in_nI hr (by omega), ?_⟩
    have hlt : fr_n (bm r) / 2 ^ x % 2 < 2 := Nat.mod_lt _ (by omega)
    refine pk_eq _ 0 (fun e0 => ?_) (fun e0 => ?_) rfl rfl (by omega) (by omega)
    · rw [fr_bf (fun H => by
        obtain ⟨x', hx', ex', hb⟩ := H e
        have : x = x' := (nI_eq (by omega) (by omega)).mp (ex.symm.trans ex')
        rw [← this] at hb
        have := c1.mpr hb
        omega)] at h
      exact h
    · rw [fr_bt (p := fr_Us bd r o) (fun _ => ⟨x, hx, ex, c1.mp (by omega)⟩)] at h
      exact h
/-! ===== test ===== -/
def fr_tOK (r : Nat) (v1 v2 v3 : Int32) (po ng ac cg tc bd : Nat → Int32) : Prop :=
  fr_n (po r) + fr_n (ng r) ≠ 0 ∧ fr_n (ac r) = 0 ∧ fr_n (tc (5 * r + (fr_n (po r) + fr_n (ng r) - 1))) < 4 ∧
  (∃ F, F < 3 ∧ v1 = nI F) ∧ (∃ H, H < 4 ∧ v2 = nI H) ∧
  (v2 = 3 → cg (5 * r + (fr_n (po r) + fr_n (ng r) - 1)) = 0 ∧ ∃ x, x < 4 ∧ v3 = nI x ∧ bd (4 * r + x) = 0) ∧
  (v2 ≠ 3 → fr_Us bd r v3)
theorem fx_test_no {post : Int32 → SX → Prop} {r : Nat} {v1 v2 v3 : Int32} (h2 : fr_R2 (r + 1) po ng cn ac cg) (h3 : fr_R3 po ng tc tt) (h5 : fr_R5 (r + 1) tc th tp bd bp bf bm) (hr : r < 4) (hno : ¬ fr_tOK r v1 v2 v3 po ng ac cg tc bd)
    (hp : post 0 (fc, md, nI (r + 1), 1, pc, nb, kd, fl, sa, po, ng, tt, ac, ha, bd, bp, bf, ck, cg, tc, tf, th, tp, aw, ak, ao, cs, ex, mx, va, ff, fv, pr)) : wpX_test post (fc, md, nI (r + 1), 1, pc, nb, kd, fl, sa, po, ng, tt, ac, ha, bd, bp, bf, ck, cg, tc, tf, th, tp, aw, ak, ao, cs, ex, mx, va, ff, fv, pr) v1 v2 v3 := by
  obtain ⟨q1, q2, q3, q4, q5, q6⟩ := h2 r hr
  have p4 := q1.1
  have m3 := q2.1
  have hin : vp_in (nI r) 4 := vp_in_nI hr (by decide)
  have hcl : (nI r).toNatClampNeg = r := nI_clamp (by omega)
  refine br_f (by decide) (br_c (fun _ => hp) (fun a1 => br_c (fun _ => hp) (fun a2 => br_c (fun _ => hp) (fun a3 => br_c (fun a4 => nm_r (nI_pred r) ⟨hin, hin, ?_⟩) (fun _ => hp)))))
  have en : po (nI r).toNatClampNeg + ng (nI r).toNatClampNeg = nI (fr_n (po r) + fr_n (ng r)) := by rw [hcl, q1.2, q2.2, nI_add]; rw [fr_nn (by omega), fr_nn (by omega)]
  rw [en]
  refine pk_eq (fr_n (po r) + fr_n (ng r)) 0 (fun _ => hp) (fun a5 => ⟨hin, br_c (fun a6 => ?_) (fun _ => hp)⟩) rfl rfl (by omega) (by omega)
  obtain ⟨i, ei⟩ : ∃ i, fr_n (po r) + fr_n (ng r) = i + 1 := ⟨fr_n (po r) + fr_n (ng r) - 1, by omega⟩
  have hi5 : i < 5 := by omega
  have h20 : vp_in (nI (5 * r + i)) 20 := vp_in_nI (by omega) (by decide)
  have hc2 : (nI (5 * r + i)).toNatClampNeg = 5 * r + i := nI_clamp (by omega)
  have ht5 := ((h3 r hr).1 i hi5).1
  rw [hcl, q4.2] at a6
  have b6 := (nI_leI (b := 0) (by have := q4.1; omega) (by omega)).mp a6
  refine nm_r (e' := nI (5 * r + i)) (by rw [ei, fr_m5, nI_add]; exact nI_pred (5 * r + i)) ⟨h20, br_c (fun a7 => ?_) (fun _ => hp)⟩
  rw [hc2, ht5.2] at a7
  have b7 := (nI_ltI (b := 4) (by have := ht5.1; omega) (by omega)).mp a7
  have hnok : ¬ ((v2 = 3 → cg (5 * r + i) = 0 ∧ ∃ x, x < 4 ∧ v3 = nI x ∧ bd (4 * r + x) = 0) ∧ (v2 ≠ 3 → fr_Us bd r v3)) := fun ⟨o1, o2⟩ => hno ⟨a5, by omega, by rw [ei]; exact b7, fr_kind (n := 3) (by omega) a1 a2, fr_kind3 (M := 3) (n := 3) (by decide) a3 a4, by rw [ei]; exact o1, o2⟩
  refine br_c (fun e3 => ⟨h20, br_c (fun a8 => ?_) (fun _ => hp)⟩) (fun e3 => fx_usable h5 hr (br_c (fun _ => hp) (fun e0 => ?_)))
  · rw [hc2] at a8
    refine br_c (fun _ => br_t rfl hp) (fun b1 => br_c (fun _ => br_t rfl hp) (fun b2 => br_f (by decide) ?_))
    obtain ⟨x, hx, exv⟩ := fr_kind (n := 4) (by omega) b1 b2
    rw [exv]
    refine fx_bound h5 hr hx (br_c (fun e0 => ?_) (fun _ => hp))
    exact absurd ⟨fun _ => ⟨a8, x, hx, exv, e0⟩, fun h => absurd e3 h⟩ hnok
  · have := fr_b0 (p := fr_Us bd r v3)
    exact absurd ⟨fun h => absurd h e3, fun _ => Classical.byContradiction (fun h => e0 (this.mpr h))⟩ hnok
theorem fy_test_no {post : Int32 → SY → Prop} {r : Nat} {v1 v2 v3 : Int32} (h2 : fr_R2 (r + 1) po ng cn ac cg) (h3 : fr_R3 po ng tc tt) (h5 : fr_R5 (r + 1) tc th tp bd bp bf bm) (hr : r < 4) (hno : ¬ fr_tOK r v1 v2 v3 po ng ac cg tc bd)
    (hp : post 0 (nI (r + 1), 1, md, pc, ht, sa, cn, po, ac, bm, ck, cg, tc, tf, th, tp, ds, wx, wy, wz, nb, kd, fl, hd, my, vs, pr)) : wpY_test post (nI (r + 1), 1, md, pc, ht, sa, cn, po, ac, bm, ck, cg, tc, tf, th, tp, ds, wx, wy, wz, nb, kd, fl, hd, my, vs, pr) v1 v2 v3 := by
  obtain ⟨q1, q2, q3, q4, q5, q6⟩ := h2 r hr
  have p4 := q1.1
  have m3 := q2.1
  have hin : vp_in (nI r) 4 := vp_in_nI hr (by decide)
  have hcl : (nI r).toNatClampNeg = r := nI_clamp (by omega)
  have en : cn (nI r).toNatClampNeg = nI (fr_n (po r) + fr_n (ng r)) := by rw [hcl, q3]
  refine nm_r (nI_pred r) (br_f (by decide) ⟨hin, pk_eq (fr_n (po r) + fr_n (ng r)) 0 (fun _ => hp) (fun a5 => ⟨hin, br_c (fun a6 => ⟨hin, ?_⟩) (fun _ => hp)⟩) en rfl (by omega) (by omega)⟩)
  obtain ⟨i, ei⟩ : ∃ i, fr_n (po r) + fr_n (ng r) = i + 1 := ⟨fr_n (po r) + fr_n (ng r) - 1, by omega⟩
  have hi5 : i < 5 := by omega
  have h20 : vp_in (nI (5 * r + i)) 20 := vp_in_nI (by omega) (by decide)
  have hc2 : (nI (5 * r + i)).toNatClampNeg = 5 * r + i := nI_clamp (by omega)
  have ht5 := ((h3 r hr).1 i hi5).1
  have ht5' := ht5.1
  rw [hcl, q4.2] at a6
  have b6 := (nI_leI (b := 0) (by have := q4.1; omega) (by omega)).mp a6
  refine nm_r (e' := nI (5 * r + i)) (by rw [en, ei, fr_5m, nI_add]; exact nI_pred (5 * r + i)) ⟨h20, pk_eq (fr_n (tc (5 * r + i))) 4 (fun _ => hp) (fun a7 => ?_) (by rw [hc2]; exact ht5.2) rfl (by omega) (by omega)⟩
  refine br_c (fun _ => hp) (fun a1 => br_c (fun _ => hp) (fun a2 => br_c (fun _ => hp) (fun a3 => br_c (fun a4 => ?_) (fun _ => hp))))
  have hnok : ¬ ((v2 = 3 → cg (5 * r + i) = 0 ∧ ∃ x, x < 4 ∧ v3 = nI x ∧ bd (4 * r + x) = 0) ∧ (v2 ≠ 3 → fr_Us bd r v3)) := fun ⟨o1, o2⟩ => hno ⟨a5, by omega, by rw [ei]; show fr_n (tc (5 * r + i)) < 4; omega, fr_kind2 (M := 2) (n := 2) (by decide) a1 a2, fr_kind3 (M := 3) (n := 3) (by decide) a3 a4, by rw [ei]; exact o1, o2⟩
  refine br_c (fun e3 => ⟨h20, br_c (fun a8 => ?_) (fun _ => hp)⟩) (fun e3 => fy_known h5 hr (br_c (fun _ => hp) (fun e0 => ?_)))
  · rw [hc2] at a8
    refine br_c (fun _ => hp) (fun b1 => br_c (fun _ => hp) (fun b2 => ⟨hin, ?_⟩))
    obtain ⟨x, hx, exv⟩ := fr_kind2 (M := 3) (n := 3) (by decide) b1 b2
    obtain ⟨c1, c2, c3⟩ := h5 r hr
    obtain ⟨d1, d2, d3⟩ := c3 x hx
    have hlt : fr_n (bm r) / 2 ^ x % 2 < 2 := Nat.mod_lt _ (by omega)
    refine pk_eq (fr_n (bm r) / 2 ^ x % 2) 0 (fun e0 => ?_) (fun _ => hp) (by rw [exv, hcl]; exact (congrArg (fun z => (z >>> (nI x &&& 31)) &&& 1) c1.2).trans (fr_16c _ c1.1 x hx)) rfl (by omega) (by omega)
    have hb0 : bd (4 * r + x) = 0 := Classical.byContradiction (fun h => by have := d1.mpr h; omega)
    exact absurd ⟨fun _ => ⟨a8, x, hx, exv, hb0⟩, fun h => absurd e3 h⟩ hnok
  · have := fr_b0 (p := fr_Us bd r v3)
    exact absurd ⟨fun h => absurd h e3, fun _ => Classical.byContradiction (fun h => e0 (this.mpr h))⟩ hnok
end
