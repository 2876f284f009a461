section
variable {fc md rl bl pc ht : Int32} {nb kd fl sa po ng tt ac ha bd bp bf ck cg tc tf th tp aw ak ao cs ex mx va ff fv pr cn bm ds wx wy wz hd my vs : Nat → Int32} {R : Nat}
theorem fr_kind {v : Int32} {n : Nat} (hn : n < 2 ^ 31) (h0 : ¬ v < 0) (h1 : ¬ nI n ≤ v) : ∃ k, k < n ∧ v = nI k := by
  rcases pk_ix v hn with h | h | h
  · exact absurd h h0
  · exact absurd h h1
  · exact h
theorem fr_kind2 {v M : Int32} {n : Nat} (hM : M.toInt = n) (h0 : ¬ v < 0) (h1 : ¬ M < v) : ∃ k, k < n + 1 ∧ v = nI k := by
  obtain ⟨j, hj, e⟩ := nI_of2 hM h0 (Int32.not_lt.mp h1)
  exact ⟨j, by omega, e⟩
theorem fr_kind3 {v M : Int32} {n : Nat} (hM : M.toInt = n) (h0 : ¬ v < 0) (h1 : v ≤ M) : ∃ k, k < n + 1 ∧ v = nI k := by
  obtain ⟨j, hj, e⟩ := nI_of2 hM h0 h1
  exact ⟨j, by omega, e⟩
theorem fr_FL_b {r : Nat} {po' ng' ck' cg' tc' tf' th' tp' bp' bf' : Nat → Int32} (h2 : fr_R2 R po ng cn ac cg) (h3 : fr_R3 po ng tc tt) (hr : r ≤ 4)
    (e1 : ∀ q, q < r → po' q = po q) (e2 : ∀ q, q < r → ng' q = ng q)
    (e3 : ∀ q, q < 5 * r → ck' q = ck q) (e4 : ∀ q, q < 5 * r → cg' q = cg q) (e5 : ∀ q, q < 5 * r → tc' q = tc q)
    (e6 : ∀ q, q < 20 * r → tf' q = tf q) (e7 : ∀ q, q < 20 * r → th' q = th q) (e8 : ∀ q, q < 20 * r → tp' q = tp q)
    (e9 : ∀ q, q < 4 * r → bp' q = bp q) (e10 : ∀ q, q < 4 * r → bf' q = bf q)
    (h : fr_FL r (fr_M nb kd fl po ng ck cg tc tf th tp bp bf) ex mx hd my) : fr_FL r (fr_M nb kd fl po' ng' ck' cg' tc' tf' th' tp' bp' bf') ex mx hd my :=
  fr_FL_c h (fun y hy => fr_M_c hy (by have := (h2 (y / 216) (by omega)).1.1; have := (h2 (y / 216) (by omega)).2.1.1; omega)
    (fun i hi => by have := ((h3 (y / 216) (by omega)).1 i hi).1.1; omega) e1 e2 e3 e4 e5 e6 e7 e8 e9 e10)
/-! ===== condition ===== -/
def fr_cOK (r : Nat) (v1 g : Int32) (po ng ac : Nat → Int32) : Prop :=
  (∃ k, k < 4 ∧ v1 = nI k) ∧ fr_n (ac r) = 0 ∧ (g = 0 → fr_n (po r) < 3) ∧ (g ≠ 0 → fr_n (ng r) < 2)
theorem fx_cond_no {post : Int32 → SX → Prop} {r : Nat} {v1 g : Int32} (h2 : fr_R2 (r + 1) po ng cn ac cg) (hr : r < 4) (hno : ¬ fr_cOK r v1 g po ng ac)
    (hp : post 0 (fc, md, nI (r + 1), 1, pc, nb, kd, fl, sa, po, ng, tt, ac, ha, bd, bp, bf, ck, cg, tc, tf, th, tp, aw, ak, ao, cs, ex, mx, va, ff, fv, pr)) : wpX_condition post (fc, md, nI (r + 1), 1, pc, nb, kd, fl, sa, po, ng, tt, ac, ha, bd, bp, bf, ck, cg, tc, tf, th, tp, aw, ak, ao, cs, ex, mx, va, ff, fv, pr) v1 g := by
  obtain ⟨q1, q2, q3, q4, q5, q6⟩ := h2 r hr
  have hin : vp_in (nI r) 4 := vp_in_nI hr (by decide)
  have hcl : (nI r).toNatClampNeg = r := nI_clamp (by omega)
  refine br_f (by decide) (br_c (fun _ => br_t rfl hp) (fun a1 => br_c (fun _ => br_t rfl hp) (fun a2 => br_f (by decide) (nm_r (nI_pred r) (br_c (fun g0 => ⟨hin, ?_⟩) (fun g0 => ⟨hin, ?_⟩))))))
  · rw [hcl]
    refine br_c (fun a3 => br_t rfl ⟨hin, br_c (fun a4 => ?_) (fun _ => hp)⟩) (fun _ => br_f (by decide) hp)
    rw [hcl] at a4
    rw [q4.2] at a4
    rw [q1.2] at a3
    have b4 := (nI_leI (b := 0) (by have := q4.1; omega) (by omega)).mp a4
    have b3 := (nI_ltI (b := 3) (by have := q1.1; omega) (by omega)).mp a3
    exact absurd ⟨fr_kind (n := 4) (by omega) a1 a2, by omega, fun _ => b3, fun h => absurd g0 h⟩ hno
  · rw [hcl]
    refine br_c (fun a3 => br_t rfl ⟨hin, br_c (fun a4 => ?_) (fun _ => hp)⟩) (fun _ => br_f (by decide) hp)
    rw [hcl] at a4
    rw [q4.2] at a4
    rw [q2.2] at a3
    have b4 := (nI_leI (b := 0) (by have := q4.1; omega) (by omega)).mp a4
    have b3 := (nI_ltI (b := 2) (by have := q2.1; omega) (by omega)).mp a3
    exact absurd ⟨fr_kind (n := 4) (by omega) a1 a2, by omega, fun h => absurd h g0, fun _ => b3⟩ hno
theorem fy_cond_no {post : Int32 → SY → Prop} {r : Nat} {v1 g : Int32} (h2 : fr_R2 (r + 1) po ng cn ac cg) (hr : r < 4) (hno : ¬ fr_cOK r v1 g po ng ac)
    (hp : post 0 (nI (r + 1), 1, md, pc, ht, sa, cn, po, ac, bm, ck, cg, tc, tf, th, tp, ds, wx, wy, wz, nb, kd, fl, hd, my, vs, pr)) : wpY_condition post (nI (r + 1), 1, md, pc, ht, sa, cn, po, ac, bm, ck, cg, tc, tf, th, tp, ds, wx, wy, wz, nb, kd, fl, hd, my, vs, pr) v1 g := by
  obtain ⟨q1, q2, q3, q4, q5, q6⟩ := h2 r hr
  have hin : vp_in (nI r) 4 := vp_in_nI hr (by decide)
  have hcl : (nI r).toNatClampNeg = r := nI_clamp (by omega)
  have p4 := q1.1
  have m3 := q2.1
  refine nm_r (nI_pred r) (br_f (by decide) (br_c (fun _ => hp) (fun a1 => br_c (fun _ => hp) (fun a2 => ⟨hin, br_c (fun a4 => ?_) (fun _ => hp)⟩))))
  rw [hcl] at a4
  rw [q4.2] at a4
  have b4 := (nI_leI (b := 0) (by have := q4.1; omega) (by omega)).mp a4
  refine br_c (fun g0 => ⟨hin, br_c (fun _ => hp) (fun a3 => ?_)⟩) (fun g0 => ⟨hin, hin, br_c (fun _ => hp) (fun a3 => ?_)⟩)
  · rw [hcl, q1.2] at a3
    have b3 : fr_n (po r) ≠ 3 := fun e => a3 (by rw [e]; rfl)
    exact absurd ⟨fr_kind2 (M := 3) (n := 3) (by decide) a1 a2, by omega, fun _ => by omega, fun h => absurd g0 h⟩ hno
  · rw [hcl, q3, q1.2] at a3
    have b3 : fr_n (ng r) ≠ 2 := fun e => a3 (by rw [fr_nn (by omega), pk_sub (by omega), Nat.add_sub_cancel_left, e]; rfl)
    exact absurd ⟨fr_kind2 (M := 3) (n := 3) (by decide) a1 a2, by omega, fun h => absurd h g0, fun _ => by omega⟩ hno
theorem fx_cond {post : Int32 → SX → Prop} {r k p m : Nat} {g : Int32} (hr : r < 4) (hk : k < 4) (ep : po r = nI p) (em : ng r = nI m) (ea : ac r = 0) (hg : g = 0 ∨ g = 1)
    (hp3 : g = 0 → p < 3) (hm2 : g ≠ 0 → m < 2) (hp4 : p < 4) (hm3 : m < 3)
    (h0 : g = 0 → post 1 (fc, md, nI (r + 1), 1, pc, nb, kd, fl, sa, upd po r (nI (p + 1)), ng, tt, ac, ha, bd, bp, bf, upd ck (5 * r + (p + m)) (nI k), upd cg (5 * r + (p + m)) g, tc, tf, th, tp, aw, ak, ao, cs, ex, mx, va, ff, fv, pr))
    (h1 : g ≠ 0 → post 1 (fc, md, nI (r + 1), 1, pc, nb, kd, fl, sa, po, upd ng r (nI (m + 1)), tt, ac, ha, bd, bp, bf, upd ck (5 * r + (p + m)) (nI k), upd cg (5 * r + (p + m)) g, tc, tf, th, tp, aw, ak, ao, cs, ex, mx, va, ff, fv, pr)) :
    wpX_condition post (fc, md, nI (r + 1), 1, pc, nb, kd, fl, sa, po, ng, tt, ac, ha, bd, bp, bf, ck, cg, tc, tf, th, tp, aw, ak, ao, cs, ex, mx, va, ff, fv, pr) (nI k) g := by
  have hin : vp_in (nI r) 4 := vp_in_nI hr (by decide)
  have hcl : (nI r).toNatClampNeg = r := nI_clamp (by omega)
  have h60 : wX_condition_60 post (nI k) g (nI r) 0 fc md (nI (r + 1)) 1 pc nb kd fl sa po ng tt ac ha bd bp bf ck cg tc tf th tp aw ak ao cs ex mx va ff fv pr := by
    have hin2 : vp_in (nI (5 * r + (p + m))) 20 ∨ ¬ (p + m < 5) := by
      by_cases h5 : p + m < 5
      · exact Or.inl (vp_in_nI (by omega) (by decide))
      · exact Or.inr h5
    have hpm : p + m < 5 := by
      rcases hg with e | e
      · have := hp3 e; omega
      · have := hm2 (by rw [e]; decide); omega
    have h20 : vp_in (nI (5 * r + (p + m))) 20 := vp_in_nI (by omega) (by decide)
    have hc2 : (nI (5 * r + (p + m))).toNatClampNeg = 5 * r + (p + m) := nI_clamp (by omega)
    have hvb : vp_nar .boolean g = g := by
      rcases hg with e | e
      · rw [e, ← fr_bf (p := False) id, fr_bv]
      · rw [e, fr_b1]
    refine br_t rfl ⟨hin, br_t (by rw [hcl, ea]; exact Int32.le_refl _) ⟨hin, hin, nm_r (e' := nI (5 * r + (p + m))) (by rw [hcl, ep, em, nI_add, fr_m5, nI_add]) ⟨h20, nm_r (e' := upd ck (5 * r + (p + m)) (nI k)) (by rw [hc2]) ⟨h20, nm_r (e' := upd cg (5 * r + (p + m)) g) (by rw [hc2, hvb]) ?_⟩⟩⟩⟩
    refine br_c (fun e => ⟨hin, hin, nm_r (e' := upd po r (nI (p + 1))) (by rw [hcl, ep, nI_1]) (h0 e)⟩) (fun e => ⟨hin, hin, nm_r (e' := upd ng r (nI (m + 1))) (by rw [hcl, em, nI_1]) (h1 e)⟩)
  refine br_f (by decide) (br_f (nI_pos (by omega)) (br_f (nI_ge (b := 4) hk (by decide)) (br_f (by decide) (nm_r (nI_pred r) (br_c (fun e => ⟨hin, br_t ?_ h60⟩) (fun e => ⟨hin, br_t ?_ h60⟩))))))
  · rw [hcl, ep]; exact nI_lt (b := 3) (hp3 e) (by decide)
  · rw [hcl, em]; exact nI_lt (b := 2) (hm2 e) (by decide)
theorem fy_cond {post : Int32 → SY → Prop} {r k p m : Nat} {g : Int32} (hr : r < 4) (hk : k < 4) (ep : po r = nI p) (em : cn r = nI (p + m)) (ea : ac r = 0) (hg : g = 0 ∨ g = 1)
    (hp3 : g = 0 → p < 3) (hm2 : g ≠ 0 → m < 2) (hp4 : p < 4) (hm3 : m < 3) (et : p + m < 5 → tc (5 * r + (p + m)) = 0)
    (h0 : g = 0 → post 1 (nI (r + 1), 1, md, pc, ht, sa, upd cn r (nI (p + m + 1)), upd po r (nI (p + 1)), ac, bm, upd ck (5 * r + (p + m)) (nI k), upd cg (5 * r + (p + m)) g, tc, tf, th, tp, ds, wx, wy, wz, nb, kd, fl, hd, my, vs, pr))
    (h1 : g ≠ 0 → post 1 (nI (r + 1), 1, md, pc, ht, sa, upd cn r (nI (p + m + 1)), po, ac, bm, upd ck (5 * r + (p + m)) (nI k), upd cg (5 * r + (p + m)) g, tc, tf, th, tp, ds, wx, wy, wz, nb, kd, fl, hd, my, vs, pr)) :
    wpY_condition post (nI (r + 1), 1, md, pc, ht, sa, cn, po, ac, bm, ck, cg, tc, tf, th, tp, ds, wx, wy, wz, nb, kd, fl, hd, my, vs, pr) (nI k) g := by
  have hin : vp_in (nI r) 4 := vp_in_nI hr (by decide)
  have hcl : (nI r).toNatClampNeg = r := nI_clamp (by omega)
  have h70 : wY_condition_70 post (nI k) g (nI r) (nI (r + 1)) 1 md pc ht sa cn po ac bm ck cg tc tf th tp ds wx wy wz nb kd fl hd my vs pr := by
    have hpm : p + m < 5 := by
      rcases hg with e | e
      · have := hp3 e; omega
      · have := hm2 (by rw [e]; decide); omega
    have h20 : vp_in (nI (5 * r + (p + m))) 20 := vp_in_nI (by omega) (by decide)
    have hc2 : (nI (5 * r + (p + m))).toNatClampNeg = 5 * r + (p + m) := nI_clamp (by omega)
    have hvb : vp_nar .boolean g = g := by
      rcases hg with e | e
      · rw [e, ← fr_bf (p := False) id, fr_bv]
      · rw [e, fr_b1]
    refine ⟨hin, hin, nm_r (e' := upd cn r (nI (p + m + 1))) (by rw [hcl, em, nI_1, fr_8 (by omega)]) (nm_r (e' := nI (5 * r + (p + m))) (by rw [hcl, em, fr_5m, nI_add]) ⟨h20, nm_r (e' := upd ck (5 * r + (p + m)) (nI k)) (by rw [hc2, fr_8 (by omega)]) ⟨h20, nm_r (e' := upd cg (5 * r + (p + m)) g) (by rw [hc2, hvb]) ⟨h20, nm_r (e' := tc) (by rw [hc2, fr_80]; exact fr_us (et hpm)) ?_⟩⟩⟩)⟩
    refine br_c (fun e => ⟨hin, hin, nm_r (e' := upd po r (nI (p + 1))) (by rw [hcl, ep, nI_1, fr_8 (by omega)]) (h0 e)⟩) (fun e => h1 e)
  refine nm_r (nI_pred r) (br_f (by decide) (br_f (nI_pos (by omega)) (br_f (nI_nlt (a := 3) (by omega) (by decide)) ⟨hin, br_t (by rw [hcl, ea]; exact Int32.le_refl _) (br_c (fun e => ⟨hin, br_f ?_ h70⟩) (fun e => ⟨hin, hin, br_f ?_ h70⟩))⟩)))
  · rw [hcl, ep]
    intro e3
    have := (nI_eq (a := p) (b := 3) (by omega) (by omega)).mp e3
    have := hp3 e
    omega
  · rw [hcl, ep, em, pk_sub (by omega), Nat.add_sub_cancel_left]
    intro e3
    have := (nI_eq (a := m) (b := 2) (by omega) (by omega)).mp e3
    have := hm2 e
    omega
theorem i_vc_condition {k : Nat} {u : SX} {v : SY} (I : i_Rel k u v) (hk : k + 5 ≤ 2560) (v1 : Int32) (v2 : Int32) : wpX_condition (fun r u' => wpY_condition (fun r' v' => r' = r ∧ i_Rel (k + 5) u' v') v v1 (lw_bz v2)) u v1 (lw_bz v2) := by
  have up := i_up I
  obtain ⟨R, B, fc, md, rl, bl, pc, ht, nb, kd, fl, sa, po, ng, tt, ac, ha, bd, bp, bf, ck, cg, tc, tf, th, tp, aw, ak, ao, cs, ex, mx, va, ff, fv, pr, cn, bm, ds, wx, wy, wz, hd, my, vs, rfl, rfl, h1, rfl, h3, rfl, h5, h6, h7, h8, h9⟩ := I
  rcases (show B = 0 ∨ B = 1 by omega) with rfl | rfl
  · exact br_t nI_0 (nm_e (br_t nI_0 ⟨rfl, up⟩))
  · obtain ⟨r, rfl⟩ : ∃ r, R = r + 1 := ⟨R - 1, by omega⟩
    have hr : r < 4 := by omega
    generalize hg : lw_bz v2 = g
    have hg01 : g = 0 ∨ g = 1 := hg ▸ lw_bz_01 v2
    by_cases ok : fr_cOK r v1 g po ng ac
    · obtain ⟨⟨kk, hkk, rfl⟩, oa, op, om⟩ := ok
      obtain ⟨q1, q2, q3, q4, q5, q6⟩ := h6.1 r hr
      have ea : ac r = 0 := by rw [q4.2, oa]; rfl
      obtain ⟨p, hp4, ep, np⟩ := fr_Lt_ex q1
      obtain ⟨m, hm3, em, nm⟩ := fr_Lt_ex q2
      rw [np] at op
      rw [nm] at om
      rw [np, nm] at q3
      have h3r := h6.2.1 r hr
      have et : p + m < 5 → tc (5 * r + (p + m)) = 0 := fun hl => (h3r.1 (p + m) hl).2 (by rw [np, nm]; exact Nat.le_refl _)
      have hFL : fr_FL r (fr_M nb kd fl po ng ck cg tc tf th tp bp bf) ex mx hd my := h9
      refine fx_cond hr hkk ep em ea hg01 op om hp4 hm3 (fun e0 => ?_) (fun e0 => ?_)
      · refine fy_cond hr hkk ep q3 ea hg01 op om hp4 hm3 et (fun _ => ⟨rfl, ?_⟩) (fun e1 => absurd e0 e1)
        have := op e0
        refine fr_mk (B := 1) ⟨h1, rfl, h3, rfl, h5, fr_cond (p' := p + 1) (m' := m) h6 rfl hr np nm (by omega) (by omega) (by omega) (by rw [if_pos e0]) pk_us em (by rw [pk_us]; exact congrArg nI (by omega)) (fun q hq => pk_un hq) (fun _ _ => rfl) (fun q hq => pk_un hq), h7, fr_FB_up h8 (by omega), ?_⟩
        exact fr_FL_b h6.1 h6.2.1 (by omega) (fun q hq => pk_un (by omega)) (fun _ _ => rfl) (fun q hq => pk_un (by omega)) (fun q hq => pk_un (by omega)) (fun _ _ => rfl) (fun _ _ => rfl) (fun _ _ => rfl) (fun _ _ => rfl) (fun _ _ => rfl) (fun _ _ => rfl) hFL
      · refine fy_cond hr hkk ep q3 ea hg01 op om hp4 hm3 et (fun e1 => absurd e1 e0) (fun _ => ⟨rfl, ?_⟩)
        have := om e0
        refine fr_mk (B := 1) ⟨h1, rfl, h3, rfl, h5, fr_cond (p' := p) (m' := m + 1) h6 rfl hr np nm (by omega) (by omega) (by omega) (by rw [if_neg e0]; rfl) ep pk_us (by rw [pk_us]; rfl) (fun _ _ => rfl) (fun q hq => pk_un hq) (fun q hq => pk_un hq), h7, fr_FB_up h8 (by omega), ?_⟩
        exact fr_FL_b h6.1 h6.2.1 (by omega) (fun _ _ => rfl) (fun q hq => pk_un (by omega)) (fun q hq => pk_un (by omega)) (fun q hq => pk_un (by omega)) (fun _ _ => rfl) (fun _ _ => rfl) (fun _ _ => rfl) (fun _ _ => rfl) (fun _ _ => rfl) (fun _ _ => rfl) hFL
    · exact fx_cond_no h6.1 hr ok (fy_cond_no h6.1 hr ok ⟨rfl, up⟩)
end
