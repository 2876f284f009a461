section
variable {fc md rl bl pc ht : Int32} {nb kd fl sa po ng tt ac ha bd bp bf ck cg tc tf th tp aw ak ao cs ex mx va ff fv pr cn bm ds wx wy wz hd my vs : Nat → Int32} {R : Nat}
/-! ===== the component performs an action ===== -/
theorem fx_perf {post : SX → Prop} {z w : Nat} (hz : z < 16) (hw : w < 4) (e1 : aw z = nI w)
    (h0 : w = 0 → vp_in (ao (3 * z)) 3 ∧ wpX_eraseFact (fun r u => match u with | (fc, md, rl, bl, pc, nb, kd, fl, sa, po, ng, tt, ac, ha, bd, bp, bf, ck, cg, tc, tf, th, tp, aw, ak, ao, cs, ex, mx, va, ff, fv, pr) => post (fc, md, rl, bl, pc, nb, kd, fl, sa, po, ng, tt, ac, ha, bd, bp, bf, ck, cg, tc, tf, th, tp, aw, ak, ao, cs, ex, mx, va, ff, fv, pr)) (fc, md, rl, bl, pc, nb, kd, fl, sa, po, ng, tt, ac, ha, bd, bp, bf, ck, cg, tc, tf, th, tp, aw, ak, ao, cs, ex, mx, va, ff, fv, pr) (ff (ao (3 * z)).toNatClampNeg))
    (h1 : w = 1 → post (fc, md, rl, bl, pc + 1, nb, kd, fl, sa, po, ng, tt, ac, ha, bd, bp, bf, ck, cg, tc, tf, th, tp, aw, ak, ao, cs, ex, mx, va, ff, fv, upd pr (pc &&& 15).toNatClampNeg (fr_ov fv (ao (3 * z)))))
    (h2 : w = 2 → post (fc, md, rl, bl, pc, nb, kd, fl, sa, po, ng, tt, ac, ha, bd, bp, bf, ck, cg, tc, tf, th, tp, aw, ak, ao, cs, ex, mx, va, ff, fv, pr))
    (h3 : w = 3 → wpX_storeFact (fun r u => match u with | (fc, md, rl, bl, pc, nb, kd, fl, sa, po, ng, tt, ac, ha, bd, bp, bf, ck, cg, tc, tf, th, tp, aw, ak, ao, cs, ex, mx, va, ff, fv, pr) => post (fc, md, rl, bl, pc, nb, kd, fl, sa, po, ng, tt, ac, ha, bd, bp, bf, ck, cg, tc, tf, th, tp, aw, ak, ao, cs, ex, mx, va, ff, fv, pr)) (fc, md, rl, bl, pc, nb, kd, fl, sa, po, ng, tt, ac, ha, bd, bp, bf, ck, cg, tc, tf, th, tp, aw, ak, ao, cs, ex, mx, va, ff, fv, pr) (ak z) (fr_ov fv (ao (3 * z))) (fr_ov fv (ao (3 * z + 1))) (fr_ov fv (ao (3 * z + 2)))) :
    wpX_perform post (fc, md, rl, bl, pc, nb, kd, fl, sa, po, ng, tt, ac, ha, bd, bp, bf, ck, cg, tc, tf, th, tp, aw, ak, ao, cs, ex, mx, va, ff, fv, pr) (nI z) := by
  have e0 : nI z * 3 = nI (3 * z) := fr_m3 _
  have c0 : (nI (3 * z)).toNatClampNeg = 3 * z := nI_clamp (by omega)
  have cz : (nI z).toNatClampNeg = z := nI_clamp (by omega)
  have h16 : vp_in (nI z) 16 := vp_in_nI hz (by decide)
  refine ⟨by rw [e0]; exact vp_in_nI (by omega) (by decide), nm_r (e' := ao (3 * z)) (by rw [e0, c0]) ⟨h16, nm_r (e' := nI w) (by rw [cz, e1]) (br_f (nI_pos (by omega)) (br_f (nI_nlt (a := 3) (by omega) (by decide)) ?_))⟩⟩
  match w, hw, e1, h0, h1, h2, h3 with
  | 0, _, _, h0, _, _, _ => exact br_t nI_0 (h0 rfl)
  | 1, _, _, _, h1, _, _ => exact br_f (by decide) (br_t rfl (fx_value_f ⟨pk_andIn _ 4 (by decide) (by decide), nm_e (nm_e (h1 rfl))⟩))
  | 2, _, _, _, _, h2, _ => exact br_f (by decide) (br_f (by decide) (br_t rfl (h2 rfl)))
  | 3, _, _, _, _, _, h3 =>
    refine br_f (by decide) (br_f (by decide) (br_f (by decide) (br_t rfl ?_)))
    have ea : nI (3 * z) + 1 = nI (3 * z + 1) := nI_1 _
    have eb : nI (3 * z) + 2 = nI (3 * z + 2) := nI_add _ 2
    refine nm_r e0 ⟨vp_in_nI (by omega) (by decide), ?_⟩
    rw [c0]
    refine fx_value_f ⟨by rw [ea]; exact vp_in_nI (by omega) (by decide), ?_⟩
    rw [ea, nI_clamp (n := 3 * z + 1) (by omega)]
    refine fx_value_f ⟨by rw [eb]; exact vp_in_nI (by omega) (by decide), ?_⟩
    rw [eb, nI_clamp (n := 3 * z + 2) (by omega)]
    refine fx_value_f ⟨h16, ?_⟩
    rw [cz]
    exact h3 rfl
theorem fx_begin {x : Nat} (hcs : fr_CS cs) (hp : ∀ r, r < 4 → fr_Lt (po r) 4) (hb : ∀ f, f < 6 → nb f = nI (fr_n (nb f))) (h5 : fr_R5 R tc th tp bd bp bf bm) (hx : x < 864) :
    ∃ ff' fv' : Nat → Int32, (∀ j, j < 3 → ff' j = nI (fr_gv nb po (fr_sg x) j)) ∧ (∀ z, z < 4 → bd (4 * (x / 216) + z) ≠ 0 → fv' z = fr_val bp bf fl (fr_sg x) z) ∧
      ∀ post : SX → Prop, post (fc, md, rl, bl, pc, nb, kd, fl, sa, po, ng, tt, ac, ha, bd, bp, bf, ck, cg, tc, tf, th, tp, aw, ak, ao, cs, ex, upd mx x 1, va, ff', fv', pr) → wpX_beginFiring post (fc, md, rl, bl, pc, nb, kd, fl, sa, po, ng, tt, ac, ha, bd, bp, bf, ck, cg, tc, tf, th, tp, aw, ak, ao, cs, ex, mx, va, ff, fv, pr) (nI x) := by
  obtain ⟨w, hw, hW⟩ := fx_read_f (fc := fc) (md := md) (rl := rl) (bl := bl) (pc := pc) (nb := nb) (kd := kd) (fl := fl) (sa := sa) (po := po) (ng := ng) (tt := tt) (ac := ac) (ha := ha) (bd := bd) (bp := bp) (bf := bf) (ck := ck) (cg := cg) (tc := tc) (tf := tf) (th := th) (tp := tp) (aw := aw) (ak := ak) (ao := ao) (cs := cs) (ex := ex) (mx := upd mx x 1) (va := va) (ff := ff) (fv := fv) (pr := pr) hcs h5 hx
  have key := fr_exl (σ := Nat → Int32) (Q := SX → Prop) (fun P n j a => wX_beginFiring_18 P (nI x) fc md rl bl pc n (nI j) nb kd fl sa po ng tt ac ha bd bp bf ck cg tc tf th tp aw ak ao cs ex (upd mx x 1) va a w pr)
    (fun j a => ∀ j', j' < j → a j' = nI (fr_gv nb po (fr_sg x) j')) 3 (fun j a hj hI => by
      refine ⟨upd a j (nI (fr_gv nb po (fr_sg x) j)), fun j' hj' => ?_, fun P n hk => br_f (nI_ge (b := 3) hj (by decide)) (fx_given hcs hp hb hx hj ⟨vp_in_nI hj (by decide), nm_r (e' := upd a j (nI (fr_gv nb po (fr_sg x) j))) (by rw [nI_clamp (by omega)]) (nm_r (nI_1 j) hk)⟩)⟩
      by_cases e : j' = j
      · rw [e, pk_us]
      · rw [pk_un e]; exact hI j' (by omega)) ff (fun j h => absurd h (Nat.not_lt_zero j))
  obtain ⟨ff', hf, hWf⟩ := key
  refine ⟨ff', w, hf, hw, fun post hp => ⟨vp_in_nI hx (by decide), nm_r (e' := upd mx x 1) (by rw [nI_clamp (by omega), fr_b1]) (hW _ ⟨1 + 3, hWf post 1 ?_⟩)⟩⟩
  exact br_t (nI_le (a := 3) (b := 3) (by omega) (by decide)) hp
/-! ===== the reference's actions: with w, the variables set anew ===== -/
abbrev fr_vq (vs : Nat → Int32) (v0 v1 v2 v3 : Int32) : Nat → Int32 := upd (upd (upd (upd vs 0 v0) 1 v1) 2 v2) 3 v3
theorem fy_72_in {post : SY → Prop} {r s a n : Nat} {xa xb xc v0 v1 v2 v3 : Int32} (hr : r < 4) (ea : ac r = nI a) (ha4 : a ≤ 4) (hs : s < a)
    (h0 : ds (4 * r + s) = 0 → wY_fire_161 post (wY_fire_72 post (nI r) xa xb xc v0 v1 v2 v3 n) (nI r) xa xb xc v0 v1 v2 v3 (nI (4 * r + s)) (wx (4 * r + s)) rl bl md pc ht sa cn po ac bm ck cg tc tf th tp ds wx wy wz nb kd fl hd my (fr_vq vs v0 v1 v2 v3) pr)
    (h2 : ds (4 * r + s) = 2 → wY_fire_161 post (wY_fire_72 post (nI r) xa xb xc v0 v1 v2 v3 n) (nI r) xa xb xc v0 v1 v2 v3 (nI (4 * r + s)) (wx (4 * r + s)) rl bl md pc ht sa cn po ac bm ck cg tc tf th tp ds wx wy wz nb kd fl hd my (fr_vq vs v0 v1 v2 v3) pr)
    (h1 : ds (4 * r + s) ≠ 0 → ds (4 * r + s) ≠ 2 → (wx (4 * r + s) &&& 1 ≠ 0 → ∃ x, x < 4 ∧ wx (4 * r + s) >>> ((1 : Int32) &&& 31) = nI x) ∧ wY_fire_161 post (wY_fire_72 post (nI r) xa xb xc v0 v1 v2 v3 n) (nI r) xa xb xc v0 v1 v2 v3 (nI (4 * r + s)) (fr_ov (fr_vq vs v0 v1 v2 v3) (wx (4 * r + s))) rl bl md pc ht sa cn po ac bm ck cg tc tf th tp ds wx wy wz nb kd fl hd my (fr_vq vs v0 v1 v2 v3) pr) :
    wY_fire_72 post (nI r) xa xb xc v0 v1 v2 v3 (n + 1) (nI (4 * r + s)) rl bl md pc ht sa cn po ac bm ck cg tc tf th tp ds wx wy wz nb kd fl hd my vs pr := by
  have h16 : vp_in (nI (4 * r + s)) 16 := vp_in_nI (by omega) (by decide)
  have hcl : (nI (4 * r + s)).toNatClampNeg = 4 * r + s := nI_clamp (by omega)
  have hle : ¬ (4 * nI r + ac (nI r).toNatClampNeg ≤ nI (4 * r + s)) := by
    rw [nI_clamp (by omega), ea, fr_4m, nI_add]
    exact nI_ge (by omega) (by omega)
  refine ⟨vp_in_nI hr (by decide), br_f hle (nm_e (nm_e (nm_e (nm_e ⟨h16, ?_⟩))))⟩
  rw [hcl]
  refine br_c (fun e => ⟨h16, ?_⟩) (fun e => ⟨h16, br_c (fun e2 => ⟨h16, ?_⟩) (fun e2 => ⟨h16, fy_value (h1 e e2).1 (h1 e e2).2⟩)⟩)
  · rw [hcl]; exact h0 e
  · rw [hcl]; exact h2 e2
end
