section
variable {fc md rl bl pc ht : Int32} {nb kd fl sa po ng tt ac ha bd bp bf ck cg tc tf th tp aw ak ao cs ex mx va ff fv pr cn bm ds wx wy wz hd my vs : Nat → Int32} {R : Nat}
/-! ===== the relation ===== -/
def fr_INV (b R B : Nat) (fc md rl bl : Int32) (nb kd fl po ng cn ac tt ha bd bp bf bm ck cg tc tf th tp aw ak ao ds wx wy wz cs ex mx hd my : Nat → Int32) : Prop :=
  R ≤ 4 ∧ rl = nI R ∧ B ≤ 1 ∧ bl = nI B ∧ B ≤ R ∧ fr_RB R po ng cn ac tt ha bd bp bf bm cg tc tf th tp aw ak ao ds wx wy wz ∧ fr_CS cs ∧ fr_FB b fc md nb ∧ fr_FL (R - B) (fr_M nb kd fl po ng ck cg tc tf th tp bp bf) ex mx hd my
def fr_Rel (b : Nat) (u : SX) (v : SY) : Prop :=
  ∃ (R B : Nat) (fc md rl bl pc ht : Int32) (nb kd fl sa po ng tt ac ha bd bp bf ck cg tc tf th tp aw ak ao cs ex mx va ff fv pr cn bm ds wx wy wz hd my vs : Nat → Int32),  u = (fc, md, rl, bl, pc, nb, kd, fl, sa, po, ng, tt, ac, ha, bd, bp, bf, ck, cg, tc, tf, th, tp, aw, ak, ao, cs, ex, mx, va, ff, fv, pr) ∧ v = (rl, bl, md, pc, ht, sa, cn, po, ac, bm, ck, cg, tc, tf, th, tp, ds, wx, wy, wz, nb, kd, fl, hd, my, vs, pr) ∧ fr_INV b R B fc md rl bl nb kd fl po ng cn ac tt ha bd bp bf bm ck cg tc tf th tp aw ak ao ds wx wy wz cs ex mx hd my
theorem fr_mk {b B : Nat} (h : fr_INV b R B fc md rl bl nb kd fl po ng cn ac tt ha bd bp bf bm ck cg tc tf th tp aw ak ao ds wx wy wz cs ex mx hd my) : fr_Rel b (fc, md, rl, bl, pc, nb, kd, fl, sa, po, ng, tt, ac, ha, bd, bp, bf, ck, cg, tc, tf, th, tp, aw, ak, ao, cs, ex, mx, va, ff, fv, pr) (rl, bl, md, pc, ht, sa, cn, po, ac, bm, ck, cg, tc, tf, th, tp, ds, wx, wy, wz, nb, kd, fl, hd, my, vs, pr) := ⟨_, _, _, _, _, _, _, _, _, _, _, _, _, _, _, _, _, _, _, _, _, _, _, _, _, _, _, _, _, _, _, _, _, _, _, _, _, _, _, _, _, _, _, _, _, rfl, rfl, h⟩
theorem fr_up {b b' : Nat} {u : SX} {v : SY} (h : fr_Rel b u v) (hb : b ≤ b') : fr_Rel b' u v := by
  obtain ⟨R, B, fc, md, rl, bl, pc, ht, nb, kd, fl, sa, po, ng, tt, ac, ha, bd, bp, bf, ck, cg, tc, tf, th, tp, aw, ak, ao, cs, ex, mx, va, ff, fv, pr, cn, bm, ds, wx, wy, wz, hd, my, vs, e1, e2, h1, h2, h3, h4, h5, h6, h7, h8, h9⟩ := h
  exact ⟨R, B, fc, md, rl, bl, pc, ht, nb, kd, fl, sa, po, ng, tt, ac, ha, bd, bp, bf, ck, cg, tc, tf, th, tp, aw, ak, ao, cs, ex, mx, va, ff, fv, pr, cn, bm, ds, wx, wy, wz, hd, my, vs, e1, e2, h1, h2, h3, h4, h5, h6, h7, fr_FB_up h8 hb, h9⟩
def i_Rel (k : Nat) (u : SX) (v : SY) : Prop := fr_Rel (16 * k) u v
theorem i_up {k : Nat} {u : SX} {v : SY} (h : i_Rel k u v) : i_Rel (k + 5) u v := fr_up h (by omega)
theorem fr_8 {x : Nat} (h : x < 128) : vp_nar .byte (nI x).toInt8.toInt32 = nI x := by
  rw [show (nI x).toInt8.toInt32 = nI x from lg_i2b_small (by rw [nI_toInt (by omega)]; omega) (by rw [nI_toInt (by omega)]; omega)]
  exact fr_n8 h
theorem fr_80 : vp_nar .byte 0 = 0 := fr_n8 (x := 0) (by omega)
theorem fr_b8 {x : Int32} (h1 : ¬ x < -9) (h2 : x ≤ 9) : vp_nar .byte x.toInt8.toInt32 = x := by
  have e1 : (-9 : Int32).toInt = -9 := by decide
  have e2 : (9 : Int32).toInt = 9 := by decide
  rw [Int32.lt_iff_toInt_lt, e1] at h1
  rw [Int32.le_iff_toInt_le, e2] at h2
  have e : x.toInt8.toInt32 = x := lg_i2b_small (by omega) (by omega)
  rw [e, vp_nar_byte, e]
theorem fr_bz (v : Int32) : vp_nar .boolean (lw_bz v) = lw_bz v := by
  unfold vp_nar; rw [lw_bz_n]
theorem fr_b1 : vp_nar .boolean 1 = 1 := by rw [← fr_bt (p := True) trivial, fr_bv]
/-! ===== rule ===== -/
theorem i_vc_rule {k : Nat} {u : SX} {v : SY} (I : i_Rel k u v) (hk : k + 5 ≤ 2560) (v1 : Int32) : wpX_rule (fun r u' => wpY_rule (fun r' v' => r' = r ∧ i_Rel (k + 5) u' v') v v1) u v1 := by
  have up := i_up I
  obtain ⟨R, B, fc, md, rl, bl, pc, ht, nb, kd, fl, sa, po, ng, tt, ac, ha, bd, bp, bf, ck, cg, tc, tf, th, tp, aw, ak, ao, cs, ex, mx, va, ff, fv, pr, cn, bm, ds, wx, wy, wz, hd, my, vs, rfl, rfl, h1, rfl, h3, rfl, h5, h6, h7, h8, h9⟩ := I
  rcases (show B = 0 ∨ B = 1 by omega) with rfl | rfl
  · by_cases hl : R < 4
    · have hx4 : nI R < 4 := nI_lt (b := 4) hl (by decide)
      have hn4 : ¬ nI R = 4 := fun e => by
        have := (nI_eq (a := R) (b := 4) (by omega) (by omega)).mp e
        omega
      by_cases g1 : v1 < -9
      · exact br_t nI_0 (br_t hx4 (br_t g1 (br_t nI_0 (br_f hn4 (br_t g1 ⟨rfl, up⟩)))))
      · by_cases g2 : v1 ≤ 9
        · have hin : vp_in (nI R) 4 := vp_in_nI hl (by decide)
          have hcl : (nI R).toNatClampNeg = R := nI_clamp (by omega)
          obtain ⟨q1, q2, q3, q4, q5, q6⟩ := h6.1 R hl
          obtain ⟨z1, z2, z3⟩ := q6 (Nat.le_refl R)
          have z4 := (h6.2.2.2.1 R hl).2.1 (Nat.le_refl R)
          have z5 : cn R = 0 := by rw [q3, z1, z2]; rfl
          refine br_t nI_0 (br_t hx4 (br_f g1 (br_t g2 ⟨hin, nm_r (e' := upd sa R v1) (by rw [hcl]) (nm_r (nI_1 R) ?_)⟩)))
          refine br_t nI_0 (br_f hn4 (br_f g1 (br_t g2 ⟨hin, nm_r (e' := upd sa R v1) (by rw [hcl, fr_b8 g1 g2]) ⟨hin, nm_r (e' := cn) (by rw [hcl, fr_80]; exact fr_us z5) ⟨hin, nm_r (e' := po) (by rw [hcl, fr_80]; exact fr_us z1) ⟨hin, nm_r (e' := ac) (by rw [hcl, fr_80]; exact fr_us z3) ⟨hin, nm_r (e' := bm) (by rw [hcl, fr_80]; exact fr_us z4) (nm_r (nI_1 R) ⟨?_, ?_⟩)⟩⟩⟩⟩⟩)))
          · exact (nI_pred R).symm
          · exact fr_mk ⟨by omega, rfl, Nat.le_refl 1, rfl, by omega, fr_rule h6, h7, fr_FB_up h8 (by omega), h9⟩
        · exact br_t nI_0 (br_t hx4 (br_f g1 (br_f g2 (br_t nI_0 (br_f hn4 (br_f g1 (br_f g2 ⟨rfl, up⟩)))))))
    · have e4 : R = 4 := by omega
      subst e4
      exact br_t nI_0 (br_f (by decide) (br_t nI_0 (br_t rfl ⟨rfl, up⟩)))
  · exact br_f (by decide) (br_f (by decide) ⟨rfl, up⟩)
end
