section
variable {fc md rl bl pc ht : Int32} {nb kd fl sa po ng tt ac ha bd bp bf ck cg tc tf th tp aw ak ao cs ex mx va ff fv pr cn bm ds wx wy wz hd my vs : Nat → Int32} {R : Nat}
/-! ===== the component's match ===== -/
theorem fx_gives {post : Int32 → Prop} {x : Nat} (hcs : fr_CS cs) (hp : ∀ r, r < 4 → fr_Lt (po r) 4) (hx : x < 864)
    (h : post (fr_b (fr_G nb po (fr_sg x)))) : wpX_givesFacts post (fc, md, rl, bl, pc, nb, kd, fl, sa, po, ng, tt, ac, ha, bd, bp, bf, ck, cg, tc, tf, th, tp, aw, ak, ao, cs, ex, mx, va, ff, fv, pr) (nI x) := by
  have hp4 := hp (x / 216) (by omega)
  have h4 := hp4.1
  have e2 : po (nI x / 216).toNatClampNeg = nI (fr_n (po (x / 216))) := by
    rw [fr_d216 (by omega), nI_clamp (by omega)]; exact hp4.2
  refine ⟨by decide, by rw [fr_d216 (by omega)]; exact vp_in_nI (by omega) (by omega), nm_r e2 ⟨by decide, nm_r (e' := nI (3 * (x % 216))) (by rw [fr_r216 (by omega), fr_m3]) ⟨4, ?_⟩⟩⟩
  refine fr_all (fun n j => wX_givesFacts_22 post (nI (fr_n (po (x / 216)))) (nI (3 * (x % 216))) fc md rl bl pc nb kd fl sa po ng tt ac ha bd bp bf ck cg tc tf th tp aw ak ao cs ex mx va ff fv pr n (nI j)) (fun j => fr_Gj nb po (fr_sg x) j) post 3 ?_ ?_ ?_ h
  · intro hp n
    exact br_t (nI_le (a := 3) (b := 3) (by omega) (by decide)) hp
  · intro n j hj hc hp0
    have hdg := fr_dg_lt (fr_sg x) j
    have e4 : cs (nI (3 * (x % 216)) + nI j).toNatClampNeg = nI (fr_dg (fr_sg x) j) := by
      rw [nI_add, nI_clamp (by omega), hcs _ _ (by omega) hj, fr_sg_mdg]
    unfold fr_Gj at hc
    rw [fr_sg_r] at hc
    refine br_f (nI_ge (b := 3) hj (by decide)) ⟨by rw [nI_add]; exact vp_in_nI (by omega) (by omega), nm_r e4 ?_⟩
    refine pk_le _ _ (fun l => br_f (fun e0 => hc ⟨fun l2 => absurd l (by omega), fun _ => (nI_eq (b := 0) (by omega) (by omega)).mp e0⟩) hp0) (fun l => ⟨vp_in_nI hdg (by omega), br_t ?_ hp0⟩) rfl rfl (by omega) (by omega)
    rw [nI_clamp (by omega)]
    exact Classical.byContradiction (fun e0 => hc ⟨fun _ => e0, fun l2 => absurd l (by omega)⟩)
  · intro n j hj hc hk
    have hdg := fr_dg_lt (fr_sg x) j
    have e4 : cs (nI (3 * (x % 216)) + nI j).toNatClampNeg = nI (fr_dg (fr_sg x) j) := by
      rw [nI_add, nI_clamp (by omega), hcs _ _ (by omega) hj, fr_sg_mdg]
    unfold fr_Gj at hc
    rw [fr_sg_r] at hc
    refine br_f (nI_ge (b := 3) hj (by decide)) ⟨by rw [nI_add]; exact vp_in_nI (by omega) (by omega), nm_r e4 ?_⟩
    refine pk_le _ _ (fun l => br_t ?_ (nm_r (nI_1 j) hk)) (fun l => ⟨vp_in_nI hdg (by omega), br_f ?_ (nm_r (nI_1 j) hk)⟩) rfl rfl (by omega) (by omega)
    · rw [hc.2 l]; rfl
    · rw [nI_clamp (by omega)]; exact hc.1 l
theorem fx_bound {post : Int32 → Prop} {r x : Nat} (h5 : fr_R5 R tc th tp bd bp bf bm) (hr : r < 4) (hx : x < 4) (h : post (bd (4 * r + x))) : wpX_isBound post (fc, md, rl, bl, pc, nb, kd, fl, sa, po, ng, tt, ac, ha, bd, bp, bf, ck, cg, tc, tf, th, tp, aw, ak, ao, cs, ex, mx, va, ff, fv, pr) (nI r) (nI x) := by
  have e : nI r * 4 + nI x = nI (4 * r + x) := by rw [fr_m4, nI_add]
  have hcl : (nI r * 4 + nI x).toNatClampNeg = 4 * r + x := by rw [e]; exact nI_clamp (by omega)
  refine ⟨by rw [e]; exact vp_in_nI (by omega) (by omega), ?_, ?_⟩
  · rw [hcl]
    rcases ((h5 r hr).2.2 x hx).2.1 with e0 | e0 <;> rw [e0] <;> rfl
  · rw [hcl]; exact h
theorem fx_read_v {x : Nat} (hcs : fr_CS cs) (h5 : fr_R5 R tc th tp bd bp bf bm) (hx : x < 864) :
    ∃ w : Nat → Int32, (∀ z, z < 4 → bd (4 * (x / 216) + z) ≠ 0 → w z = fr_val bp bf fl (fr_sg x) z) ∧
      ∀ post : SX → Prop, post (fc, md, rl, bl, pc, nb, kd, fl, sa, po, ng, tt, ac, ha, bd, bp, bf, ck, cg, tc, tf, th, tp, aw, ak, ao, cs, ex, mx, w, ff, fv, pr) → wpX_readVariables__variable post (fc, md, rl, bl, pc, nb, kd, fl, sa, po, ng, tt, ac, ha, bd, bp, bf, ck, cg, tc, tf, th, tp, aw, ak, ao, cs, ex, mx, va, ff, fv, pr) (nI x) := by
  have hr : x / 216 < 4 := by omega
  have step : ∀ z (w : Nat → Int32), z < 4 → (∀ z', z' < z → bd (4 * (x / 216) + z') ≠ 0 → w z' = fr_val bp bf fl (fr_sg x) z') →
      ∃ w' : Nat → Int32, (∀ z', z' < z + 1 → bd (4 * (x / 216) + z') ≠ 0 → w' z' = fr_val bp bf fl (fr_sg x) z') ∧
        ∀ (P : SX → Prop) n, wX_readVariables__variable_18 P (nI (x / 216)) (nI (3 * (x % 216))) fc md rl bl pc n (nI (z + 1)) nb kd fl sa po ng tt ac ha bd bp bf ck cg tc tf th tp aw ak ao cs ex mx w' ff fv pr → wX_readVariables__variable_18 P (nI (x / 216)) (nI (3 * (x % 216))) fc md rl bl pc (n + 1) (nI z) nb kd fl sa po ng tt ac ha bd bp bf ck cg tc tf th tp aw ak ao cs ex mx w ff fv pr := by
    intro z w hz hI
    have hge : ¬ (4 : Int32) ≤ nI z := nI_ge (b := 4) hz (by decide)
    by_cases h0 : bd (4 * (x / 216) + z) = 0
    · refine ⟨w, fun z' hz' hb => ?_, fun P n hk => br_f hge (fx_bound h5 hr hz ?_)⟩
      · by_cases e : z' = z
        · rw [e] at hb; exact absurd h0 hb
        · exact hI z' (by omega) hb
      · exact br_t h0 (nm_r (nI_1 z) hk)
    · obtain ⟨_, hP, hF⟩ := ((h5 _ hr).2.2 z hz).2.2 h0
      have hP3 := hP.1
      have hF3 := hF.1
      have hdg := fr_dg_lt (fr_sg x) (fr_n (bp (4 * (x / 216) + z)))
      have e6 : nI (x / 216) * 4 + nI z = nI (4 * (x / 216) + z) := by rw [fr_m4, nI_add]
      have hcl : (nI (4 * (x / 216) + z)).toNatClampNeg = 4 * (x / 216) + z := nI_clamp (by omega)
      have e7 : nI (3 * (x % 216)) + bp (nI (4 * (x / 216) + z)).toNatClampNeg = nI (3 * (x % 216) + fr_n (bp (4 * (x / 216) + z))) := by
        rw [hcl, fr_Lt_add hP]
      have e8 : cs (nI (3 * (x % 216)) + bp (nI (4 * (x / 216) + z)).toNatClampNeg).toNatClampNeg = nI (fr_dg (fr_sg x) (fr_n (bp (4 * (x / 216) + z)))) := by
        rw [e7, nI_clamp (by omega), hcs _ _ (by omega) hP3, fr_sg_mdg]
      have e9 : nI (fr_dg (fr_sg x) (fr_n (bp (4 * (x / 216) + z)))) * 3 + bf (nI (4 * (x / 216) + z)).toNatClampNeg = nI (3 * fr_dg (fr_sg x) (fr_n (bp (4 * (x / 216) + z))) + fr_n (bf (4 * (x / 216) + z))) := by
        rw [hcl, fr_m3, fr_Lt_add hF]
      have hv : fl (nI (fr_dg (fr_sg x) (fr_n (bp (4 * (x / 216) + z)))) * 3 + bf (nI (4 * (x / 216) + z)).toNatClampNeg).toNatClampNeg = fr_val bp bf fl (fr_sg x) z := by
        rw [e9, nI_clamp (by omega)]
        unfold fr_val
        rw [fr_sg_r]
      refine ⟨upd w z (fr_val bp bf fl (fr_sg x) z), fun z' hz' hb => ?_, fun P n hk => br_f hge (fx_bound h5 hr hz ?_)⟩
      · by_cases e : z' = z
        · rw [e, pk_us]
        · rw [pk_un e]; exact hI z' (by omega) hb
      · refine br_f h0 (nm_r e6 ⟨vp_in_nI (by omega) (by omega), ?_, nm_r e8 ⟨vp_in_nI (by omega) (by omega), ?_, vp_in_nI hz (by omega), nm_r (e' := upd w z (fr_val bp bf fl (fr_sg x) z)) ?_ (nm_r (nI_1 z) hk)⟩⟩)
        · rw [e7]; exact vp_in_nI (by omega) (by omega)
        · rw [e9]; exact vp_in_nI (by omega) (by omega)
        · rw [hv, nI_clamp (by omega)]
  obtain ⟨w, hI, hW⟩ := fr_exl (σ := Nat → Int32) (Q := SX → Prop) (fun P n z w => wX_readVariables__variable_18 P (nI (x / 216)) (nI (3 * (x % 216))) fc md rl bl pc n (nI z) nb kd fl sa po ng tt ac ha bd bp bf ck cg tc tf th tp aw ak ao cs ex mx w ff fv pr)
    (fun z w => ∀ z', z' < z → bd (4 * (x / 216) + z') ≠ 0 → w z' = fr_val bp bf fl (fr_sg x) z') 4 step va (fun z' h => absurd h (Nat.not_lt_zero z'))
  refine ⟨w, hI, fun post hp => ⟨by decide, nm_r (fr_d216 (by omega)) ⟨by decide, nm_r (e' := nI (3 * (x % 216))) (by rw [fr_r216 (by omega), fr_m3]) ⟨1 + 4, hW post 1 ?_⟩⟩⟩⟩
  exact br_t (nI_le (a := 4) (b := 4) (by omega) (by decide)) hp
theorem fx_value_v {post : Int32 → Prop} {o : Int32} (h : post (fr_ov va o)) : wpX_valueOf__variable post (fc, md, rl, bl, pc, nb, kd, fl, sa, po, ng, tt, ac, ha, bd, bp, bf, ck, cg, tc, tf, th, tp, aw, ak, ao, cs, ex, mx, va, ff, fv, pr) o := by
  refine nm_e ?_
  by_cases h0 : o &&& 1 = 0
  · rw [fr_ov_e h0] at h
    exact br_t h0 h
  · unfold fr_ov at h
    rw [if_neg h0] at h
    exact br_f h0 ⟨pk_andIn _ 2 (by decide) (by decide), h⟩
theorem fx_read_f {x : Nat} (hcs : fr_CS cs) (h5 : fr_R5 R tc th tp bd bp bf bm) (hx : x < 864) :
    ∃ w : Nat → Int32, (∀ z, z < 4 → bd (4 * (x / 216) + z) ≠ 0 → w z = fr_val bp bf fl (fr_sg x) z) ∧
      ∀ post : SX → Prop, post (fc, md, rl, bl, pc, nb, kd, fl, sa, po, ng, tt, ac, ha, bd, bp, bf, ck, cg, tc, tf, th, tp, aw, ak, ao, cs, ex, mx, va, ff, w, pr) → wpX_readVariables__firedVariable post (fc, md, rl, bl, pc, nb, kd, fl, sa, po, ng, tt, ac, ha, bd, bp, bf, ck, cg, tc, tf, th, tp, aw, ak, ao, cs, ex, mx, va, ff, fv, pr) (nI x) := by
  have hr : x / 216 < 4 := by omega
  have step : ∀ z (w : Nat → Int32), z < 4 → (∀ z', z' < z → bd (4 * (x / 216) + z') ≠ 0 → w z' = fr_val bp bf fl (fr_sg x) z') →
      ∃ w' : Nat → Int32, (∀ z', z' < z + 1 → bd (4 * (x / 216) + z') ≠ 0 → w' z' = fr_val bp bf fl (fr_sg x) z') ∧
        ∀ (P : SX → Prop) n, wX_readVariables__firedVariable_18 P (nI (x / 216)) (nI (3 * (x % 216))) fc md rl bl pc n (nI (z + 1)) nb kd fl sa po ng tt ac ha bd bp bf ck cg tc tf th tp aw ak ao cs ex mx va ff w' pr → wX_readVariables__firedVariable_18 P (nI (x / 216)) (nI (3 * (x % 216))) fc md rl bl pc (n + 1) (nI z) nb kd fl sa po ng tt ac ha bd bp bf ck cg tc tf th tp aw ak ao cs ex mx va ff w pr := by
    intro z w hz hI
    have hge : ¬ (4 : Int32) ≤ nI z := nI_ge (b := 4) hz (by decide)
    by_cases h0 : bd (4 * (x / 216) + z) = 0
    · refine ⟨w, fun z' hz' hb => ?_, fun P n hk => br_f hge (fx_bound h5 hr hz ?_)⟩
      · by_cases e : z' = z
        · rw [e] at hb; exact absurd h0 hb
        · exact hI z' (by omega) hb
      · exact br_t h0 (nm_r (nI_1 z) hk)
    · obtain ⟨_, hP, hF⟩ := ((h5 _ hr).2.2 z hz).2.2 h0
      have hP3 := hP.1
      have hF3 := hF.1
      have hdg := fr_dg_lt (fr_sg x) (fr_n (bp (4 * (x / 216) + z)))
      have e6 : nI (x / 216) * 4 + nI z = nI (4 * (x / 216) + z) := by rw [fr_m4, nI_add]
      have hcl : (nI (4 * (x / 216) + z)).toNatClampNeg = 4 * (x / 216) + z := nI_clamp (by omega)
      have e7 : nI (3 * (x % 216)) + bp (nI (4 * (x / 216) + z)).toNatClampNeg = nI (3 * (x % 216) + fr_n (bp (4 * (x / 216) + z))) := by
        rw [hcl, fr_Lt_add hP]
      have e8 : cs (nI (3 * (x % 216)) + bp (nI (4 * (x / 216) + z)).toNatClampNeg).toNatClampNeg = nI (fr_dg (fr_sg x) (fr_n (bp (4 * (x / 216) + z)))) := by
        rw [e7, nI_clamp (by omega), hcs _ _ (by omega) hP3, fr_sg_mdg]
      have e9 : nI (fr_dg (fr_sg x) (fr_n (bp (4 * (x / 216) + z)))) * 3 + bf (nI (4 * (x / 216) + z)).toNatClampNeg = nI (3 * fr_dg (fr_sg x) (fr_n (bp (4 * (x / 216) + z))) + fr_n (bf (4 * (x / 216) + z))) := by
        rw [hcl, fr_m3, fr_Lt_add hF]
      have hv : fl (nI (fr_dg (fr_sg x) (fr_n (bp (4 * (x / 216) + z)))) * 3 + bf (nI (4 * (x / 216) + z)).toNatClampNeg).toNatClampNeg = fr_val bp bf fl (fr_sg x) z := by
        rw [e9, nI_clamp (by omega)]
        unfold fr_val
        rw [fr_sg_r]
      refine ⟨upd w z (fr_val bp bf fl (fr_sg x) z), fun z' hz' hb => ?_, fun P n hk => br_f hge (fx_bound h5 hr hz ?_)⟩
      · by_cases e : z' = z
        · rw [e, pk_us]
        · rw [pk_un e]; exact hI z' (by omega) hb
      · refine br_f h0 (nm_r e6 ⟨vp_in_nI (by omega) (by omega), ?_, nm_r e8 ⟨vp_in_nI (by omega) (by omega), ?_, vp_in_nI hz (by omega), nm_r (e' := upd w z (fr_val bp bf fl (fr_sg x) z)) ?_ (nm_r (nI_1 z) hk)⟩⟩)
        · rw [e7]; exact vp_in_nI (by omega) (by omega)
        · rw [e9]; exact vp_in_nI (by omega) (by omega)
        · rw [hv, nI_clamp (by omega)]
  obtain ⟨w, hI, hW⟩ := fr_exl (σ := Nat → Int32) (Q := SX → Prop) (fun P n z w => wX_readVariables__firedVariable_18 P (nI (x / 216)) (nI (3 * (x % 216))) fc md rl bl pc n (nI z) nb kd fl sa po ng tt ac ha bd bp bf ck cg tc tf th tp aw ak ao cs ex mx va ff w pr)
    (fun z w => ∀ z', z' < z → bd (4 * (x / 216) + z') ≠ 0 → w z' = fr_val bp bf fl (fr_sg x) z') 4 step fv (fun z' h => absurd h (Nat.not_lt_zero z'))
  refine ⟨w, hI, fun post hp => ⟨by decide, nm_r (fr_d216 (by omega)) ⟨by decide, nm_r (e' := nI (3 * (x % 216))) (by rw [fr_r216 (by omega), fr_m3]) ⟨1 + 4, hW post 1 ?_⟩⟩⟩⟩
  exact br_t (nI_le (a := 4) (b := 4) (by omega) (by decide)) hp
theorem fx_value_f {post : Int32 → Prop} {o : Int32} (h : post (fr_ov fv o)) : wpX_valueOf__firedVariable post (fc, md, rl, bl, pc, nb, kd, fl, sa, po, ng, tt, ac, ha, bd, bp, bf, ck, cg, tc, tf, th, tp, aw, ak, ao, cs, ex, mx, va, ff, fv, pr) o := by
  refine nm_e ?_
  by_cases h0 : o &&& 1 = 0
  · rw [fr_ov_e h0] at h
    exact br_t h0 h
  · unfold fr_ov at h
    rw [if_neg h0] at h
    exact br_f h0 ⟨pk_andIn _ 2 (by decide) (by decide), h⟩
theorem fx_compares {post : Int32 → Prop} {l hw r : Int32} (h : post (fr_b (fr_cp l hw r))) : wpX_compares post l hw r := by
  by_cases e0 : hw = 0
  · refine br_t e0 (br_c (fun e => ?_) (fun e => ?_))
    · rw [fr_bt ⟨fun _ => e, fun e1 => absurd (e0.symm.trans e1) (by decide), fun h => absurd e0 h⟩] at h
      exact h
    · rw [fr_bf (fun H => e (H.1 e0))] at h
      exact h
  · refine br_f e0 ?_
    by_cases e1 : hw = 1
    · refine br_t e1 (br_c (fun e => ?_) (fun e => ?_))
      · rw [fr_bf (fun H => H.2.1 e1 e)] at h
        exact h
      · rw [fr_bt ⟨fun k => absurd k e0, fun _ => e, fun _ k => absurd e1 k⟩] at h
        exact h
    · refine br_f e1 (br_c (fun e => ?_) (fun e => ?_))
      · rw [fr_bf (fun H => absurd (H.2.2 e0 e1) (Int32.not_lt.mpr e))] at h
        exact h
      · rw [fr_bt ⟨fun k => absurd k e0, fun k => absurd k e1, fun _ _ => Int32.not_le.mp e⟩] at h
        exact h
theorem fx_passes {post : Int32 → Prop} {r i f : Nat} (h3 : fr_R3 po ng tc tt) (h4 : fr_R4 cg tc tf th tp bd bp bf) (hr : r < 4) (hi : i < 5) (hf : f < 6)
    (h : post (fr_b (fr_T kd fl ck tc tf th tp va (5 * r + i) f))) : wpX_passes post (fc, md, rl, bl, pc, nb, kd, fl, sa, po, ng, tt, ac, ha, bd, bp, bf, ck, cg, tc, tf, th, tp, aw, ak, ao, cs, ex, mx, va, ff, fv, pr) (nI (5 * r + i)) (nI f) := by
  have hq : 5 * r + i < 20 := by omega
  have ⟨ht5, _⟩ := (h3 r hr).1 i hi
  have htl := ht5.1
  have hte : tc (nI (5 * r + i)).toNatClampNeg = nI (fr_n (tc (5 * r + i))) := by rw [nI_clamp (by omega)]; exact ht5.2
  have h20 : vp_in (nI (5 * r + i)) 20 := vp_in_nI hq (by omega)
  refine ⟨vp_in_nI hf (by omega), h20, ?_⟩
  rw [nI_clamp (by omega), nI_clamp (by omega)]
  refine br_c (fun hk => ⟨fr_n (tc (5 * r + i)) + 1, ?_⟩) (fun hk => ?_)
  · rw [fr_bi (q := ∀ s, s < fr_n (tc (5 * r + i)) → fr_Ti fl tf th tp va (5 * r + i) f s) ⟨fun H => H.2, fun H => ⟨hk, H⟩⟩] at h
    have common : ∀ s, s < fr_n (tc (5 * r + i)) → ∀ n, ((th (4 * (5 * r + i) + s) = 3 → wX_passes_19 post (nI (5 * r + i)) (nI f) fc md rl bl pc nb kd fl sa po ng tt ac ha bd bp bf ck cg tc tf th tp aw ak ao cs ex mx va ff fv pr n (nI (s + 1))) ∧ (th (4 * (5 * r + i) + s) ≠ 3 → (fr_cp (fl (3 * f + fr_n (tf (4 * (5 * r + i) + s)))) (th (4 * (5 * r + i) + s)) (fr_ov va (tp (4 * (5 * r + i) + s))) → wX_passes_19 post (nI (5 * r + i)) (nI f) fc md rl bl pc nb kd fl sa po ng tt ac ha bd bp bf ck cg tc tf th tp aw ak ao cs ex mx va ff fv pr n (nI (s + 1))) ∧ (¬ fr_cp (fl (3 * f + fr_n (tf (4 * (5 * r + i) + s)))) (th (4 * (5 * r + i) + s)) (fr_ov va (tp (4 * (5 * r + i) + s))) → post 0))) →
        wX_passes_19 post (nI (5 * r + i)) (nI f) fc md rl bl pc nb kd fl sa po ng tt ac ha bd bp bf ck cg tc tf th tp aw ak ao cs ex mx va ff fv pr (n + 1) (nI s) := by
      intro s hs n ⟨g1, g2⟩
      obtain ⟨hF, hH, _, _⟩ := h4 r i s hr hi hs
      have hF3 := hF.1
      have e4 : nI (5 * r + i) * 4 + nI s = nI (4 * (5 * r + i) + s) := by rw [fr_m4, nI_add]
      have hcl : (nI (4 * (5 * r + i) + s)).toNatClampNeg = 4 * (5 * r + i) + s := nI_clamp (by omega)
      have h80 : vp_in (nI (4 * (5 * r + i) + s)) 80 := vp_in_nI (by omega) (by omega)
      have hfe : nI f * 3 + tf (nI (4 * (5 * r + i) + s)).toNatClampNeg = nI (3 * f + fr_n (tf (4 * (5 * r + i) + s))) := by
        rw [hcl, fr_m3, fr_Lt_add hF]
      refine ⟨h20, br_f (by rw [hte]; exact nI_ge hs (by omega)) (nm_r e4 ⟨h80, by rw [hfe]; exact vp_in_nI (by omega) (by omega), nm_r (e' := fl (3 * f + fr_n (tf (4 * (5 * r + i) + s)))) (by rw [hfe, nI_clamp (by omega)]) ⟨h80, nm_r (e' := th (4 * (5 * r + i) + s)) (by rw [hcl]) ?_⟩⟩)⟩
      refine br_c (fun e => nm_r (nI_1 s) (g1 e)) (fun e => ⟨h80, ?_⟩)
      rw [hcl]
      refine fx_value_v (fx_compares ?_)
      by_cases hc : fr_cp (fl (3 * f + fr_n (tf (4 * (5 * r + i) + s)))) (th (4 * (5 * r + i) + s)) (fr_ov va (tp (4 * (5 * r + i) + s)))
      · rw [fr_bt hc]
        exact br_f (by decide) (nm_r (nI_1 s) ((g2 e).1 hc))
      · rw [fr_bf hc]
        exact br_t rfl ((g2 e).2 hc)
    refine fr_all (fun n s => wX_passes_19 post (nI (5 * r + i)) (nI f) fc md rl bl pc nb kd fl sa po ng tt ac ha bd bp bf ck cg tc tf th tp aw ak ao cs ex mx va ff fv pr n (nI s)) (fun s => fr_Ti fl tf th tp va (5 * r + i) f s) post _ ?_ ?_ ?_ h
    · intro hp n
      exact ⟨h20, br_t (by rw [hte]; exact Int32.le_refl _) hp⟩
    · intro n s hs hc hp0
      exact common s hs n ⟨fun e => absurd (fun h => absurd e h) hc, fun e => ⟨fun k => absurd (fun _ => k) hc, fun _ => hp0⟩⟩
    · intro n s hs hc hk
      exact common s hs n ⟨fun _ => hk, fun e => ⟨fun _ => hk, fun k => absurd (hc e) k⟩⟩
  · rw [fr_bf (fun H => hk H.1)] at h
    exact h
theorem fx_met {post : Int32 → Prop} {r i : Nat} (h3 : fr_R3 po ng tc tt) (h4 : fr_R4 cg tc tf th tp bd bp bf) (hr : r < 4) (hi : i < 5)
    (h : post (fr_b (∃ f, f < 6 ∧ nb f ≠ 0 ∧ fr_T kd fl ck tc tf th tp va (5 * r + i) f))) : wpX_isMet post (fc, md, rl, bl, pc, nb, kd, fl, sa, po, ng, tt, ac, ha, bd, bp, bf, ck, cg, tc, tf, th, tp, aw, ak, ao, cs, ex, mx, va, ff, fv, pr) (nI (5 * r + i)) := by
  refine ⟨6 + 1, fr_any (fun n f => wX_isMet_2 post (nI (5 * r + i)) fc md rl bl pc nb kd fl sa po ng tt ac ha bd bp bf ck cg tc tf th tp aw ak ao cs ex mx va ff fv pr n (nI f)) (fun f => nb f ≠ 0 ∧ fr_T kd fl ck tc tf th tp va (5 * r + i) f) post 6 ?_ ?_ ?_ h⟩
  · intro hp n
    exact br_t (nI_le (a := 6) (b := 6) (by omega) (by decide)) hp
  · intro n f hf hc hp
    refine br_f (nI_ge (b := 6) hf (by decide)) ⟨vp_in_nI hf (by decide), br_f (by rw [nI_clamp (by omega)]; exact hc.1) (fx_passes h3 h4 hr hi hf ?_)⟩
    rw [fr_bt hc.2]
    exact br_f (by decide) hp
  · intro n f hf hc hk
    refine br_f (nI_ge (b := 6) hf (by decide)) ⟨vp_in_nI hf (by decide), ?_⟩
    rw [nI_clamp (by omega)]
    refine br_c (fun e => nm_r (nI_1 f) hk) (fun e => fx_passes h3 h4 hr hi hf ?_)
    rw [fr_bf (fun H => hc ⟨e, H⟩)]
    exact br_t rfl (nm_r (nI_1 f) hk)
theorem fx_inst {x : Nat} (hcs : fr_CS cs) (h2 : fr_R2 R po ng cn ac cg) (h3 : fr_R3 po ng tc tt) (h4 : fr_R4 cg tc tf th tp bd bp bf) (h5 : fr_R5 R tc th tp bd bp bf bm) (hx : x < 864) :
    ∃ w : Nat → Int32, ∀ post : Int32 → SX → Prop, post (fr_b (fr_M nb kd fl po ng ck cg tc tf th tp bp bf (fr_sg x))) (fc, md, rl, bl, pc, nb, kd, fl, sa, po, ng, tt, ac, ha, bd, bp, bf, ck, cg, tc, tf, th, tp, aw, ak, ao, cs, ex, mx, w, ff, fv, pr) → wpX_isInstantiation post (fc, md, rl, bl, pc, nb, kd, fl, sa, po, ng, tt, ac, ha, bd, bp, bf, ck, cg, tc, tf, th, tp, aw, ak, ao, cs, ex, mx, va, ff, fv, pr) (nI x) := by
  have hp : ∀ r, r < 4 → fr_Lt (po r) 4 := fun r hr => (h2 r hr).1
  have hr : x / 216 < 4 := by omega
  by_cases hG : fr_G nb po (fr_sg x)
  · obtain ⟨w, hw, hW⟩ := fx_read_v (fc := fc) (md := md) (rl := rl) (bl := bl) (pc := pc) (nb := nb) (kd := kd) (fl := fl) (sa := sa) (po := po) (ng := ng) (tt := tt) (ac := ac) (ha := ha) (bd := bd) (bp := bp) (bf := bf) (ck := ck) (cg := cg) (tc := tc) (tf := tf) (th := th) (tp := tp) (aw := aw) (ak := ak) (ao := ao) (cs := cs) (ex := ex) (mx := mx) (va := va) (ff := ff) (fv := fv) (pr := pr) hcs h5 hx
    refine ⟨w, fun post hpo => fx_gives hcs hp hx ?_⟩
    rw [fr_bt hG]
    obtain ⟨p4, m3, hcn, _, hnp, _⟩ := h2 _ hr
    have p4' := p4.1
    have m3' := m3.1
    refine br_f (by decide) (hW _ ⟨by decide, nm_r (fr_d216 (by omega)) ⟨by decide, nm_r (e' := nI (3 * (x % 216))) (by rw [fr_r216 (by omega), fr_m3]) ⟨vp_in_nI hr (by omega), vp_in_nI hr (by omega), ?_⟩⟩⟩)
    rw [nI_clamp (by omega), p4.2, m3.2, nI_add]
    have hTv : ∀ i, i < 5 → ∀ f, fr_T kd fl ck tc tf th tp w (5 * (x / 216) + i) f = fr_T kd fl ck tc tf th tp (fr_val bp bf fl (fr_sg x)) (5 * (x / 216) + i) f :=
      fun i hi f => fr_T_v h4 hr hi hw
    rw [fr_bi (q := ∀ i, i < fr_n (po (x / 216)) + fr_n (ng (x / 216)) → fr_C nb kd fl ck cg tc tf th tp (fr_val bp bf fl (fr_sg x)) (fr_sg x) i) (by
      unfold fr_M
      rw [fr_sg_r]
      exact ⟨fun H => H.2, fun H => ⟨hG, H⟩⟩)] at hpo
    refine ⟨fr_n (po (x / 216)) + fr_n (ng (x / 216)) + 1, ?_⟩
    refine fr_all (fun n i => wX_isInstantiation_46 post (nI (x / 216)) (nI (3 * (x % 216))) (nI (fr_n (po (x / 216)) + fr_n (ng (x / 216)))) fc md rl bl pc nb kd fl sa po ng tt ac ha bd bp bf ck cg tc tf th tp aw ak ao cs ex mx w ff fv pr n (nI (fr_np cg (x / 216) i)) (nI i))
      (fun i => fr_C nb kd fl ck cg tc tf th tp (fr_val bp bf fl (fr_sg x)) (fr_sg x) i) (fun r => post r (fc, md, rl, bl, pc, nb, kd, fl, sa, po, ng, tt, ac, ha, bd, bp, bf, ck, cg, tc, tf, th, tp, aw, ak, ao, cs, ex, mx, w, ff, fv, pr)) _ ?_ ?_ ?_ hpo
    · intro hp n
      exact br_t (Int32.le_refl _) hp
    · intro n i hi hc hp0
      have e7 : nI (x / 216) * 5 + nI i = nI (5 * (x / 216) + i) := by rw [fr_m5, nI_add]
      unfold fr_C at hc
      rw [fr_sg_r] at hc
      refine br_f (nI_ge hi (by omega)) (nm_r e7 ⟨vp_in_nI (by omega) (by omega), ?_⟩)
      rw [nI_clamp (by omega)]
      refine br_c (fun e => ?_) (fun e => ?_)
      · have hnp3 : fr_np cg (x / 216) i < 3 := by have := fr_np_lt hi e; omega
        have e4 : cs (nI (3 * (x % 216)) + nI (fr_np cg (x / 216) i)).toNatClampNeg = nI (fr_dg (fr_sg x) (fr_np cg (x / 216) i)) := by
          rw [nI_add, nI_clamp (by omega), hcs _ _ (by omega) hnp3, fr_sg_mdg]
        refine ⟨by rw [nI_add]; exact vp_in_nI (by omega) (by omega), ?_⟩
        rw [e4]
        refine fx_passes h3 h4 hr (by omega) (fr_dg_lt _ _) ?_
        rw [hTv i (by omega), fr_bf (fun H => hc ⟨fun _ => H, fun k => absurd e k⟩)]
        exact br_t rfl hp0
      · refine fx_met h3 h4 hr (by omega) ?_
        simp only [hTv i (show i < 5 by omega)]
        rw [fr_bt (Classical.byContradiction (fun H => hc ⟨fun k => absurd k e, fun _ => H⟩))]
        exact br_f (by decide) hp0
    · intro n i hi hc hk
      have e7 : nI (x / 216) * 5 + nI i = nI (5 * (x / 216) + i) := by rw [fr_m5, nI_add]
      unfold fr_C at hc
      rw [fr_sg_r] at hc
      refine br_f (nI_ge hi (by omega)) (nm_r e7 ⟨vp_in_nI (by omega) (by omega), ?_⟩)
      rw [nI_clamp (by omega)]
      refine br_c (fun e => ?_) (fun e => ?_)
      · have hnp3 : fr_np cg (x / 216) i < 3 := by have := fr_np_lt hi e; omega
        have e4 : cs (nI (3 * (x % 216)) + nI (fr_np cg (x / 216) i)).toNatClampNeg = nI (fr_dg (fr_sg x) (fr_np cg (x / 216) i)) := by
          rw [nI_add, nI_clamp (by omega), hcs _ _ (by omega) hnp3, fr_sg_mdg]
        refine ⟨by rw [nI_add]; exact vp_in_nI (by omega) (by omega), ?_⟩
        rw [e4]
        refine fx_passes h3 h4 hr (by omega) (fr_dg_lt _ _) ?_
        rw [hTv i (by omega), fr_bt (hc.1 e)]
        rw [fr_np_s e] at hk
        exact br_f (by decide) (nm_r (nI_1 _) (nm_r (nI_1 _) hk))
      · refine fx_met h3 h4 hr (by omega) ?_
        simp only [hTv i (show i < 5 by omega)]
        rw [fr_bf (hc.2 e)]
        rw [fr_np_k e] at hk
        exact br_t rfl (nm_r (nI_1 _) hk)
  · refine ⟨va, fun post hpo => fx_gives hcs hp hx ?_⟩
    rw [fr_bf (fun H => hG H.1)] at hpo
    rw [fr_bf hG]
    exact br_t rfl hpo
/-! ===== the component settles ===== -/
theorem fx_settle {fin : Nat} (hcs : fr_CS cs) (h2 : fr_R2 R po ng cn ac cg) (h3 : fr_R3 po ng tc tt) (h4 : fr_R4 cg tc tf th tp bd bp bf) (h5 : fr_R5 R tc th tp bd bp bf bm) (hfin : fin ≤ 4)
    (hfe : (bl = 0 → rl = nI fin) ∧ (¬ bl = 0 → rl - 1 = nI fin)) :
    ∃ ex' mx' va' : Nat → Int32, fr_St fin (fr_M nb kd fl po ng ck cg tc tf th tp bp bf) (fun y => ex (fr_sg y)) (fun y => mx (fr_sg y)) (fun y => ex' (fr_sg y)) (fun y => mx' (fr_sg y)) ∧ ∀ post : SX → Prop, post (fc, md, rl, bl, pc, nb, kd, fl, sa, po, ng, tt, ac, ha, bd, bp, bf, ck, cg, tc, tf, th, tp, aw, ak, ao, cs, ex', mx', va', ff, fv, pr) → wpX_settle post (fc, md, rl, bl, pc, nb, kd, fl, sa, po, ng, tt, ac, ha, bd, bp, bf, ck, cg, tc, tf, th, tp, aw, ak, ao, cs, ex, mx, va, ff, fv, pr) := by
  have step : ∀ i (s : (Nat → Int32) × (Nat → Int32) × (Nat → Int32)), i < 216 * fin →
      (∀ x, x < 864 → (x < i → s.1 x = fr_b (fr_M nb kd fl po ng ck cg tc tf th tp bp bf (fr_sg x)) ∧ (fr_M nb kd fl po ng ck cg tc tf th tp bp bf (fr_sg x) → s.2.1 x = mx x) ∧ (¬ fr_M nb kd fl po ng ck cg tc tf th tp bp bf (fr_sg x) → s.2.1 x = 0)) ∧ (i ≤ x → s.1 x = ex x ∧ s.2.1 x = mx x)) →
      ∃ s' : (Nat → Int32) × (Nat → Int32) × (Nat → Int32), (∀ x, x < 864 → (x < i + 1 → s'.1 x = fr_b (fr_M nb kd fl po ng ck cg tc tf th tp bp bf (fr_sg x)) ∧ (fr_M nb kd fl po ng ck cg tc tf th tp bp bf (fr_sg x) → s'.2.1 x = mx x) ∧ (¬ fr_M nb kd fl po ng ck cg tc tf th tp bp bf (fr_sg x) → s'.2.1 x = 0)) ∧ (i + 1 ≤ x → s'.1 x = ex x ∧ s'.2.1 x = mx x)) ∧
        ∀ (P : SX → Prop) n, wX_settle_23 P (nI fin) n (nI (i + 1)) fc md rl bl pc nb kd fl sa po ng tt ac ha bd bp bf ck cg tc tf th tp aw ak ao cs (s'.1) (s'.2.1) (s'.2.2) ff fv pr → wX_settle_23 P (nI fin) (n + 1) (nI i) fc md rl bl pc nb kd fl sa po ng tt ac ha bd bp bf ck cg tc tf th tp aw ak ao cs (s.1) (s.2.1) (s.2.2) ff fv pr := by
    intro i s hi hI
    have hi8 : i < 864 := by omega
    have hge : ¬ (nI fin * (216 : Int32) ≤ nI i) := by
      rw [show nI fin * (216 : Int32) = nI (fin * 216) from pk_mul fin 216]
      exact nI_ge (by omega) (by omega)
    have hin : vp_in (nI i) 864 := vp_in_nI hi8 (by decide)
    have hcl : (nI i).toNatClampNeg = i := nI_clamp (by omega)
    obtain ⟨w, hW⟩ := fx_inst (fc := fc) (md := md) (rl := rl) (bl := bl) (pc := pc) (nb := nb) (kd := kd) (fl := fl) (sa := sa) (po := po) (ng := ng) (tt := tt) (ac := ac) (ha := ha) (bd := bd) (bp := bp) (bf := bf) (ck := ck) (cg := cg) (tc := tc) (tf := tf) (th := th) (tp := tp) (aw := aw) (ak := ak) (ao := ao) (cs := cs) (ex := s.1) (mx := s.2.1) (va := s.2.2) (ff := ff) (fv := fv) (pr := pr) hcs h2 h3 h4 h5 hi8
    by_cases hM : fr_M nb kd fl po ng ck cg tc tf th tp bp bf (fr_sg i)
    · refine ⟨(upd s.1 i 1, s.2.1, w), fun y hy => ⟨fun hl => ?_, fun hl => ?_⟩, fun P n hk => br_f hge (hW _ ?_)⟩
      · by_cases e : y = i
        · subst e
          exact ⟨by show upd s.1 y 1 y = _; rw [pk_us, fr_bt hM], fun _ => ((hI y hy).2 (Nat.le_refl _)).2, fun h => absurd hM h⟩
        · have := (hI y hy).1 (by omega)
          exact ⟨by show upd s.1 i 1 y = _; rw [pk_un e]; exact this.1, this.2⟩
      · have := (hI y hy).2 (by omega)
        exact ⟨by show upd s.1 i 1 y = _; rw [pk_un (by omega)]; exact this.1, this.2⟩
      · rw [fr_bt hM]
        refine ⟨hin, nm_r (e' := upd s.1 i 1) (by rw [hcl, ← fr_bt (p := True) trivial, fr_bv]) ⟨hin, br_f ?_ (nm_r (nI_1 i) hk)⟩⟩
        rw [hcl, pk_us]; decide
    · refine ⟨(upd s.1 i 0, upd s.2.1 i 0, w), fun y hy => ⟨fun hl => ?_, fun hl => ?_⟩, fun P n hk => br_f hge (hW _ ?_)⟩
      · by_cases e : y = i
        · subst e
          exact ⟨by show upd s.1 y 0 y = _; rw [pk_us, fr_bf hM], fun h => absurd h hM, fun _ => pk_us⟩
        · have := (hI y hy).1 (by omega)
          refine ⟨by show upd s.1 i 0 y = _; rw [pk_un e]; exact this.1, ?_⟩
          show (_ → upd s.2.1 i 0 y = _) ∧ (_ → upd s.2.1 i 0 y = _)
          rw [pk_un e]; exact this.2
      · have := (hI y hy).2 (by omega)
        refine ⟨by show upd s.1 i 0 y = _; rw [pk_un (by omega)]; exact this.1, ?_⟩
        show upd s.2.1 i 0 y = _
        rw [pk_un (by omega)]; exact this.2
      · rw [fr_bf hM]
        refine ⟨hin, nm_r (e' := upd s.1 i 0) (by rw [hcl, ← fr_bf (p := False) id, fr_bv]) ⟨hin, br_t ?_ ⟨hin, nm_r (e' := upd s.2.1 i 0) (by rw [hcl, ← fr_bf (p := False) id, fr_bv]) (nm_r (nI_1 i) hk)⟩⟩⟩
        rw [hcl, pk_us]
  obtain ⟨s, hI, hW⟩ := fr_exl (σ := (Nat → Int32) × (Nat → Int32) × (Nat → Int32)) (Q := SX → Prop)
    (fun P n i s => wX_settle_23 P (nI fin) n (nI i) fc md rl bl pc nb kd fl sa po ng tt ac ha bd bp bf ck cg tc tf th tp aw ak ao cs (s.1) (s.2.1) (s.2.2) ff fv pr)
    (fun i s => ∀ x, x < 864 → (x < i → s.1 x = fr_b (fr_M nb kd fl po ng ck cg tc tf th tp bp bf (fr_sg x)) ∧ (fr_M nb kd fl po ng ck cg tc tf th tp bp bf (fr_sg x) → s.2.1 x = mx x) ∧ (¬ fr_M nb kd fl po ng ck cg tc tf th tp bp bf (fr_sg x) → s.2.1 x = 0)) ∧ (i ≤ x → s.1 x = ex x ∧ s.2.1 x = mx x))
    (216 * fin) step (ex, mx, va) (fun y hy => ⟨fun h => absurd h (Nat.not_lt_zero y), fun _ => ⟨rfl, rfl⟩⟩)
  have hend : ∀ post : SX → Prop, post (fc, md, rl, bl, pc, nb, kd, fl, sa, po, ng, tt, ac, ha, bd, bp, bf, ck, cg, tc, tf, th, tp, aw, ak, ao, cs, s.1, s.2.1, s.2.2, ff, fv, pr) → ∃ n, wX_settle_23 post (nI fin) n 0 fc md rl bl pc nb kd fl sa po ng tt ac ha bd bp bf ck cg tc tf th tp aw ak ao cs ex mx va ff fv pr := fun post hp =>
    ⟨1 + 216 * fin, hW post 1 (br_t (by rw [show nI fin * (216 : Int32) = nI (fin * 216) from pk_mul fin 216, Nat.mul_comm]; exact Int32.le_refl _) hp)⟩
  refine ⟨s.1, s.2.1, s.2.2, fun y hy => ?_, fun post hp => br_c (fun e => ?_) (fun e => nm_r (hfe.2 e) (hend post hp))⟩
  · have := hI (fr_sg y) (fr_sg_864 hy)
    rw [fr_sg_sg] at this
    refine ⟨fun hl => this.1 (fr_sg_lt hl), fun hl => this.2 ?_⟩
    have h1 : ¬ fr_sg y < 216 * fin := fun h => absurd (fr_sg_lti.mp h) (by omega)
    omega
  · have h := hend post hp
    rw [← hfe.1 e] at h
    exact h
end
