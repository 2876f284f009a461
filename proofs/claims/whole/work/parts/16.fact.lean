section
variable {fc md rl bl pc ht : Int32} {nb kd fl sa po ng tt ac ha bd bp bf ck cg tc tf th tp aw ak ao cs ex mx va ff fv pr cn bm ds wx wy wz hd my vs : Nat → Int32} {R : Nat}
/-! ===== fact ===== -/
theorem fx_older {post : Int32 → Prop} {f : Nat} (hf : f < 6) (h : post (nI (fr_ct (fun g => decide (nb g ≠ 0 ∧ ¬ nb f ≤ nb g)) 6))) : wpX_olderFacts post (fc, md, rl, bl, pc, nb, kd, fl, sa, po, ng, tt, ac, ha, bd, bp, bf, ck, cg, tc, tf, th, tp, aw, ak, ao, cs, ex, mx, va, ff, fv, pr) (nI f) := by
  refine ⟨6 + 1, fr_upto (fun n i => wX_olderFacts_4 post (nI f) fc md rl bl pc nb kd fl sa po ng tt ac ha bd bp bf ck cg tc tf th tp aw ak ao cs ex mx va ff fv pr n (nI (fr_ct (fun g => decide (nb g ≠ 0 ∧ ¬ nb f ≤ nb g)) i)) (nI i)) 6 ?_ ?_⟩
  · intro n
    exact br_t (nI_le (a := 6) (b := 6) (by omega) (by decide)) h
  · intro n i hi hk
    have hin : vp_in (nI i) 6 := vp_in_nI hi (by decide)
    refine br_f (nI_ge (b := 6) hi (by decide)) ⟨hin, ?_⟩
    rw [nI_clamp (n := i) (by omega), nI_clamp (n := f) (by omega)]
    refine br_c (fun e => ?_) (fun e => ⟨hin, vp_in_nI hf (by decide), br_c (fun e2 => ?_) (fun e2 => ?_)⟩)
    · rw [fr_ct_f (decide_eq_false (fun k => k.1 e))] at hk
      exact nm_r (nI_1 i) hk
    · rw [fr_ct_f (decide_eq_false (fun k => k.2 e2))] at hk
      exact nm_r (nI_1 i) hk
    · rw [fr_ct_t (decide_eq_true ⟨e, e2⟩)] at hk
      exact nm_r (nI_1 _) (nm_r (nI_1 i) hk)
def fr_ag (nb : Nat → Int32) (v : Int32) (f : Nat) : Prop := nb f ≠ 0 ∧ nI (fr_ct (fun g => decide (nb g ≠ 0 ∧ ¬ nb f ≤ nb g)) 6) = v
theorem fx_age_st {post : Int32 → Prop} {v : Int32} {n i : Nat} (hi : i < 6) (hm : ¬ fr_ag nb v i) (hk : wX_slotByAge_2 post v fc md rl bl pc nb kd fl sa po ng tt ac ha bd bp bf ck cg tc tf th tp aw ak ao cs ex mx va ff fv pr n (nI (i + 1))) : wX_slotByAge_2 post v fc md rl bl pc nb kd fl sa po ng tt ac ha bd bp bf ck cg tc tf th tp aw ak ao cs ex mx va ff fv pr (n + 1) (nI i) := by
  refine br_f (nI_ge (b := 6) hi (by decide)) ⟨vp_in_nI hi (by decide), ?_⟩
  rw [nI_clamp (by omega)]
  exact br_c (fun e => nm_r (nI_1 i) hk) (fun e => fx_older hi (br_f (fun e2 => hm ⟨e, e2⟩) (nm_r (nI_1 i) hk)))
theorem fx_age_some {post : Int32 → Prop} {v : Int32} {f : Nat} (hf : f < 6) (hP : fr_ag nb v f) (hm : ∀ g, g < f → ¬ fr_ag nb v g) (h : post (nI f)) : wpX_slotByAge post (fc, md, rl, bl, pc, nb, kd, fl, sa, po, ng, tt, ac, ha, bd, bp, bf, ck, cg, tc, tf, th, tp, aw, ak, ao, cs, ex, mx, va, ff, fv, pr) v := by
  refine ⟨f + 1, fr_upto (fun n i => wX_slotByAge_2 post v fc md rl bl pc nb kd fl sa po ng tt ac ha bd bp bf ck cg tc tf th tp aw ak ao cs ex mx va ff fv pr n (nI i)) f ?_ ?_⟩
  · intro n
    refine br_f (nI_ge (b := 6) hf (by decide)) ⟨vp_in_nI hf (by decide), ?_⟩
    rw [nI_clamp (by omega)]
    exact br_f hP.1 (fx_older hf (br_t hP.2 h))
  · intro n i hi hk
    exact fx_age_st (by omega) (hm i hi) hk
theorem fx_age_none {post : Int32 → Prop} {v : Int32} (hm : ∀ g, g < 6 → ¬ fr_ag nb v g) (h : post (-1)) : wpX_slotByAge post (fc, md, rl, bl, pc, nb, kd, fl, sa, po, ng, tt, ac, ha, bd, bp, bf, ck, cg, tc, tf, th, tp, aw, ak, ao, cs, ex, mx, va, ff, fv, pr) v := by
  refine ⟨6 + 1, fr_upto (fun n i => wX_slotByAge_2 post v fc md rl bl pc nb kd fl sa po ng tt ac ha bd bp bf ck cg tc tf th tp aw ak ao cs ex mx va ff fv pr n (nI i)) 6 ?_ ?_⟩
  · intro n
    exact br_t (nI_le (a := 6) (b := 6) (by omega) (by decide)) h
  · intro n i hi hk
    exact fx_age_st hi (hm i hi) hk
theorem fy_f29 {post : Int32 → Prop} {J : Int32 → Prop} {v w : Int32} {f : Nat} (hf : f < 6)
    (h : (nb f = 0 → J (nI (f + 1))) ∧ (¬ nb f = 0 → (nI (fr_ct (fun g => decide (nb g ≠ 0 ∧ ¬ nb f ≤ nb g)) 6) = v → (w = 0 → post (nb f)) ∧ (¬ w = 0 → (w = 1 → post (kd f)) ∧ (¬ w = 1 → vp_in ((3 * nI f + w) - 2) 18 ∧ post (fl ((3 * nI f + w) - 2).toNatClampNeg)))) ∧ (¬ nI (fr_ct (fun g => decide (nb g ≠ 0 ∧ ¬ nb f ≤ nb g)) 6) = v → J (nI (f + 1))))) :
    ∃ n, wY_fact_29 post J v w (nI f) rl bl md pc ht sa cn po ac bm ck cg tc tf th tp ds wx wy wz nb kd fl hd my vs pr n 0 0 := by
  have hinf : vp_in (nI f) 6 := vp_in_nI hf (by decide)
  refine ⟨6 + 1, fr_upto (fun n i => wY_fact_29 post J v w (nI f) rl bl md pc ht sa cn po ac bm ck cg tc tf th tp ds wx wy wz nb kd fl hd my vs pr n (nI (fr_ct (fun g => decide (nb g ≠ 0 ∧ ¬ nb f ≤ nb g)) i)) (nI i)) 6 ?_ ?_⟩
  · intro n
    refine br_t (nI_le (a := 6) (b := 6) (by omega) (by decide)) ⟨hinf, ?_⟩
    rw [nI_clamp (n := f) (by omega)]
    refine br_c (fun e => nm_r (nI_1 f) (h.1 e)) (fun e => br_c (fun e2 => ?_) (fun e2 => nm_r (nI_1 f) ((h.2 e).2 e2)))
    have hr := (h.2 e).1 e2
    exact br_c (fun e3 => ⟨hinf, hr.1 e3⟩) (fun e3 => br_c (fun e4 => ⟨hinf, (hr.2 e3).1 e4⟩) (fun e4 => (hr.2 e3).2 e4))
  · intro n i hi hk
    have hin : vp_in (nI i) 6 := vp_in_nI hi (by decide)
    refine br_f (nI_ge (b := 6) hi (by decide)) ⟨hin, ?_⟩
    rw [nI_clamp (n := i) (by omega), nI_clamp (n := f) (by omega)]
    refine br_c (fun e => ?_) (fun e => ⟨hin, hinf, br_c (fun e2 => ?_) (fun e2 => ?_)⟩)
    · rw [fr_ct_f (decide_eq_false (fun k => k.1 e))] at hk
      exact nm_r (nI_1 i) hk
    · rw [fr_ct_f (decide_eq_false (fun k => k.2 e2))] at hk
      exact nm_r (nI_1 i) hk
    · rw [fr_ct_t (decide_eq_true ⟨e, e2⟩)] at hk
      exact nm_r (nI_1 _) (nm_r (nI_1 i) hk)
theorem fy_f17_st {post : Int32 → Prop} {v w : Int32} {n i : Nat} (hi : i < 6) (hm : ¬ fr_ag nb v i) (hk : wY_fact_17 post v w rl bl md pc ht sa cn po ac bm ck cg tc tf th tp ds wx wy wz nb kd fl hd my vs pr n (nI (i + 1))) : wY_fact_17 post v w rl bl md pc ht sa cn po ac bm ck cg tc tf th tp ds wx wy wz nb kd fl hd my vs pr (n + 1) (nI i) :=
  br_f (nI_ge (b := 6) hi (by decide)) (fy_f29 hi ⟨fun _ => hk, fun e => ⟨fun e2 => absurd ⟨e, e2⟩ hm, fun _ => hk⟩⟩)
theorem i_vc_fact {k : Nat} {u : SX} {v : SY} (I : i_Rel k u v) (hk : k + 5 ≤ 2560) (v1 : Int32) (v2 : Int32) : wpX_fact (fun r => wpY_fact (fun r' => r' = r ∧ i_Rel (k + 5) u v) v v1 v2) u v1 v2 := by
  have up := i_up I
  obtain ⟨R, B, fc, md, rl, bl, pc, ht, nb, kd, fl, sa, po, ng, tt, ac, ha, bd, bp, bf, ck, cg, tc, tf, th, tp, aw, ak, ao, cs, ex, mx, va, ff, fv, pr, cn, bm, ds, wx, wy, wz, hd, my, vs, rfl, rfl, _⟩ := I
  unfold wpX_fact
  by_cases w0 : v2 < 0
  · have hY : wpY_fact (fun r' => r' = -1 ∧ i_Rel (k + 5) (fc, md, rl, bl, pc, nb, kd, fl, sa, po, ng, tt, ac, ha, bd, bp, bf, ck, cg, tc, tf, th, tp, aw, ak, ao, cs, ex, mx, va, ff, fv, pr) (rl, bl, md, pc, ht, sa, cn, po, ac, bm, ck, cg, tc, tf, th, tp, ds, wx, wy, wz, nb, kd, fl, hd, my, vs, pr)) (rl, bl, md, pc, ht, sa, cn, po, ac, bm, ck, cg, tc, tf, th, tp, ds, wx, wy, wz, nb, kd, fl, hd, my, vs, pr) v1 v2 := br_t w0 ⟨rfl, up⟩
    rcases fr_fst (fr_ag nb v1) 6 with ⟨f, hf, hP, hm⟩ | hm
    · exact fx_age_some hf hP hm (br_f (fr_m1 (by omega)) (br_t w0 hY))
    · exact fx_age_none hm (br_t rfl hY)
  · by_cases w4 : 4 < v2
    · have hY : wpY_fact (fun r' => r' = -1 ∧ i_Rel (k + 5) (fc, md, rl, bl, pc, nb, kd, fl, sa, po, ng, tt, ac, ha, bd, bp, bf, ck, cg, tc, tf, th, tp, aw, ak, ao, cs, ex, mx, va, ff, fv, pr) (rl, bl, md, pc, ht, sa, cn, po, ac, bm, ck, cg, tc, tf, th, tp, ds, wx, wy, wz, nb, kd, fl, hd, my, vs, pr)) (rl, bl, md, pc, ht, sa, cn, po, ac, bm, ck, cg, tc, tf, th, tp, ds, wx, wy, wz, nb, kd, fl, hd, my, vs, pr) v1 v2 := br_f w0 (br_t w4 ⟨rfl, up⟩)
      rcases fr_fst (fr_ag nb v1) 6 with ⟨f, hf, hP, hm⟩ | hm
      · exact fx_age_some hf hP hm (br_f (fr_m1 (by omega)) (br_f w0 (br_t w4 hY)))
      · exact fx_age_none hm (br_t rfl hY)
    · by_cases g0 : 0 ≤ v1
      · rcases fr_fst (fr_ag nb v1) 6 with ⟨f, hf, hP, hm⟩ | hm
        · refine fx_age_some hf hP hm (br_f (fr_m1 (by omega)) (br_f w0 (br_f w4 ?_)))
          have hin : vp_in (nI f) 6 := vp_in_nI hf (by decide)
          have hcl : (nI f).toNatClampNeg = f := nI_clamp (by omega)
          have hY : ∀ post : Int32 → Prop, ((v2 = 0 → post (nb f)) ∧ (¬ v2 = 0 → (v2 = 1 → post (kd f)) ∧ (¬ v2 = 1 → vp_in ((3 * nI f + v2) - 2) 18 ∧ post (fl ((3 * nI f + v2) - 2).toNatClampNeg)))) → wpY_fact post (rl, bl, md, pc, ht, sa, cn, po, ac, bm, ck, cg, tc, tf, th, tp, ds, wx, wy, wz, nb, kd, fl, hd, my, vs, pr) v1 v2 := by
            intro post hpost
            refine br_f w0 (br_f w4 (br_t g0 ⟨f + 1, fr_upto (fun n i => wY_fact_17 post v1 v2 rl bl md pc ht sa cn po ac bm ck cg tc tf th tp ds wx wy wz nb kd fl hd my vs pr n (nI i)) f ?_ ?_⟩))
            · intro n
              exact br_f (nI_ge (b := 6) hf (by decide)) (fy_f29 hf ⟨fun e => absurd e hP.1, fun _ => ⟨fun _ => hpost, fun e2 => absurd hP.2 e2⟩⟩)
            · intro n i hi hk2
              exact fy_f17_st (by omega) (hm i hi) hk2
          obtain ⟨w, hw, rfl⟩ := fr_kind2 (M := 4) (n := 4) (by decide) w0 w4
          have e62 : ∀ w, 2 ≤ w → w < 5 → (nI f * 3 + nI w) - 2 = nI (3 * f + w - 2) := fun w h1 h2 => by
            rw [fr_m3, nI_add]; exact pk_sub (b := 2) (by omega)
          have y62 : ∀ w, 2 ≤ w → w < 5 → (3 * nI f + nI w) - 2 = nI (3 * f + w - 2) := fun w h1 h2 => by
            rw [fr_3m, nI_add]; exact pk_sub (b := 2) (by omega)
          have h62 : 2 ≤ w → wX_fact_62 (fun r => wpY_fact (fun r' => r' = r ∧ i_Rel (k + 5) (fc, md, rl, bl, pc, nb, kd, fl, sa, po, ng, tt, ac, ha, bd, bp, bf, ck, cg, tc, tf, th, tp, aw, ak, ao, cs, ex, mx, va, ff, fv, pr) (rl, bl, md, pc, ht, sa, cn, po, ac, bm, ck, cg, tc, tf, th, tp, ds, wx, wy, wz, nb, kd, fl, hd, my, vs, pr)) (rl, bl, md, pc, ht, sa, cn, po, ac, bm, ck, cg, tc, tf, th, tp, ds, wx, wy, wz, nb, kd, fl, hd, my, vs, pr) v1 (nI w)) (nI w) (nI f) fc md rl bl pc nb kd fl sa po ng tt ac ha bd bp bf ck cg tc tf th tp aw ak ao cs ex mx va ff fv pr := by
            intro h2
            refine ⟨by rw [e62 w h2 (by omega)]; exact vp_in_nI (by omega) (by decide), hY _ (br_f (nI_ne0 (by omega) (by omega)) (br_f ?_ ⟨?_, ?_, up⟩))⟩
            · intro e
              have := (nI_eq (a := w) (b := 1) (by omega) (by omega)).mp e
              omega
            · rw [y62 w h2 (by omega)]; exact vp_in_nI (by omega) (by decide)
            · rw [y62 w h2 (by omega), e62 w h2 (by omega)]
          match w, hw, h62 with
          | 0, _, _ => exact br_t nI_0 ⟨hin, hY _ (br_t nI_0 ⟨by rw [hcl], up⟩)⟩
          | 1, _, _ => exact br_f (by decide) (br_t rfl ⟨hin, hY _ (br_f (by decide) (br_t rfl ⟨by rw [hcl], up⟩))⟩)
          | 2, _, h62 => exact br_f (by decide) (br_f (by decide) (br_t rfl (h62 (by omega))))
          | 3, _, h62 => exact br_f (by decide) (br_f (by decide) (br_f (by decide) (br_t rfl (h62 (by omega)))))
          | 4, _, h62 => exact br_f (by decide) (br_f (by decide) (br_f (by decide) (br_f (by decide) (br_t rfl (h62 (by omega))))))
        · refine fx_age_none hm (br_t rfl (br_f w0 (br_f w4 (br_t g0 ⟨6 + 1, fr_upto (fun n i => wY_fact_17 _ v1 v2 rl bl md pc ht sa cn po ac bm ck cg tc tf th tp ds wx wy wz nb kd fl hd my vs pr n (nI i)) 6 ?_ ?_⟩))))
          · intro n
            exact br_t (nI_le (a := 6) (b := 6) (by omega) (by decide)) ⟨rfl, up⟩
          · intro n i hi hk2
            exact fy_f17_st hi (hm i hi) hk2
      · refine fx_age_none (fun g hg hP => g0 ?_) (br_t rfl (br_f w0 (br_f w4 (br_f g0 ⟨rfl, up⟩))))
        rw [← hP.2]
        exact nI_pos' (by have := fr_ct_le (fun g' => decide (nb g' ≠ 0 ∧ ¬ nb g ≤ nb g')) 6; omega)
/-! ===== the two constructors ===== -/
theorem fr_cs1 {a : Nat → Int32} {i : Nat} (hi : i < 216) (h : ∀ m j, m < i → j < 3 → a (3 * m + j) = nI (fr_dg (fr_sg m) j)) :
    ∀ m j, m < i + 1 → j < 3 → upd (upd (upd a (3 * i) (nI (i % 6))) (3 * i + 1) (nI (i / 6 % 6))) (3 * i + 2) (nI (i / 36 % 6)) (3 * m + j) = nI (fr_dg (fr_sg m) j) := by
  intro m j hm hj
  by_cases e : m = i
  · subst e
    match j, hj with
    | 0, _ =>
      rw [pk_un (by omega), pk_un (by omega), fr_sg_0]
      exact pk_us
    | 1, _ =>
      rw [pk_un (by omega), fr_sg_1]
      exact pk_us
    | 2, _ =>
      rw [fr_sg_2]
      exact pk_us
  · rw [pk_un (by omega), pk_un (by omega), pk_un (by omega)]
    exact h m j (by omega) hj
theorem fr_z {a : Nat → Int32} (h : ∀ i, a i = 0) (i b : Nat) (hb : 0 < b) (hb2 : b ≤ 2 ^ 31) : fr_Lt (a i) b := by
  rw [h i]; exact fr_Lt_0 hb hb2
theorem fr_np_z (r : Nat) : fr_np (fun _ => 0) r 0 = 0 := rfl
theorem fr_RB0 : fr_RB 0 (fun _ => 0) (fun _ => 0) (fun _ => 0) (fun _ => 0) (fun _ => 0) (fun _ => 0) (fun _ => 0) (fun _ => 0) (fun _ => 0) (fun _ => 0) (fun _ => 0) (fun _ => 0) (fun _ => 0) (fun _ => 0) (fun _ => 0) (fun _ => 0) (fun _ => 0) (fun _ => 0) (fun _ => 0) (fun _ => 0) (fun _ => 0) (fun _ => 0) := by
  have z : ∀ b, 0 < b → b ≤ 2 ^ 31 → fr_Lt 0 b := fun b h1 h2 => fr_Lt_0 h1 h2
  have n0 : fr_n 0 = 0 := by decide
  refine ⟨fun r hr => ⟨z 4 (by omega) (by omega), z 3 (by omega) (by omega), ?_, z 5 (by omega) (by omega), ?_, fun _ => ⟨rfl, rfl, rfl⟩⟩, fun r hr => ⟨fun i hi => ⟨z 5 (by omega) (by omega), fun _ => rfl⟩, ?_⟩, fun r i s hr hi hs => ?_, fun r hr => ⟨z 16 (by omega) (by omega), fun _ => rfl, fun x hx => ⟨⟨fun h => ?_, fun h => absurd rfl h⟩, Or.inl rfl, fun h => absurd rfl h⟩⟩, fun r s hr hs => ?_, fun r hr => ⟨fun h => absurd rfl h, fun ⟨s, hs, _⟩ => ?_⟩⟩
  · show (0 : Int32) = nI (fr_n 0 + fr_n 0)
    rw [n0]; rfl
  · show fr_np (fun _ => 0) r (fr_n 0 + fr_n 0) = fr_n 0
    rw [n0]; rfl
  · show (0 : Int32) = nI (fr_tt (fun _ => 0) r (fr_n 0 + fr_n 0))
    rw [n0]; rfl
  · have hs' : s < fr_n 0 := hs
    rw [n0] at hs'
    omega
  · have h' : fr_n 0 / 2 ^ x % 2 = 1 := h
    rw [n0, Nat.zero_div] at h'
    omega
  · have hs' : s < fr_n 0 := hs
    rw [n0] at hs'
    omega
  · have hs' : s < fr_n 0 := hs
    rw [n0] at hs'
    omega
theorem i_vc0 : wpX_init (fun u => wpY_init (fun v => i_Rel 0 u v)) := by
  refine ⟨216 + 1, loop_i (σ := Nat → Int32) (fun n i a => wX_init_249 (fun u => wpY_init (fun v => i_Rel 0 u v)) 0 0 0 0 0 n (nI i) (fun _ => 0) (fun _ => 0) (fun _ => 0) (fun _ => 0) (fun _ => 0) (fun _ => 0) (fun _ => 0) (fun _ => 0) (fun _ => 0) (fun _ => 0) (fun _ => 0) (fun _ => 0) (fun _ => 0) (fun _ => 0) (fun _ => 0) (fun _ => 0) (fun _ => 0) (fun _ => 0) (fun _ => 0) (fun _ => 0) (fun _ => 0) a (fun _ => 0) (fun _ => 0) (fun _ => 0) (fun _ => 0) (fun _ => 0) (fun _ => 0))
    (fun i a => ∀ m j, m < i → j < 3 → a (3 * m + j) = nI (fr_dg (fr_sg m) j)) 216 ?_ ?_ (216 + 1) 0 (fun _ => 0) (by omega) (by omega) (fun m j h => absurd h (Nat.not_lt_zero m))⟩
  · intro n a hI
    refine br_t (nI_le (a := 216) (b := 216) (by omega) (by decide)) ?_
    refine fr_mk (R := 0) (B := 0) ⟨by omega, rfl, by omega, rfl, by omega, fr_RB0, hI, ⟨⟨0, by omega, rfl, fun f hf => fr_Lt_0 (by omega) (by omega)⟩, fun f g hf hg h => absurd rfl h, by decide⟩, fun y hy => ⟨rfl, rfl, fun h => absurd h (by omega), fun _ => rfl⟩⟩
  · intro n i a hi hI hk
    have hge : ¬ (216 : Int32) ≤ nI i := nI_ge (b := 216) hi (by decide)
    have e0 : nI i - nI i / 6 * 6 = nI (i % 6) := fr_r6 (by omega)
    have e1 : nI i / 6 - nI i / 6 / 6 * 6 = nI (i / 6 % 6) := by rw [fr_d6 (by omega), fr_r6 (by omega)]
    have e2 : nI i / 6 / 6 = nI (i / 36 % 6) := by
      rw [fr_d6 (by omega), fr_d6 (by omega)]
      exact congrArg nI (by omega)
    refine br_f hge (nm_r (fr_m3 i) ⟨by decide, vp_in_nI (by omega) (by decide), nm_r (e' := upd a (3 * i) (nI (i % 6))) (by rw [nI_clamp (by omega), e0]) ⟨by decide, by decide, ?_, nm_r (e' := upd (upd a (3 * i) (nI (i % 6))) (3 * i + 1) (nI (i / 6 % 6))) ?_ ⟨by decide, by decide, ?_, nm_r (e' := upd (upd (upd a (3 * i) (nI (i % 6))) (3 * i + 1) (nI (i / 6 % 6))) (3 * i + 2) (nI (i / 36 % 6))) ?_ (nm_r (nI_1 i) (hk _ (fr_cs1 hi hI)))⟩⟩⟩)
    · rw [nI_1]; exact vp_in_nI (by omega) (by decide)
    · rw [nI_1, nI_clamp (by omega), e1]
    · rw [show nI (3 * i) + 2 = nI (3 * i + 2) from nI_add _ 2]; exact vp_in_nI (by omega) (by decide)
    · rw [show nI (3 * i) + 2 = nI (3 * i + 2) from nI_add _ 2, nI_clamp (by omega), e2]
end
