section
variable {fc md rl bl pc ht : Int32} {nb kd fl sa po ng tt ac ha bd bp bf ck cg tc tf th tp aw ak ao cs ex mx va ff fv pr cn bm ds wx wy wz hd my vs : Nat → Int32} {R : Nat}
theorem fx_t141 {post : Int32 → SX → Prop} {r i s T : Nat} {v1 v2 v3 : Int32} (hr : r < 4) (hi : i < 5) (hs : s < 4) (et : tc (5 * r + i) = nI s) (ett : tt r = nI T)
    (h : post 1 (fc, md, rl, bl, pc, nb, kd, fl, sa, po, ng, upd tt r (nI (T + 1)), ac, ha, bd, bp, bf, ck, cg, upd tc (5 * r + i) (nI (s + 1)), upd tf (4 * (5 * r + i) + s) v1, upd th (4 * (5 * r + i) + s) v2, upd tp (4 * (5 * r + i) + s) v3, aw, ak, ao, cs, ex, mx, va, ff, fv, pr)) :
    wX_test_141 post v1 v2 v3 (nI r) (nI (5 * r + i)) fc md rl bl pc nb kd fl sa po ng tt ac ha bd bp bf ck cg tc tf th tp aw ak ao cs ex mx va ff fv pr := by
  have hin : vp_in (nI r) 4 := vp_in_nI hr (by decide)
  have hcl : (nI r).toNatClampNeg = r := nI_clamp (by omega)
  have h20 : vp_in (nI (5 * r + i)) 20 := vp_in_nI (by omega) (by decide)
  have hc2 : (nI (5 * r + i)).toNatClampNeg = 5 * r + i := nI_clamp (by omega)
  have h80 : vp_in (nI (4 * (5 * r + i) + s)) 80 := vp_in_nI (by omega) (by decide)
  have hc3 : (nI (4 * (5 * r + i) + s)).toNatClampNeg = 4 * (5 * r + i) + s := nI_clamp (by omega)
  exact ⟨h20, nm_r (e' := nI (4 * (5 * r + i) + s)) (by rw [hc2, et, fr_m4, nI_add]) ⟨h80, nm_r (e' := upd tf (4 * (5 * r + i) + s) v1) (by rw [hc3]) ⟨h80, nm_r (e' := upd th (4 * (5 * r + i) + s) v2) (by rw [hc3]) ⟨h80, nm_r (e' := upd tp (4 * (5 * r + i) + s) v3) (by rw [hc3]) ⟨h20, h20, nm_r (e' := upd tc (5 * r + i) (nI (s + 1))) (by rw [hc2, et, nI_1]) ⟨hin, hin, nm_r (e' := upd tt r (nI (T + 1))) (by rw [hcl, ett, nI_1]) h⟩⟩⟩⟩⟩⟩
theorem fy_t151 {post : Int32 → SY → Prop} {r i s F H : Nat} {v3 : Int32} (hr : r < 4) (hi : i < 5) (hs : s < 4) (hF : F < 3) (hH : H < 4) (et : tc (5 * r + i) = nI s)
    (h : post 1 (rl, bl, md, pc, ht, sa, cn, po, ac, bm, ck, cg, upd tc (5 * r + i) (nI (s + 1)), upd tf (4 * (5 * r + i) + s) (nI F), upd th (4 * (5 * r + i) + s) (nI H), upd tp (4 * (5 * r + i) + s) v3, ds, wx, wy, wz, nb, kd, fl, hd, my, vs, pr)) :
    wY_test_151 post (nI F) (nI H) v3 (nI (5 * r + i)) rl bl md pc ht sa cn po ac bm ck cg tc tf th tp ds wx wy wz nb kd fl hd my vs pr := by
  have h20 : vp_in (nI (5 * r + i)) 20 := vp_in_nI (by omega) (by decide)
  have hc2 : (nI (5 * r + i)).toNatClampNeg = 5 * r + i := nI_clamp (by omega)
  have h80 : vp_in (nI (4 * (5 * r + i) + s)) 80 := vp_in_nI (by omega) (by decide)
  have hc3 : (nI (4 * (5 * r + i) + s)).toNatClampNeg = 4 * (5 * r + i) + s := nI_clamp (by omega)
  exact ⟨h20, h20, nm_r (e' := upd tc (5 * r + i) (nI (s + 1))) (by rw [hc2, et, nI_1, fr_8 (by omega)]) (nm_r (e' := nI (4 * (5 * r + i) + s)) (by rw [hc2, et, fr_4m, nI_add]) ⟨h80, nm_r (e' := upd tf (4 * (5 * r + i) + s) (nI F)) (by rw [hc3, fr_8 (by omega)]) ⟨h80, nm_r (e' := upd th (4 * (5 * r + i) + s) (nI H)) (by rw [hc3, fr_8 (by omega)]) ⟨h80, nm_r (e' := upd tp (4 * (5 * r + i) + s) v3) (by rw [hc3]) h⟩⟩⟩)⟩
/-! the way to the leaf that both kinds of test share -/
theorem fx_test_in {post : Int32 → SX → Prop} {r i p m s F H : Nat} {v3 : Int32} (hr : r < 4) (hi : i < 5) (hs : s < 4) (hF : F < 3) (hH : H < 4) (ep : po r = nI p) (em : ng r = nI m) (hpm : p + m = i + 1) (ea : ac r = 0) (et : tc (5 * r + i) = nI s)
    (h : (nI H = 3 → vp_in (nI (5 * r + i)) 20 ∧ ((cg (5 * r + i) = 0 → wpX_isVariable (fun r_99 => (r_99 = 0 → post 0 (fc, md, nI (r + 1), 1, pc, nb, kd, fl, sa, po, ng, tt, ac, ha, bd, bp, bf, ck, cg, tc, tf, th, tp, aw, ak, ao, cs, ex, mx, va, ff, fv, pr)) ∧ (¬ r_99 = 0 → wpX_isBound (fun r_101 => (r_101 = 0 → wpX_bindToLastPositive (fun u => match u with | (fc, md, rl, bl, pc, nb, kd, fl, sa, po, ng, tt, ac, ha, bd, bp, bf, ck, cg, tc, tf, th, tp, aw, ak, ao, cs, ex, mx, va, ff, fv, pr) => wX_test_141 post (nI F) (nI H) v3 (nI r) (nI (5 * r + i)) fc md rl bl pc nb kd fl sa po ng tt ac ha bd bp bf ck cg tc tf th tp aw ak ao cs ex mx va ff fv pr) (fc, md, nI (r + 1), 1, pc, nb, kd, fl, sa, po, ng, tt, ac, ha, bd, bp, bf, ck, cg, tc, tf, th, tp, aw, ak, ao, cs, ex, mx, va, ff, fv, pr) (nI r) v3 (nI F)) ∧ (¬ r_101 = 0 → post 0 (fc, md, nI (r + 1), 1, pc, nb, kd, fl, sa, po, ng, tt, ac, ha, bd, bp, bf, ck, cg, tc, tf, th, tp, aw, ak, ao, cs, ex, mx, va, ff, fv, pr))) (fc, md, nI (r + 1), 1, pc, nb, kd, fl, sa, po, ng, tt, ac, ha, bd, bp, bf, ck, cg, tc, tf, th, tp, aw, ak, ao, cs, ex, mx, va, ff, fv, pr) (nI r) v3)) v3) ∧ (¬ cg (5 * r + i) = 0 → post 0 (fc, md, nI (r + 1), 1, pc, nb, kd, fl, sa, po, ng, tt, ac, ha, bd, bp, bf, ck, cg, tc, tf, th, tp, aw, ak, ao, cs, ex, mx, va, ff, fv, pr)))) ∧
      (¬ nI H = 3 → wpX_isUsable (fun r_48 => (r_48 = 0 → post 0 (fc, md, nI (r + 1), 1, pc, nb, kd, fl, sa, po, ng, tt, ac, ha, bd, bp, bf, ck, cg, tc, tf, th, tp, aw, ak, ao, cs, ex, mx, va, ff, fv, pr)) ∧ (¬ r_48 = 0 → wX_test_141 post (nI F) (nI H) v3 (nI r) (nI (5 * r + i)) fc md (nI (r + 1)) 1 pc nb kd fl sa po ng tt ac ha bd bp bf ck cg tc tf th tp aw ak ao cs ex mx va ff fv pr)) (fc, md, nI (r + 1), 1, pc, nb, kd, fl, sa, po, ng, tt, ac, ha, bd, bp, bf, ck, cg, tc, tf, th, tp, aw, ak, ao, cs, ex, mx, va, ff, fv, pr) (nI r) v3)) :
    wpX_test post (fc, md, nI (r + 1), 1, pc, nb, kd, fl, sa, po, ng, tt, ac, ha, bd, bp, bf, ck, cg, tc, tf, th, tp, aw, ak, ao, cs, ex, mx, va, ff, fv, pr) (nI F) (nI H) v3 := by
  have hin : vp_in (nI r) 4 := vp_in_nI hr (by decide)
  have hcl : (nI r).toNatClampNeg = r := nI_clamp (by omega)
  have h20 : vp_in (nI (5 * r + i)) 20 := vp_in_nI (by omega) (by decide)
  have hc2 : (nI (5 * r + i)).toNatClampNeg = 5 * r + i := nI_clamp (by omega)
  refine br_f (by decide) (br_f (nI_pos (by omega)) (br_f (nI_ge (b := 3) hF (by decide)) (br_f (nI_pos (by omega)) (br_t (nI_le (b := 3) (by omega) (by decide)) (nm_r (nI_pred r) ⟨hin, hin, ?_⟩)))))
  rw [hcl, ep, em, nI_add, hpm]
  refine br_f (nI_ne0 (by omega) (by omega)) ⟨hin, br_t (by rw [ea]; exact Int32.le_refl _) (nm_r (e' := nI (5 * r + i)) (by rw [fr_m5, nI_add]; exact nI_pred (5 * r + i)) ⟨h20, br_t ?_ ?_⟩)⟩
  · rw [hc2, et]; exact nI_lt (b := 4) hs (by decide)
  · rw [hc2]; exact h
theorem fy_test_in {post : Int32 → SY → Prop} {r i n s F H : Nat} {v3 : Int32} (hr : r < 4) (hi : i < 5) (hs : s < 4) (hF : F < 3) (hH : H < 4) (en : cn r = nI (i + 1)) (ea : ac r = 0) (et : tc (5 * r + i) = nI s)
    (h : (nI H = 3 → vp_in (nI (5 * r + i)) 20 ∧ ((cg (5 * r + i) = 0 → (v3 < 0 → post 0 (nI (r + 1), 1, md, pc, ht, sa, cn, po, ac, bm, ck, cg, tc, tf, th, tp, ds, wx, wy, wz, nb, kd, fl, hd, my, vs, pr)) ∧ (¬ v3 < 0 → (3 < v3 → post 0 (nI (r + 1), 1, md, pc, ht, sa, cn, po, ac, bm, ck, cg, tc, tf, th, tp, ds, wx, wy, wz, nb, kd, fl, hd, my, vs, pr)) ∧ (¬ 3 < v3 → vp_in (nI r) 4 ∧ (((bm r >>> (v3 &&& 31)) &&& 1 = 0 → vp_in (nI r) 4 ∧ vp_in (nI r) 4 ∧ ∀ a_b, a_b = upd bm r (vp_nar .byte (bm r ||| ((1 : Int32) <<< (v3 &&& 31))).toInt8.toInt32) → wY_test_151 post (nI F) (nI H) v3 (nI (5 * r + i)) (nI (r + 1)) 1 md pc ht sa cn po ac a_b ck cg tc tf th tp ds wx wy wz nb kd fl hd my vs pr) ∧ (¬ (bm r >>> (v3 &&& 31)) &&& 1 = 0 → post 0 (nI (r + 1), 1, md, pc, ht, sa, cn, po, ac, bm, ck, cg, tc, tf, th, tp, ds, wx, wy, wz, nb, kd, fl, hd, my, vs, pr)))))) ∧ (¬ cg (5 * r + i) = 0 → post 0 (nI (r + 1), 1, md, pc, ht, sa, cn, po, ac, bm, ck, cg, tc, tf, th, tp, ds, wx, wy, wz, nb, kd, fl, hd, my, vs, pr)))) ∧
      (¬ nI H = 3 → wpY_known (fun r_16 => (r_16 = 0 → post 0 (nI (r + 1), 1, md, pc, ht, sa, cn, po, ac, bm, ck, cg, tc, tf, th, tp, ds, wx, wy, wz, nb, kd, fl, hd, my, vs, pr)) ∧ (¬ r_16 = 0 → wY_test_151 post (nI F) (nI H) v3 (nI (5 * r + i)) (nI (r + 1)) 1 md pc ht sa cn po ac bm ck cg tc tf th tp ds wx wy wz nb kd fl hd my vs pr)) (nI (r + 1), 1, md, pc, ht, sa, cn, po, ac, bm, ck, cg, tc, tf, th, tp, ds, wx, wy, wz, nb, kd, fl, hd, my, vs, pr) v3)) :
    wpY_test post (nI (r + 1), 1, md, pc, ht, sa, cn, po, ac, bm, ck, cg, tc, tf, th, tp, ds, wx, wy, wz, nb, kd, fl, hd, my, vs, pr) (nI F) (nI H) v3 := by
  have hin : vp_in (nI r) 4 := vp_in_nI hr (by decide)
  have hcl : (nI r).toNatClampNeg = r := nI_clamp (by omega)
  have h20 : vp_in (nI (5 * r + i)) 20 := vp_in_nI (by omega) (by decide)
  have hc2 : (nI (5 * r + i)).toNatClampNeg = 5 * r + i := nI_clamp (by omega)
  refine nm_r (nI_pred r) (br_f (by decide) ⟨hin, ?_⟩)
  rw [hcl, en]
  refine br_f (nI_ne0 (by omega) (by omega)) ⟨hin, br_t (by rw [ea]; exact Int32.le_refl _) ⟨hin, nm_r (e' := nI (5 * r + i)) (by rw [fr_5m, nI_add]; exact nI_pred (5 * r + i)) ⟨h20, br_f ?_ ?_⟩⟩⟩
  · rw [hc2, et]
    intro e
    have := (nI_eq (a := s) (b := 4) (by omega) (by omega)).mp e
    omega
  · rw [hc2]
    exact br_f (nI_pos (by omega)) (br_f (nI_nlt (a := 2) (by omega) (by decide)) (br_f (nI_pos (by omega)) (br_t (nI_le (b := 3) (by omega) (by decide)) h)))
theorem i_vc_test {k : Nat} {u : SX} {v : SY} (I : i_Rel k u v) (hk : k + 5 ≤ 2560) (v1 : Int32) (v2 : Int32) (v3 : Int32) : wpX_test (fun r u' => wpY_test (fun r' v' => r' = r ∧ i_Rel (k + 5) u' v') v v1 v2 v3) u v1 v2 v3 := by
  have up := i_up I
  obtain ⟨R, B, fc, md, rl, bl, pc, ht, nb, kd, fl, sa, po, ng, tt, ac, ha, bd, bp, bf, ck, cg, tc, tf, th, tp, aw, ak, ao, cs, ex, mx, va, ff, fv, pr, cn, bm, ds, wx, wy, wz, hd, my, vs, rfl, rfl, h1, rfl, h3, rfl, h5, h6, h7, h8, h9⟩ := I
  rcases (show B = 0 ∨ B = 1 by omega) with rfl | rfl
  · exact br_t nI_0 (nm_e (br_t nI_0 ⟨rfl, up⟩))
  · obtain ⟨r, rfl⟩ : ∃ r, R = r + 1 := ⟨R - 1, by omega⟩
    have hr : r < 4 := by omega
    by_cases ok : fr_tOK r v1 v2 v3 po ng ac cg tc bd
    · obtain ⟨o1, o2, o3, ⟨F, hF, rfl⟩, ⟨H, hH, rfl⟩, o6, o7⟩ := ok
      obtain ⟨q1, q2, q3, q4, q5, q6⟩ := h6.1 r hr
      have ea : ac r = 0 := by rw [q4.2, o2]; rfl
      obtain ⟨p, hp4, ep, np⟩ := fr_Lt_ex q1
      obtain ⟨m, hm3, em, nm⟩ := fr_Lt_ex q2
      obtain ⟨i, ei⟩ : ∃ i, p + m = i + 1 := ⟨p + m - 1, by rw [np, nm] at o1; omega⟩
      have hi5 : i < 5 := by omega
      rw [np, nm, ei] at o3 o6
      have en : cn r = nI (i + 1) := by rw [q3, np, nm, ei]
      obtain ⟨s, hs5, es, ns⟩ := fr_Lt_ex ((h6.2.1 r hr).1 i hi5).1
      have hs4 : s < 4 := by
        have : fr_n (tc (5 * r + i)) < 4 := o3
        omega
      have ett := (h6.2.1 r hr).2
      have hFL : fr_FL r (fr_M nb kd fl po ng ck cg tc tf th tp bp bf) ex mx hd my := h9
      have hi' : i + 1 = fr_n (po r) + fr_n (ng r) := by rw [np, nm, ei]
      by_cases eH : H = 3
      · subst eH
        obtain ⟨c0, x, hx, rfl, hb0⟩ := o6 rfl
        have c0' : cg (5 * r + i) = 0 := c0
        have hp1 : 1 ≤ p := by
          have := fr_np_s (cg := cg) c0'
          rw [hi', q5, np] at this
          omega
        refine fx_test_in hr hi5 hs4 hF hH ep em ei ea es (br_t rfl ⟨vp_in_nI (by omega) (by decide), br_t c0' (br_f (nI_pos (by omega)) (br_f (nI_ge (b := 4) hx (by decide)) (br_f (by decide) (fx_bound h6.2.2.2.1 hr hx (br_t hb0 ?_)))))⟩)
        have h16 : vp_in (nI (4 * r + x)) 16 := vp_in_nI (by omega) (by decide)
        have hin : vp_in (nI r) 4 := vp_in_nI hr (by decide)
        have hcl : (nI r).toNatClampNeg = r := nI_clamp (by omega)
        have hc4 : (nI (4 * r + x)).toNatClampNeg = 4 * r + x := nI_clamp (by omega)
        refine nm_r (e' := nI (4 * r + x)) (by rw [fr_m4, nI_add]) ⟨h16, nm_r (e' := upd bd (4 * r + x) 1) (by rw [hc4, fr_b1]) ⟨hin, h16, nm_r (e' := upd bp (4 * r + x) (nI (p - 1))) (by rw [hc4, hcl, ep]; exact congrArg (upd bp (4 * r + x)) (pk_sub (b := 1) hp1)) ⟨h16, nm_r (e' := upd bf (4 * r + x) (nI F)) (by rw [hc4]) ?_⟩⟩⟩
        refine fx_t141 hr hi5 hs4 es ett ?_
        obtain ⟨c1, c2, c3⟩ := h6.2.2.2.1 r hr
        obtain ⟨d1, d2, d3⟩ := c3 x hx
        have hbit : (bm r >>> (nI x &&& 31)) &&& 1 = 0 := by
          refine (congrArg (fun z => (z >>> (nI x &&& 31)) &&& 1) c1.2).trans ((fr_16c _ c1.1 x hx).trans ?_)
          have hlt : fr_n (bm r) / 2 ^ x % 2 < 2 := Nat.mod_lt _ (by omega)
          have : fr_n (bm r) / 2 ^ x % 2 = 0 := by
            by_cases e1 : fr_n (bm r) / 2 ^ x % 2 = 1
            · exact absurd hb0 (d1.mp e1)
            · omega
          rw [this]; rfl
        have hbm : upd bm r (vp_nar .byte (bm r ||| ((1 : Int32) <<< (nI x &&& 31))).toInt8.toInt32) = upd bm r (nI (fr_n (bm r) ||| 2 ^ x)) := by
          have e1 : bm r ||| ((1 : Int32) <<< (nI x &&& 31)) = nI (fr_n (bm r)) ||| ((1 : Int32) <<< (nI x &&& 31)) := congrArg (fun z => z ||| ((1 : Int32) <<< (nI x &&& 31))) c1.2
          rw [e1]
          have e2 := fr_16a _ c1.1 x hx
          rw [vp_nar_byte] at e2
          rw [e2]
          exact congrArg (upd bm r) (fr_n8 (by have := (fr_16b _ c1.1 x hx).1; omega))
        refine fy_test_in (n := 0) hr hi5 hs4 hF hH en ea es (br_t rfl ⟨vp_in_nI (by omega) (by decide), br_t c0' (br_f (nI_pos (by omega)) (br_f (nI_nlt (a := 3) (by omega) (by decide)) ⟨hin, br_t hbit ⟨hin, hin, nm_r hbm ?_⟩⟩))⟩)
        refine fy_t151 (H := 3) hr hi5 hs4 hF hH es ⟨rfl, ?_⟩
        refine fr_mk (B := 1) ⟨h1, rfl, h3, rfl, h5, ?_, h7, fr_FB_up h8 (by omega), ?_⟩
        · have := fr_test_b (x := x) (F := nI F) h6 rfl hr hi' ns hs4 hx hb0 c0' (fr_Lt_n hF (by omega))
          rw [np] at this ⊢
          exact this
        · exact fr_FL_b h6.1 h6.2.1 (by omega) (fun _ _ => rfl) (fun _ _ => rfl) (fun _ _ => rfl) (fun _ _ => rfl) (fun q hq => pk_un (by omega)) (fun q hq => pk_un (by omega)) (fun q hq => pk_un (by omega)) (fun q hq => pk_un (by omega)) (fun q hq => pk_un (by omega)) (fun q hq => pk_un (by omega)) hFL
      · have eH' : ¬ nI H = 3 := fun e => eH ((nI_eq (b := 3) (by omega) (by omega)).mp e)
        have us := o7 eH'
        refine fx_test_in hr hi5 hs4 hF hH ep em ei ea es (br_f eH' (fx_usable h6.2.2.2.1 hr ?_))
        rw [fr_bt us]
        refine br_f (by decide) (fx_t141 hr hi5 hs4 es ett ?_)
        refine fy_test_in (n := 0) hr hi5 hs4 hF hH en ea es (br_f eH' (fy_known h6.2.2.2.1 hr ?_))
        rw [fr_bt us]
        refine br_f (by decide) (fy_t151 hr hi5 hs4 hF hH es ⟨rfl, ?_⟩)
        refine fr_mk (B := 1) ⟨h1, rfl, h3, rfl, h5, fr_test_n h6 rfl hr hi' ns hs4 (by omega) us (fr_Lt_n hF (by omega)), h7, fr_FB_up h8 (by omega), ?_⟩
        exact fr_FL_b h6.1 h6.2.1 (by omega) (fun _ _ => rfl) (fun _ _ => rfl) (fun _ _ => rfl) (fun _ _ => rfl) (fun q hq => pk_un (by omega)) (fun q hq => pk_un (by omega)) (fun q hq => pk_un (by omega)) (fun q hq => pk_un (by omega)) (fun _ _ => rfl) (fun _ _ => rfl) hFL
    · exact fx_test_no h6.1 h6.2.1 h6.2.2.2.1 hr ok (fy_test_no h6.1 h6.2.1 h6.2.2.2.1 hr ok ⟨rfl, up⟩)
end
