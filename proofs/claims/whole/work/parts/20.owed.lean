theorem i_vc_run {k : Nat} {u : SX} {v : SY} (I : i_Rel k u v) (hk : k + 5 ≤ 2560) (v1 : Int32) : wpX_run (fun r u' => wpY_run (fun r' v' => r' = r ∧ i_Rel (k + 5) u' v') v v1) u v1 := by
  have up := i_up I
  obtain ⟨R, B, fc, md, rl, bl, pc, ht, nb, kd, fl, sa, po, ng, tt, ac, ha, bd, bp, bf, ck, cg, tc, tf, th, tp, aw, ak, ao, cs, ex, mx, va, ff, fv, pr, cn, bm, ds, wx, wy, wz, hd, my, vs, rfl, rfl, h1, rfl, h3, rfl, h5, h6, h7, h8, h9⟩ := I
  by_cases n1 : v1 < 1
  · exact br_t n1 (br_t n1 ⟨rfl, up⟩)
  · by_cases n2 : v1 ≤ 20
    · have n0 : ¬ v1 < 0 := fun h => n1 (by
        rw [Int32.lt_iff_toInt_lt] at h ⊢
        have e0 : (0 : Int32).toInt = 0 := by decide
        have e1 : (1 : Int32).toInt = 1 := by decide
        rw [e0] at h
        rw [e1]
        omega)
      obtain ⟨N, hN, rfl⟩ := fr_kind3 (M := 20) (n := 20) (by decide) n0 n2
      obtain ⟨res, fc2, md2, pc2, ht2, nb2, kd2, fl2, ex2, mx2, va2, ff2, fv2, hd2, my2, vs2, pr2, b1, b2, b3, b4⟩ := fr_runXY (fin := R - B) (N := N) (rl := nI R) (bl := nI B) (sa := sa) (ck := ck) (cs := cs) h7 h6 (by omega) (fr_fin h3 h5) (by omega) N 0 (16 * k) fc md pc 0 nb kd fl ex mx va ff fv hd my vs pr (by omega) h8 (by omega) h9 rfl
      refine br_f n1 (br_t n2 ⟨N + 1, b3 _ (br_f n1 (br_t n2 ⟨N + 1, b4 _ ⟨rfl, ?_⟩⟩))⟩)
      exact fr_mk ⟨h1, rfl, h3, rfl, h5, h6, h7, fr_FB_up b1 (by omega), b2⟩
    · exact br_f n1 (br_f n2 (br_f n1 (br_f n2 ⟨rfl, up⟩)))
