section
variable {fc md rl bl pc ht : Int32} {nb kd fl sa po ng tt ac ha bd bp bf ck cg tc tf th tp aw ak ao cs ex mx va ff fv pr cn bm ds wx wy wz hd my vs : Nat → Int32} {R : Nat}
/-! ===== actions: make, act ===== -/
def fr_aOK (r : Nat) (po ac : Nat → Int32) : Prop := 0 < fr_n (po r) ∧ fr_n (ac r) < 4
theorem fx_takes {post : Int32 → Prop} {r : Nat} (h2 : fr_R2 (r + 1) po ng cn ac cg) (hr : r < 4) (h : post (fr_b (fr_aOK r po ac))) : wpX_takesAction post (fc, md, nI (r + 1), 1, pc, nb, kd, fl, sa, po, ng, tt, ac, ha, bd, bp, bf, ck, cg, tc, tf, th, tp, aw, ak, ao, cs, ex, mx, va, ff, fv, pr) := by
  obtain ⟨q1, q2, q3, q4, q5, q6⟩ := h2 r hr
  have p4 := q1.1
  have a5 := q4.1
  have hin : vp_in (nI (r + 1) - 1) 4 := by rw [nI_pred]; exact vp_in_nI hr (by decide)
  have hcl : (nI (r + 1) - 1).toNatClampNeg = r := by rw [nI_pred]; exact nI_clamp (by omega)
  refine br_f (by decide) ⟨hin, pk_le (fr_n (po r)) 0 (fun l => ?_) (fun l => ⟨hin, pk_le 4 (fr_n (ac r)) (fun l2 => ?_) (fun l2 => ?_) rfl (by rw [hcl]; exact q4.2) (by omega) (by omega)⟩) (by rw [hcl]; exact q1.2) rfl (by omega) (by omega)⟩
  · rw [fr_bf (fun H => by have := H.1; omega)] at h
    exact h
  · rw [fr_bf (fun H => by have := H.2; omega)] at h
    exact h
  · rw [fr_bt (p := fr_aOK r po ac) ⟨l, l2⟩] at h
    exact h
theorem fy_noact {post : Int32 → Prop} {r : Nat} (h2 : fr_R2 (r + 1) po ng cn ac cg) (hr : r < 4) (h : post (fr_b (¬ fr_aOK r po ac))) : wpY_noAction post (nI (r + 1), 1, md, pc, ht, sa, cn, po, ac, bm, ck, cg, tc, tf, th, tp, ds, wx, wy, wz, nb, kd, fl, hd, my, vs, pr) := by
  obtain ⟨q1, q2, q3, q4, q5, q6⟩ := h2 r hr
  have p4 := q1.1
  have a5 := q4.1
  have hin : vp_in (nI (r + 1) - 1) 4 := by rw [nI_pred]; exact vp_in_nI hr (by decide)
  have hcl : (nI (r + 1) - 1).toNatClampNeg = r := by rw [nI_pred]; exact nI_clamp (by omega)
  refine br_f (by decide) ⟨hin, pk_eq (fr_n (po r)) 0 (fun l => ?_) (fun l => ⟨hin, pk_eq (fr_n (ac r)) 4 (fun l2 => ?_) (fun l2 => ?_) (by rw [hcl]; exact q4.2) rfl (by omega) (by omega)⟩) (by rw [hcl]; exact q1.2) rfl (by omega) (by omega)⟩
  · rw [fr_bt (p := ¬ fr_aOK r po ac) (fun H => by have := H.1; omega)] at h
    exact h
  · rw [fr_bt (p := ¬ fr_aOK r po ac) (fun H => by have := H.2; omega)] at h
    exact h
  · rw [fr_bf (p := ¬ fr_aOK r po ac) (fun H => H ⟨by omega, by omega⟩)] at h
    exact h
theorem fx_append {post : SX → Prop} {r a : Nat} {W K X Y Z : Int32} (hr : r < 4) (ha4 : a < 4) (ea : ac r = nI a)
    (h : post (fc, md, nI (r + 1), bl, pc, nb, kd, fl, sa, po, ng, tt, upd ac r (nI (a + 1)), ha, bd, bp, bf, ck, cg, tc, tf, th, tp, upd aw (4 * r + a) W, upd ak (4 * r + a) K, upd (upd (upd ao (3 * (4 * r + a)) X) (3 * (4 * r + a) + 1) Y) (3 * (4 * r + a) + 2) Z, cs, ex, mx, va, ff, fv, pr)) :
    wpX_appendAction post (fc, md, nI (r + 1), bl, pc, nb, kd, fl, sa, po, ng, tt, ac, ha, bd, bp, bf, ck, cg, tc, tf, th, tp, aw, ak, ao, cs, ex, mx, va, ff, fv, pr) W K X Y Z := by
  have hin : vp_in (nI r) 4 := vp_in_nI hr (by decide)
  have hcl : (nI r).toNatClampNeg = r := nI_clamp (by omega)
  have h16 : vp_in (nI (4 * r + a)) 16 := vp_in_nI (by omega) (by decide)
  have hc2 : (nI (4 * r + a)).toNatClampNeg = 4 * r + a := nI_clamp (by omega)
  have e0 : nI (4 * r + a) * 3 = nI (3 * (4 * r + a)) := fr_m3 _
  have e1 : nI (4 * r + a) * 3 + 1 = nI (3 * (4 * r + a) + 1) := by rw [fr_m3, nI_1]
  have e2 : nI (4 * r + a) * 3 + 2 = nI (3 * (4 * r + a) + 2) := by rw [fr_m3]; exact nI_add _ 2
  refine nm_r (nI_pred r) ⟨hin, nm_r (e' := nI (4 * r + a)) (by rw [hcl, ea, fr_m4, nI_add]) ⟨h16, nm_r (e' := upd aw (4 * r + a) W) (by rw [hc2]) ⟨h16, nm_r (e' := upd ak (4 * r + a) K) (by rw [hc2]) ⟨?_, nm_r (e' := upd ao (3 * (4 * r + a)) X) (by rw [e0, nI_clamp (by omega)]) ⟨?_, nm_r (e' := upd (upd ao (3 * (4 * r + a)) X) (3 * (4 * r + a) + 1) Y) (by rw [e1, nI_clamp (by omega)]) ⟨?_, nm_r (e' := upd (upd (upd ao (3 * (4 * r + a)) X) (3 * (4 * r + a) + 1) Y) (3 * (4 * r + a) + 2) Z) (by rw [e2, nI_clamp (by omega)]) ⟨hin, hin, nm_r (e' := upd ac r (nI (a + 1))) (by rw [hcl, ea, nI_1]) h⟩⟩⟩⟩⟩⟩⟩
  · rw [e0]; exact vp_in_nI (by omega) (by decide)
  · rw [e1]; exact vp_in_nI (by omega) (by decide)
  · rw [e2]; exact vp_in_nI (by omega) (by decide)
theorem fy_action {post : Int32 → SY → Prop} {r a D : Nat} {X Y Z : Int32} (hr : r < 4) (ha4 : a < 4) (ea : ac r = nI a) (hD : D < 128)
    (h : post 1 (nI (r + 1), bl, md, pc, ht, sa, cn, po, upd ac r (nI (a + 1)), bm, ck, cg, tc, tf, th, tp, upd ds (4 * r + a) (nI D), upd wx (4 * r + a) X, upd wy (4 * r + a) Y, upd wz (4 * r + a) Z, nb, kd, fl, hd, my, vs, pr)) :
    wpY_action post (nI (r + 1), bl, md, pc, ht, sa, cn, po, ac, bm, ck, cg, tc, tf, th, tp, ds, wx, wy, wz, nb, kd, fl, hd, my, vs, pr) (nI D) X Y Z := by
  have hin : vp_in (nI (r + 1) - 1) 4 := by rw [nI_pred]; exact vp_in_nI hr (by decide)
  have hcl : (nI (r + 1) - 1).toNatClampNeg = r := by rw [nI_pred]; exact nI_clamp (by omega)
  have h16 : vp_in (nI (4 * r + a)) 16 := vp_in_nI (by omega) (by decide)
  have hc2 : (nI (4 * r + a)).toNatClampNeg = 4 * r + a := nI_clamp (by omega)
  have e4 : 4 * nI (r + 1) - 4 = nI (4 * r) := by
    rw [fr_4m]
    exact (pk_sub (a := 4 * (r + 1)) (b := 4) (by omega)).trans (congrArg nI (by omega))
  exact ⟨hin, hin, nm_r (e' := upd ac r (nI (a + 1))) (by rw [hcl, ea, nI_1, fr_8 (by omega)]) (nm_r (e' := nI (4 * r + a)) (by rw [hcl, ea, e4, nI_add]) ⟨h16, nm_r (e' := upd ds (4 * r + a) (nI D)) (by rw [hc2, fr_8 hD]) ⟨h16, nm_r (e' := upd wx (4 * r + a) X) (by rw [hc2]) ⟨h16, nm_r (e' := upd wy (4 * r + a) Y) (by rw [hc2]) ⟨h16, nm_r (e' := upd wz (4 * r + a) Z) (by rw [hc2]) h⟩⟩⟩⟩)⟩
/-! a branch by a flag -/
theorem fr_brf {p A B : Prop} (a : ¬ p → A) (b : p → B) : (fr_b p = 0 → A) ∧ (¬ fr_b p = 0 → B) := by
  rw [fr_b0]
  exact ⟨a, fun h => b (Classical.byContradiction h)⟩
theorem i_vc_make {k : Nat} {u : SX} {v : SY} (I : i_Rel k u v) (hk : k + 5 ≤ 2560) (v1 : Int32) (v2 : Int32) (v3 : Int32) (v4 : Int32) : wpX_make (fun r u' => wpY_make (fun r' v' => r' = r ∧ i_Rel (k + 5) u' v') v v1 v2 v3 v4) u v1 v2 v3 v4 := by
  have up := i_up I
  obtain ⟨R, B, fc, md, rl, bl, pc, ht, nb, kd, fl, sa, po, ng, tt, ac, ha, bd, bp, bf, ck, cg, tc, tf, th, tp, aw, ak, ao, cs, ex, mx, va, ff, fv, pr, cn, bm, ds, wx, wy, wz, hd, my, vs, rfl, rfl, h1, rfl, h3, rfl, h5, h6, h7, h8, h9⟩ := I
  rcases (show B = 0 ∨ B = 1 by omega) with rfl | rfl
  · unfold wpX_make
    refine br_t nI_0 (br_t rfl ?_)
    unfold wpY_make
    exact br_t nI_0 (br_f (by decide) ⟨rfl, up⟩)
  · obtain ⟨r, rfl⟩ : ∃ r, R = r + 1 := ⟨R - 1, by omega⟩
    have hr : r < 4 := by omega
    have h5' := h6.2.2.2.1
    have hX : ∀ post : Int32 → SX → Prop, (fr_aOK r po ac → ∀ kk, kk < 4 → v1 = nI kk → fr_Us bd r v2 → fr_Us bd r v3 → fr_Us bd r v4 → wpX_appendAction (fun u => match u with | (fc, md, rl, bl, pc, nb, kd, fl, sa, po, ng, tt, ac, ha, bd, bp, bf, ck, cg, tc, tf, th, tp, aw, ak, ao, cs, ex, mx, va, ff, fv, pr) => post 1 (fc, md, rl, bl, pc, nb, kd, fl, sa, po, ng, tt, ac, ha, bd, bp, bf, ck, cg, tc, tf, th, tp, aw, ak, ao, cs, ex, mx, va, ff, fv, pr)) (fc, md, nI (r + 1), 1, pc, nb, kd, fl, sa, po, ng, tt, ac, ha, bd, bp, bf, ck, cg, tc, tf, th, tp, aw, ak, ao, cs, ex, mx, va, ff, fv, pr) 3 (nI kk) v2 v3 v4) →
        (¬ (fr_aOK r po ac ∧ (∃ kk, kk < 4 ∧ v1 = nI kk) ∧ fr_Us bd r v2 ∧ fr_Us bd r v3 ∧ fr_Us bd r v4) → post 0 (fc, md, nI (r + 1), 1, pc, nb, kd, fl, sa, po, ng, tt, ac, ha, bd, bp, bf, ck, cg, tc, tf, th, tp, aw, ak, ao, cs, ex, mx, va, ff, fv, pr)) → wpX_make post (fc, md, nI (r + 1), 1, pc, nb, kd, fl, sa, po, ng, tt, ac, ha, bd, bp, bf, ck, cg, tc, tf, th, tp, aw, ak, ao, cs, ex, mx, va, ff, fv, pr) v1 v2 v3 v4 := by
      intro post hok hno
      unfold wpX_make
      refine fx_takes h6.1 hr (fr_brf (fun n1 => hno (fun H => n1 H.1)) (fun y1 => ?_))
      refine br_c (fun n2 => br_t rfl (hno (fun ⟨_, ⟨kk, hkk, e⟩, _⟩ => by rw [e] at n2; exact nI_pos (by omega) n2))) (fun a1 => br_c (fun n2 => br_t rfl (hno (fun ⟨_, ⟨kk, hkk, e⟩, _⟩ => by rw [e] at n2; exact nI_ge (b := 4) hkk (by decide) n2))) (fun a2 => br_f (by decide) (nm_r (nI_pred r) ?_)))
      refine fx_usable h5' hr (fr_brf (fun n3 => hno (fun H => n3 H.2.2.1)) (fun y3 => ?_))
      refine fx_usable h5' hr (fr_brf (fun n4 => hno (fun H => n4 H.2.2.2.1)) (fun y4 => ?_))
      refine fx_usable h5' hr (fr_brf (fun n5 => hno (fun H => n5 H.2.2.2.2)) (fun y5 => ?_))
      obtain ⟨kk, hkk, e⟩ := fr_kind (n := 4) (by omega) a1 a2
      rw [e]
      exact hok y1 kk hkk e y3 y4 y5
    have hY : ∀ post : Int32 → SY → Prop, (fr_aOK r po ac → ∀ kk, kk < 4 → v1 = nI kk → fr_Us bd r v2 → fr_Us bd r v3 → fr_Us bd r v4 → wpY_action (fun r_119 u => match u with | (rl, bl, md, pc, ht, sa, cn, po, ac, bm, ck, cg, tc, tf, th, tp, ds, wx, wy, wz, nb, kd, fl, hd, my, vs, pr) => narrow .boolean (.int r_119) = .int r_119 ∧ post r_119 (rl, bl, md, pc, ht, sa, cn, po, ac, bm, ck, cg, tc, tf, th, tp, ds, wx, wy, wz, nb, kd, fl, hd, my, vs, pr)) (nI (r + 1), 1, md, pc, ht, sa, cn, po, ac, bm, ck, cg, tc, tf, th, tp, ds, wx, wy, wz, nb, kd, fl, hd, my, vs, pr) (nI (10 + kk)) v2 v3 v4) →
        (¬ (fr_aOK r po ac ∧ (∃ kk, kk < 4 ∧ v1 = nI kk) ∧ fr_Us bd r v2 ∧ fr_Us bd r v3 ∧ fr_Us bd r v4) → post 0 (nI (r + 1), 1, md, pc, ht, sa, cn, po, ac, bm, ck, cg, tc, tf, th, tp, ds, wx, wy, wz, nb, kd, fl, hd, my, vs, pr)) → wpY_make post (nI (r + 1), 1, md, pc, ht, sa, cn, po, ac, bm, ck, cg, tc, tf, th, tp, ds, wx, wy, wz, nb, kd, fl, hd, my, vs, pr) v1 v2 v3 v4 := by
      intro post hok hno
      unfold wpY_make
      refine fy_noact h6.1 hr (fr_brf (fun y1 => ?_) (fun n1 => hno (fun H => n1 H.1)))
      have y1' : fr_aOK r po ac := Classical.byContradiction y1
      refine br_c (fun n2 => hno (fun ⟨_, ⟨kk, hkk, e⟩, _⟩ => by rw [e] at n2; exact nI_pos (by omega) n2)) (fun a1 => br_c (fun n2 => hno (fun ⟨_, ⟨kk, hkk, e⟩, _⟩ => by rw [e] at n2; exact nI_nlt (a := 3) (by omega) (by decide) n2)) (fun a2 => ?_))
      refine fy_known h5' hr (fr_brf (fun n3 => hno (fun H => n3 H.2.2.1)) (fun y3 => ?_))
      refine fy_known h5' hr (fr_brf (fun n4 => hno (fun H => n4 H.2.2.2.1)) (fun y4 => ?_))
      refine fy_known h5' hr (fr_brf (fun n5 => hno (fun H => n5 H.2.2.2.2)) (fun y5 => ?_))
      obtain ⟨kk, hkk, e⟩ := fr_kind2 (M := 3) (n := 3) (by decide) a1 a2
      rw [e, show (10 : Int32) + nI kk = nI (10 + kk) from nI_add 10 kk]
      exact hok y1' kk hkk e y3 y4 y5
    refine hX _ (fun y1 kk hkk e y3 y4 y5 => ?_) (fun no => hY _ (fun y1 kk hkk e y3 y4 y5 => absurd ⟨y1, ⟨kk, hkk, e⟩, y3, y4, y5⟩ no) (fun _ => ⟨rfl, up⟩))
    obtain ⟨q1, q2, q3, q4, q5, q6⟩ := h6.1 r hr
    obtain ⟨a, ha5, ea, na⟩ := fr_Lt_ex q4
    have ha4 : a < 4 := by have := y1.2; omega
    refine fx_append hr ha4 ea (hY _ (fun _ kk' hkk' e' _ _ _ => ?_) (fun no => absurd ⟨y1, ⟨kk, hkk, e⟩, y3, y4, y5⟩ no))
    have ek : kk = kk' := (nI_eq (by omega) (by omega)).mp (e.symm.trans e')
    subst ek
    refine fy_action hr ha4 ea (by omega) ⟨rfl, rfl, fr_mk (B := 1) ⟨h1, rfl, h3, rfl, h5, fr_acts (X := v2) (Y := v3) (Z := v4) (ha' := ha) h6 rfl hr na ha4 (fun z hz => pk_un hz) (fun z hz => pk_un hz) (fun z hz => pk_un hz) (fun z hz => by rw [pk_un (by omega), pk_un (by omega), pk_un (by omega)]) (fun _ _ => rfl) ?_ ?_, h7, fr_FB_up h8 (by omega), h9⟩⟩
    · constructor
      · exact Or.inl
      · intro H
        rcases H with H | H
        · exact H
        · have := (nI_eq (a := 10 + kk) (b := 2) (by omega) (by omega)).mp H
          omega
    · unfold fr_Aw
      rw [pk_us, pk_us, pk_us, pk_us, pk_us, pk_us, pk_us]
      refine Or.inr (Or.inr (Or.inr ⟨kk, hkk, rfl, rfl, rfl, ?_, ?_, rfl, y3, y4, y5⟩))
      · rw [pk_un (by omega), pk_un (by omega), pk_us]
      · rw [pk_un (by omega), pk_us]
def fr_actOK (r : Nat) (v1 v2 : Int32) (po ac bd : Nat → Int32) : Prop :=
  fr_aOK r po ac ∧ ((v1 = 0 ∧ ∃ o, o < fr_n (po r) ∧ v2 = nI o) ∨ (v1 = 1 ∧ fr_Us bd r v2) ∨ v1 = 2)
theorem fx_act {post : Int32 → SX → Prop} {r : Nat} {v1 v2 : Int32} (h2 : fr_R2 (r + 1) po ng cn ac cg) (h5 : fr_R5 (r + 1) tc th tp bd bp bf bm) (hr : r < 4)
    (hok : fr_actOK r v1 v2 po ac bd → wX_act_61 post v1 v2 (nI r) fc md (nI (r + 1)) 1 pc nb kd fl sa po ng tt ac ha bd bp bf ck cg tc tf th tp aw ak ao cs ex mx va ff fv pr) (hno : ¬ fr_actOK r v1 v2 po ac bd → post 0 (fc, md, nI (r + 1), 1, pc, nb, kd, fl, sa, po, ng, tt, ac, ha, bd, bp, bf, ck, cg, tc, tf, th, tp, aw, ak, ao, cs, ex, mx, va, ff, fv, pr)) :
    wpX_act post (fc, md, nI (r + 1), 1, pc, nb, kd, fl, sa, po, ng, tt, ac, ha, bd, bp, bf, ck, cg, tc, tf, th, tp, aw, ak, ao, cs, ex, mx, va, ff, fv, pr) v1 v2 := by
  obtain ⟨q1, q2, q3, q4, q5, q6⟩ := h2 r hr
  have hcl : (nI r).toNatClampNeg = r := nI_clamp (by omega)
  unfold wpX_act
  refine fx_takes h2 hr (fr_brf (fun n1 => hno (fun H => n1 H.1)) (fun y1 => ?_))
  refine br_c (fun n2 => hno (fun H => ?_)) (fun a1 => br_c (fun a2 => nm_r (nI_pred r) (br_c (fun e0 => br_c (fun n3 => hno (fun H => ?_)) (fun a3 => ⟨vp_in_nI hr (by decide), br_c (fun a4 => br_f ?_ (hok ⟨y1, ?_⟩)) (fun n4 => hno (fun H => ?_))⟩)) (fun e0 => br_c (fun e1 => ?_) (fun e1 => hok ⟨y1, ?_⟩)))) (fun n2 => hno (fun H => ?_)))
  · rcases H.2 with ⟨e, _⟩ | ⟨e, _⟩ | e <;> rw [e] at n2 <;> exact absurd n2 (by decide)
  · rcases H.2 with ⟨_, o, _, e⟩ | ⟨e, _⟩ | e
    · rw [e] at n3
      exact nI_pos (by have := q1.1; omega) n3
    · rw [e0] at e; exact absurd e (by decide)
    · rw [e0] at e; exact absurd e (by decide)
  · rw [e0]; decide
  · obtain ⟨o, _, e⟩ := nI_of a3
    rw [hcl, q1.2, e] at a4
    rw [e]
    exact Or.inl ⟨e0, o, (nI_ltI (by omega) (by have := q1.1; omega)).mp a4, rfl⟩
  · rcases H.2 with ⟨_, o, ho, e⟩ | ⟨e, _⟩ | e
    · rw [hcl, q1.2, e] at n4
      exact n4 (nI_lt ho (by have := q1.1; omega))
    · rw [e0] at e; exact absurd e (by decide)
    · rw [e0] at e; exact absurd e (by decide)
  · refine fx_usable h5 hr (fr_brf (fun n5 => hno (fun H => ?_)) (fun y5 => hok ⟨y1, Or.inr (Or.inl ⟨e1, y5⟩)⟩))
    rcases H.2 with ⟨e, _⟩ | ⟨_, H⟩ | e
    · exact e0 e
    · exact n5 H
    · rw [e1] at e; exact absurd e (by decide)
  · obtain ⟨j, hj, e⟩ := fr_kind3 (M := 2) (n := 2) (by decide) a1 a2
    have h0 : j ≠ 0 := fun k => e0 (by rw [e, k]; rfl)
    have h1 : j ≠ 1 := fun k => e1 (by rw [e, k]; rfl)
    have h2 : j = 2 := by omega
    exact Or.inr (Or.inr (by rw [e, h2]; rfl))
  · rcases H.2 with ⟨e, _⟩ | ⟨e, _⟩ | e <;> rw [e] at n2 <;> exact absurd (by decide) n2
theorem fy_act {post : Int32 → SY → Prop} {r : Nat} {v1 v2 : Int32} (h2 : fr_R2 (r + 1) po ng cn ac cg) (h5 : fr_R5 (r + 1) tc th tp bd bp bf bm) (hr : r < 4)
    (hok : fr_actOK r v1 v2 po ac bd → wY_act_56 post v1 v2 (nI (r + 1)) 1 md pc ht sa cn po ac bm ck cg tc tf th tp ds wx wy wz nb kd fl hd my vs pr) (hno : ¬ fr_actOK r v1 v2 po ac bd → post 0 (nI (r + 1), 1, md, pc, ht, sa, cn, po, ac, bm, ck, cg, tc, tf, th, tp, ds, wx, wy, wz, nb, kd, fl, hd, my, vs, pr)) :
    wpY_act post (nI (r + 1), 1, md, pc, ht, sa, cn, po, ac, bm, ck, cg, tc, tf, th, tp, ds, wx, wy, wz, nb, kd, fl, hd, my, vs, pr) v1 v2 := by
  obtain ⟨q1, q2, q3, q4, q5, q6⟩ := h2 r hr
  have hcl : (nI (r + 1) - 1).toNatClampNeg = r := by rw [nI_pred]; exact nI_clamp (by omega)
  have hin : vp_in (nI (r + 1) - 1) 4 := by rw [nI_pred]; exact vp_in_nI hr (by decide)
  unfold wpY_act
  refine fy_noact h2 hr (fr_brf (fun y1n => ?_) (fun n1 => hno (fun H => n1 H.1)))
  have y1 : fr_aOK r po ac := Classical.byContradiction y1n
  refine br_c (fun n2 => hno (fun H => ?_)) (fun a1 => br_c (fun a2 => br_c (fun e0 => br_c (fun n3 => hno (fun H => ?_)) (fun a3 => ⟨hin, br_c (fun n4 => hno (fun H => ?_)) (fun a4 => br_f ?_ (hok ⟨y1, ?_⟩))⟩)) (fun e0 => br_c (fun e1 => ?_) (fun e1 => hok ⟨y1, ?_⟩))) (fun n2 => hno (fun H => ?_)))
  · rcases H.2 with ⟨e, _⟩ | ⟨e, _⟩ | e <;> rw [e] at n2 <;> exact absurd n2 (by decide)
  · rcases H.2 with ⟨_, o, _, e⟩ | ⟨e, _⟩ | e
    · rw [e] at n3
      exact nI_pos (by have := q1.1; omega) n3
    · rw [e0] at e; exact absurd e (by decide)
    · rw [e0] at e; exact absurd e (by decide)
  · rcases H.2 with ⟨_, o, ho, e⟩ | ⟨e, _⟩ | e
    · rw [hcl, q1.2, e] at n4
      exact nI_ge ho (by have := q1.1; omega) n4
    · rw [e0] at e; exact absurd e (by decide)
    · rw [e0] at e; exact absurd e (by decide)
  · rw [e0]; decide
  · obtain ⟨o, _, e⟩ := nI_of a3
    rw [hcl, q1.2, e, nI_leI (by have := q1.1; omega) (by omega)] at a4
    rw [e]
    exact Or.inl ⟨e0, o, by omega, rfl⟩
  · refine fy_known h5 hr (fr_brf (fun n5 => hno (fun H => ?_)) (fun y5 => hok ⟨y1, Or.inr (Or.inl ⟨e1, y5⟩)⟩))
    rcases H.2 with ⟨e, _⟩ | ⟨_, H⟩ | e
    · exact e0 e
    · exact n5 H
    · rw [e1] at e; exact absurd e (by decide)
  · obtain ⟨j, hj, e⟩ := fr_kind3 (M := 2) (n := 2) (by decide) a1 a2
    have h0 : j ≠ 0 := fun k => e0 (by rw [e, k]; rfl)
    have h1 : j ≠ 1 := fun k => e1 (by rw [e, k]; rfl)
    have h2 : j = 2 := by omega
    exact Or.inr (Or.inr (by rw [e, h2]; rfl))
  · rcases H.2 with ⟨e, _⟩ | ⟨e, _⟩ | e <;> rw [e] at n2 <;> exact absurd (by decide) n2
theorem i_vc_act {k : Nat} {u : SX} {v : SY} (I : i_Rel k u v) (hk : k + 5 ≤ 2560) (v1 : Int32) (v2 : Int32) : wpX_act (fun r u' => wpY_act (fun r' v' => r' = r ∧ i_Rel (k + 5) u' v') v v1 v2) u v1 v2 := by
  have up := i_up I
  obtain ⟨R, B, fc, md, rl, bl, pc, ht, nb, kd, fl, sa, po, ng, tt, ac, ha, bd, bp, bf, ck, cg, tc, tf, th, tp, aw, ak, ao, cs, ex, mx, va, ff, fv, pr, cn, bm, ds, wx, wy, wz, hd, my, vs, rfl, rfl, h1, rfl, h3, rfl, h5, h6, h7, h8, h9⟩ := I
  rcases (show B = 0 ∨ B = 1 by omega) with rfl | rfl
  · unfold wpX_act
    refine br_t nI_0 (br_t rfl ?_)
    unfold wpY_act
    exact br_t nI_0 (br_f (by decide) ⟨rfl, up⟩)
  · obtain ⟨r, rfl⟩ : ∃ r, R = r + 1 := ⟨R - 1, by omega⟩
    have hr : r < 4 := by omega
    have h5' := h6.2.2.2.1
    refine fx_act h6.1 h5' hr (fun ok => ?_) (fun no => fy_act h6.1 h5' hr (fun ok => absurd ok no) (fun _ => ⟨rfl, up⟩))
    obtain ⟨q1, q2, q3, q4, q5, q6⟩ := h6.1 r hr
    obtain ⟨a, ha5, ea, na⟩ := fr_Lt_ex q4
    have ha4 : a < 4 := by have := ok.1.2; omega
    have hin : vp_in (nI r) 4 := vp_in_nI hr (by decide)
    have hcl : (nI r).toNatClampNeg = r := nI_clamp (by omega)
    have z0 : vp_nar .boolean 1 = 1 := fr_b1
    have ok' := ok.2
    rcases ok' with ⟨rfl, o, ho, rfl⟩ | ⟨rfl, us⟩ | rfl
    · refine br_f (by decide) (fx_append hr ha4 ea (fy_act h6.1 h5' hr (fun _ => ?_) (fun no => absurd ok no)))
      refine fy_action (D := 0) hr ha4 ea (by omega) ⟨rfl, rfl, fr_mk (B := 1) ⟨h1, rfl, h3, rfl, h5, fr_acts (X := 0) (Y := 0) (Z := 0) (ha' := ha) h6 rfl hr na ha4 (fun z hz => pk_un hz) (fun z hz => pk_un hz) (fun z hz => pk_un hz) (fun z hz => by rw [pk_un (by omega), pk_un (by omega), pk_un (by omega)]) (fun _ _ => rfl) ?_ ?_, h7, fr_FB_up h8 (by omega), h9⟩⟩
      · exact ⟨Or.inl, fun H => H.elim id (fun H => absurd H (by decide))⟩
      · unfold fr_Aw
        rw [pk_us, pk_us, pk_us, pk_us, pk_us, pk_us, pk_us]
        refine Or.inl ⟨rfl, rfl, ?_, o, ho, rfl⟩
        rw [pk_un (by omega), pk_un (by omega), pk_us]
    · refine br_f (by decide) (fx_append hr ha4 ea (fy_act h6.1 h5' hr (fun _ => ?_) (fun no => absurd ok no)))
      refine fy_action (D := 1) hr ha4 ea (by omega) ⟨rfl, rfl, fr_mk (B := 1) ⟨h1, rfl, h3, rfl, h5, fr_acts (X := 0) (Y := 0) (Z := 0) (ha' := ha) h6 rfl hr na ha4 (fun z hz => pk_un hz) (fun z hz => pk_un hz) (fun z hz => pk_un hz) (fun z hz => by rw [pk_un (by omega), pk_un (by omega), pk_un (by omega)]) (fun _ _ => rfl) ?_ ?_, h7, fr_FB_up h8 (by omega), h9⟩⟩
      · exact ⟨Or.inl, fun H => H.elim id (fun H => absurd H (by decide))⟩
      · unfold fr_Aw
        rw [pk_us, pk_us, pk_us, pk_us, pk_us, pk_us, pk_us]
        refine Or.inr (Or.inl ⟨rfl, rfl, ?_, us⟩)
        rw [pk_un (by omega), pk_un (by omega), pk_us]
    · refine br_t rfl ⟨hin, nm_r (e' := upd ha r 1) (by rw [hcl, z0]) (fx_append hr ha4 ea (fy_act h6.1 h5' hr (fun _ => ?_) (fun no => absurd ok no)))⟩
      refine fy_action (D := 2) hr ha4 ea (by omega) ⟨rfl, rfl, fr_mk (B := 1) ⟨h1, rfl, h3, rfl, h5, fr_acts (X := 0) (Y := 0) (Z := 0) (ha' := upd ha r 1) h6 rfl hr na ha4 (fun z hz => pk_un hz) (fun z hz => pk_un hz) (fun z hz => pk_un hz) (fun z hz => by rw [pk_un (by omega), pk_un (by omega), pk_un (by omega)]) (fun q hq => pk_un hq) ?_ ?_, h7, fr_FB_up h8 (by omega), h9⟩⟩
      · rw [pk_us]
        exact ⟨fun _ => Or.inr rfl, fun _ => by decide⟩
      · unfold fr_Aw
        rw [pk_us, pk_us]
        exact Or.inr (Or.inr (Or.inl ⟨rfl, rfl⟩))
end
