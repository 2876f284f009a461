section
variable {fc md rl bl pc ht : Int32} {nb kd fl sa po ng tt ac ha bd bp bf ck cg tc tf th tp aw ak ao cs ex mx va ff fv pr cn bm ds wx wy wz hd my vs : Nat → Int32} {R : Nat}
/-! ===== variables bound so far ===== -/
theorem fr_Bd_up1 {r x m m' : Nat} (h : fr_Bd tc th tp r x m) (hm : m ≤ m') : fr_Bd tc th tp r x m' := by
  obtain ⟨i, s, h1, h2⟩ := h
  exact ⟨i, s, by omega, h2⟩
theorem fr_Bd_s {r x i s : Nat} (hr : r < 4) (h3 : fr_R3 po ng tc tt) (hs : s < 4) (h : fr_Bd tc th tp r x (4 * i + s + 1)) :
    fr_Bd tc th tp r x (4 * i + s) ∨ (th (4 * (5 * r + i) + s) = 3 ∧ tp (4 * (5 * r + i) + s) = nI x) := by
  obtain ⟨i1, s1, h1, h2, h4, h5, h6⟩ := h
  have h7 := ((h3 r hr).1 i1 h2).1.1
  by_cases e : 4 * i1 + s1 < 4 * i + s
  · exact Or.inl ⟨i1, s1, e, h2, h4, h5, h6⟩
  · have e1 : i1 = i := by omega
    have e2 : s1 = s := by omega
    subst e1 e2
    exact Or.inr ⟨h5, h6⟩
/-- behind a condition's last test stands the next condition -/
theorem fr_Bd_e {r x i : Nat} (hr : r < 4) (h3 : fr_R3 po ng tc tt) (h : fr_Bd tc th tp r x (4 * (i + 1))) : fr_Bd tc th tp r x (4 * i + fr_n (tc (5 * r + i))) := by
  obtain ⟨i1, s1, h1, h2, h4, h5, h6⟩ := h
  have h7 := ((h3 r hr).1 i1 h2).1.1
  by_cases e : i1 = i
  · subst e
    exact ⟨i1, s1, by omega, h2, h4, h5, h6⟩
  · exact ⟨i1, s1, by omega, h2, h4, h5, h6⟩
/-- a negated condition binds nothing -/
theorem fr_Bd_n {r x i : Nat} (hr : r < 4) (h3 : fr_R3 po ng tc tt) (h4 : fr_R4 cg tc tf th tp bd bp bf) (hc : cg (5 * r + i) ≠ 0) (h : fr_Bd tc th tp r x (4 * (i + 1))) : fr_Bd tc th tp r x (4 * i) := by
  obtain ⟨i1, s1, h1, h2, h5, h6, h7⟩ := h
  have h8 := ((h3 r hr).1 i1 h2).1.1
  by_cases e : i1 = i
  · subst e
    exact absurd ((h4 r i1 s1 hr h2 h5).2.2.1 h6).1 hc
  · exact ⟨i1, s1, by omega, h2, h5, h6, h7⟩
theorem fr_Bd_20 {r x n : Nat} (hr : r < 4) (h3 : fr_R3 po ng tc tt) (hn : fr_n (po r) + fr_n (ng r) = n) (h : fr_Bd tc th tp r x 20) : fr_Bd tc th tp r x (4 * n) := by
  obtain ⟨i1, s1, h1, h2, h5, h6, h7⟩ := h
  have ⟨h8, h9⟩ := (h3 r hr).1 i1 h2
  have h10 := h8.1
  by_cases e : n ≤ i1
  · rw [h9 (by omega)] at h5
    exact absurd h5 (Nat.not_lt_zero s1)
  · exact ⟨i1, s1, by omega, h2, h5, h6, h7⟩
/-! ===== the reference's fits, some, match ===== -/
theorem fy_fits {y r i f m0 : Nat} (h3 : fr_R3 po ng tc tt) (h4 : fr_R4 cg tc tf th tp bd bp bf) (hr : r < 4) (hy : y / 216 = r) (hi : i < 5) (hf : f < 6)
    (hpos : cg (5 * r + i) = 0 → f = fr_dg y (fr_np cg r i)) (hm : 4 * i ≤ m0)
    (hvs : ∀ x, x < 4 → fr_Bd tc th tp r x m0 → vs x = fr_val bp bf fl y x) :
    ∃ w : Nat → Int32, (∀ x, x < 4 → fr_Bd tc th tp r x m0 → w x = fr_val bp bf fl y x) ∧
      (fr_T kd fl ck tc tf th tp (fr_val bp bf fl y) (5 * r + i) f → ∀ x, x < 4 → fr_Bd tc th tp r x (4 * i + fr_n (tc (5 * r + i))) → w x = fr_val bp bf fl y x) ∧
      ∀ post : Int32 → SY → Prop, post (fr_b (fr_T kd fl ck tc tf th tp (fr_val bp bf fl y) (5 * r + i) f)) (rl, bl, md, pc, ht, sa, cn, po, ac, bm, ck, cg, tc, tf, th, tp, ds, wx, wy, wz, nb, kd, fl, hd, my, w, pr) → wpY_fits post (rl, bl, md, pc, ht, sa, cn, po, ac, bm, ck, cg, tc, tf, th, tp, ds, wx, wy, wz, nb, kd, fl, hd, my, vs, pr) (nI (5 * r + i)) (nI f) := by
  have hq : 5 * r + i < 20 := by omega
  have ⟨ht5, _⟩ := (h3 r hr).1 i hi
  have htl := ht5.1
  have hte : tc (nI (5 * r + i)).toNatClampNeg = nI (fr_n (tc (5 * r + i))) := by rw [nI_clamp (by omega)]; exact ht5.2
  by_cases hk : kd f = ck (5 * r + i)
  · have step : ∀ s w, s < fr_n (tc (5 * r + i)) → ((∀ x, x < 4 → (fr_Bd tc th tp r x m0 ∨ fr_Bd tc th tp r x (4 * i + s)) → w x = fr_val bp bf fl y x) ∧ ∀ s', s' < s → fr_Ti fl tf th tp (fr_val bp bf fl y) (5 * r + i) f s') →
        (∃ w', ((∀ x, x < 4 → (fr_Bd tc th tp r x m0 ∨ fr_Bd tc th tp r x (4 * i + (s + 1))) → w' x = fr_val bp bf fl y x) ∧ ∀ s', s' < s + 1 → fr_Ti fl tf th tp (fr_val bp bf fl y) (5 * r + i) f s') ∧
          ∀ (P : Int32 → SY → Prop) n, wY_fits_21 P (nI (5 * r + i)) (nI f) rl bl md pc ht n (nI (4 * (5 * r + i) + (s + 1))) sa cn po ac bm ck cg tc tf th tp ds wx wy wz nb kd fl hd my w' pr → wY_fits_21 P (nI (5 * r + i)) (nI f) rl bl md pc ht (n + 1) (nI (4 * (5 * r + i) + s)) sa cn po ac bm ck cg tc tf th tp ds wx wy wz nb kd fl hd my w pr) ∨
        (∃ w', ((∀ x, x < 4 → fr_Bd tc th tp r x m0 → w' x = fr_val bp bf fl y x) ∧ ¬ fr_T kd fl ck tc tf th tp (fr_val bp bf fl y) (5 * r + i) f) ∧
          ∀ (P : Int32 → SY → Prop) n, P 0 (rl, bl, md, pc, ht, sa, cn, po, ac, bm, ck, cg, tc, tf, th, tp, ds, wx, wy, wz, nb, kd, fl, hd, my, w', pr) → wY_fits_21 P (nI (5 * r + i)) (nI f) rl bl md pc ht (n + 1) (nI (4 * (5 * r + i) + s)) sa cn po ac bm ck cg tc tf th tp ds wx wy wz nb kd fl hd my w pr) := by
      intro s w hs ⟨hI, hT⟩
      have hs4 : s < 4 := by omega
      have hw := h4 r i s hr hi hs
      obtain ⟨hF, hH, hbind, hvar⟩ := hw
      have hcl : (nI (4 * (5 * r + i) + s)).toNatClampNeg = 4 * (5 * r + i) + s := nI_clamp (by omega)
      have h80 : vp_in (nI (4 * (5 * r + i) + s)) 80 := vp_in_nI (by omega) (by omega)
      have h20 : vp_in (nI (5 * r + i)) 20 := vp_in_nI hq (by omega)
      have hle : ¬ (4 * nI (5 * r + i) + tc (nI (5 * r + i)).toNatClampNeg ≤ nI (4 * (5 * r + i) + s)) := by
        rw [hte, fr_4m, nI_add]
        exact nI_ge (by omega) (by omega)
      have hF3 := hF.1
      have hfe : 3 * nI f + tf (nI (4 * (5 * r + i) + s)).toNatClampNeg = nI (3 * f + fr_n (tf (4 * (5 * r + i) + s))) := by
        rw [hcl, fr_3m, fr_Lt_add hF]
      have h18 : vp_in (3 * nI f + tf (nI (4 * (5 * r + i) + s)).toNatClampNeg) 18 := by
        rw [hfe]; exact vp_in_nI (by omega) (by omega)
      have hx4 : fl (3 * nI f + tf (nI (4 * (5 * r + i) + s)).toNatClampNeg).toNatClampNeg = fl (3 * f + fr_n (tf (4 * (5 * r + i) + s))) := by
        rw [hfe, nI_clamp (by omega)]
      by_cases hh : th (4 * (5 * r + i) + s) = 3
      · obtain ⟨hc0, x, hx, hxo, hxb, hxp, hxf⟩ := hbind hh
        have hv : fl (3 * f + fr_n (tf (4 * (5 * r + i) + s))) = fr_val bp bf fl y x := by
          unfold fr_val
          rw [hy, hxp, hxf, fr_nn (n := fr_np cg r i) (by have := fr_np_m cg r 0 i; have := fr_np_le cg r i; omega), ← hpos hc0]
        refine Or.inl ⟨upd w x (fl (3 * f + fr_n (tf (4 * (5 * r + i) + s)))), ⟨fun x' hx' hB => ?_, fun s' hs' => ?_⟩, fun P n hk => ?_⟩
        · by_cases e : x' = x
          · rw [e, pk_us]; exact hv
          · rw [pk_un e]
            refine hI x' hx' ?_
            rcases hB with hB | hB
            · exact Or.inl hB
            · rcases fr_Bd_s hr h3 hs4 hB with hB | ⟨_, hB⟩
              · exact Or.inr hB
              · exact absurd ((nI_eq (by omega) (by omega)).mp (hB.symm.trans hxo)) e
        · by_cases e : s' = s
          · rw [e]; exact fun h => absurd hh h
          · exact hT s' (by omega)
        · refine ⟨h20, br_f hle ⟨h80, h18, nm_r hx4 ⟨h80, br_t (by rw [hcl]; exact hh) ⟨h80, ?_, ?_⟩⟩⟩⟩
          · rw [hcl, hxo]; exact vp_in_nI hx (by omega)
          · rw [hcl, hxo, nI_clamp (by omega)]
            exact nm_e (nm_r (nI_1 _) hk)
      · have hov : fr_ov w (tp (4 * (5 * r + i) + s)) = fr_ov (fr_val bp bf fl y) (tp (4 * (5 * r + i) + s)) := by
          by_cases ho : tp (4 * (5 * r + i) + s) &&& 1 = 0
          · rw [fr_ov_e ho, fr_ov_e ho]
          · obtain ⟨x, hx, hxe, _, hxB⟩ := hvar hh ho
            rw [fr_ov_o ho hx hxe, fr_ov_o ho hx hxe]
            exact hI x hx (Or.inr hxB)
        have huse : tp (4 * (5 * r + i) + s) &&& 1 ≠ 0 → ∃ x, x < 4 ∧ tp (4 * (5 * r + i) + s) >>> ((1 : Int32) &&& 31) = nI x := fun ho => by
          obtain ⟨x, hx, hxe, _, _⟩ := hvar hh ho
          exact ⟨x, hx, hxe⟩
        by_cases hTi : fr_Ti fl tf th tp (fr_val bp bf fl y) (5 * r + i) f s
        · refine Or.inl ⟨w, ⟨fun x' hx' hB => hI x' hx' ?_, fun s' hs' => ?_⟩, fun P n hk => ?_⟩
          · rcases hB with hB | hB
            · exact Or.inl hB
            · rcases fr_Bd_s hr h3 hs4 hB with hB | ⟨hB, _⟩
              · exact Or.inr hB
              · exact absurd hB hh
          · by_cases e : s' = s
            · rw [e]; exact hTi
            · exact hT s' (by omega)
          · obtain ⟨c0, c1, c2⟩ := hTi hh
            refine ⟨h20, br_f hle ⟨h80, h18, nm_r hx4 ⟨h80, br_f (by rw [hcl]; exact hh) ⟨h80, ?_⟩⟩⟩⟩
            rw [hcl]
            refine fy_value huse ?_
            rw [hov]
            refine ⟨h80, ?_⟩
            by_cases e0 : th (4 * (5 * r + i) + s) = 0
            · exact br_t e0 (br_t (c0 e0) (nm_r (nI_1 _) hk))
            · refine br_f e0 ⟨h80, ?_⟩
              by_cases e1 : th (4 * (5 * r + i) + s) = 1
              · exact br_t e1 (br_f (c1 e1) (nm_r (nI_1 _) hk))
              · exact br_f e1 (br_t (c2 e0 e1) (nm_r (nI_1 _) hk))
        · refine Or.inr ⟨w, ⟨fun x' hx' hB => hI x' hx' (Or.inl hB), fun H => hTi (H.2 s hs)⟩, fun P n hk => ?_⟩
          refine ⟨h20, br_f hle ⟨h80, h18, nm_r hx4 ⟨h80, br_f (by rw [hcl]; exact hh) ⟨h80, ?_⟩⟩⟩⟩
          rw [hcl]
          refine fy_value huse ?_
          rw [hov]
          refine ⟨h80, ?_⟩
          by_cases e0 : th (4 * (5 * r + i) + s) = 0
          · refine br_t e0 (br_f (fun hc => hTi (fun _ => ⟨fun _ => hc, fun e => absurd (e0.symm.trans e) (by decide), fun e => absurd e0 e⟩)) hk)
          · refine br_f e0 ⟨h80, ?_⟩
            by_cases e1 : th (4 * (5 * r + i) + s) = 1
            · refine br_t e1 (br_c (fun _ => hk) (fun hc => absurd (fun _ => ⟨fun e => absurd e e0, fun _ => hc, fun _ e => absurd e1 e⟩) hTi))
            · exact br_f e1 (br_f (fun hc => hTi (fun _ => ⟨fun e => absurd e e0, fun e => absurd e e1, fun _ _ => hc⟩)) hk)
    have h0 : (∀ x, x < 4 → (fr_Bd tc th tp r x m0 ∨ fr_Bd tc th tp r x (4 * i + 0)) → vs x = fr_val bp bf fl y x) ∧ ∀ s', s' < 0 → fr_Ti fl tf th tp (fr_val bp bf fl y) (5 * r + i) f s' :=
      ⟨fun x hx hB => hvs x hx (hB.elim id (fun hB => fr_Bd_up1 hB hm)), fun s' hs' => absurd hs' (Nat.not_lt_zero s')⟩
    have hkk : kd (nI f).toNatClampNeg = ck (nI (5 * r + i)).toNatClampNeg := by rw [nI_clamp (by omega), nI_clamp (by omega)]; exact hk
    rcases fr_exr (σ := Nat → Int32) (Q := Int32 → SY → Prop) (ρ := Nat → Int32)
      (fun P n s w => wY_fits_21 P (nI (5 * r + i)) (nI f) rl bl md pc ht n (nI (4 * (5 * r + i) + s)) sa cn po ac bm ck cg tc tf th tp ds wx wy wz nb kd fl hd my w pr)
      (fun s w => (∀ x, x < 4 → (fr_Bd tc th tp r x m0 ∨ fr_Bd tc th tp r x (4 * i + s)) → w x = fr_val bp bf fl y x) ∧ ∀ s', s' < s → fr_Ti fl tf th tp (fr_val bp bf fl y) (5 * r + i) f s')
      (fun P w => P 0 (rl, bl, md, pc, ht, sa, cn, po, ac, bm, ck, cg, tc, tf, th, tp, ds, wx, wy, wz, nb, kd, fl, hd, my, w, pr)) (fun w => (∀ x, x < 4 → fr_Bd tc th tp r x m0 → w x = fr_val bp bf fl y x) ∧ ¬ fr_T kd fl ck tc tf th tp (fr_val bp bf fl y) (5 * r + i) f) (fr_n (tc (5 * r + i))) step vs h0 with ⟨w, ⟨hI, hT⟩, hW⟩ | ⟨w, ⟨hI, hT⟩, hW⟩
    · refine ⟨w, fun x hx hB => hI x hx (Or.inl hB), fun _ x hx hB => hI x hx (Or.inr hB), fun post hp => ⟨vp_in_nI hf (by omega), vp_in_nI hq (by omega), br_t hkk (nm_r (fr_4m _) ⟨1 + fr_n (tc (5 * r + i)), hW post 1 ?_⟩)⟩⟩
      rw [fr_bt ⟨hk, hT⟩] at hp
      refine ⟨vp_in_nI hq (by omega), br_t ?_ hp⟩
      rw [hte, fr_4m, nI_add]
      exact Int32.le_refl _
    · refine ⟨w, hI, fun H => absurd H hT, fun post hp => ⟨vp_in_nI hf (by omega), vp_in_nI hq (by omega), br_t hkk (nm_r (fr_4m _) ⟨1 + fr_n (tc (5 * r + i)), hW post 1 ?_⟩)⟩⟩
      rw [fr_bf hT] at hp
      exact hp
  · refine ⟨vs, hvs, fun H => absurd H.1 hk, fun post hp => ⟨vp_in_nI hf (by omega), vp_in_nI hq (by omega), br_f ?_ ?_⟩⟩
    · rw [nI_clamp (by omega), nI_clamp (by omega)]; exact hk
    · rw [fr_bf (fun H => hk H.1)] at hp
      exact hp
end
