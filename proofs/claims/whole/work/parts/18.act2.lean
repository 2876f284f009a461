section
variable {fc md rl bl pc ht : Int32} {nb kd fl sa po ng tt ac ha bd bp bf ck cg tc tf th tp aw ak ao cs ex mx va ff fv pr cn bm ds wx wy wz hd my vs : Nat → Int32} {R : Nat}
theorem fr_vq_at {v0 v1 v2 v3 : Int32} : fr_vq vs v0 v1 v2 v3 0 = v0 ∧ fr_vq vs v0 v1 v2 v3 1 = v1 ∧ fr_vq vs v0 v1 v2 v3 2 = v2 ∧ fr_vq vs v0 v1 v2 v3 3 = v3 := by
  exact ⟨rfl, rfl, rfl, rfl⟩
theorem fr_ov_us {w w' : Nat → Int32} {r : Nat} {o : Int32} (hu : fr_Us bd r o) (hw : ∀ x, x < 4 → bd (4 * r + x) ≠ 0 → w x = w' x) : fr_ov w o = fr_ov w' o := by
  by_cases ho : o &&& 1 = 0
  · rw [fr_ov_e ho, fr_ov_e ho]
  · obtain ⟨x, hx, e, hb⟩ := hu ho
    rw [fr_ov_o ho hx e, fr_ov_o ho hx e, hw x hx hb]
theorem fr_us_ix {r : Nat} {o : Int32} (hu : fr_Us bd r o) : o &&& 1 ≠ 0 → ∃ x, x < 4 ∧ o >>> ((1 : Int32) &&& 31) = nI x := fun ho => by
  obtain ⟨x, hx, e, _⟩ := hu ho
  exact ⟨x, hx, e⟩
/-! one action on both sides, the component settling behind it -/
theorem fr_action {b fin r s a : Nat} {xa xb xc v0 v1 v2 v3 y1 y2 : Int32} (hcs : fr_CS cs) (hRB : fr_RB R po ng cn ac tt ha bd bp bf bm cg tc tf th tp aw ak ao ds wx wy wz) (hfin : fin ≤ 4) (hfe : (bl = 0 → rl = nI fin) ∧ (¬ bl = 0 → rl - 1 = nI fin))
    (hr : r < 4) (na : fr_n (ac r) = a) (hs : s < a)
    (hff : ∀ o, o < fr_n (po r) → (∃ g, g < 2 ^ 31 ∧ ff o = nI g) ∧ ff o = (if o = 0 then xa else if o = 1 then xb else xc))
    (hfv : ∀ w : Nat → Int32, ∀ x, x < 4 → bd (4 * r + x) ≠ 0 → fv x = fr_vq w v0 v1 v2 v3 x)
    (hFB : fr_FB b fc md nb) (hb : b + 2 < 2 ^ 31) (hFL : fr_FL fin (fr_M nb kd fl po ng ck cg tc tf th tp bp bf) ex mx hd my) :
    ∃ (fc' md' pc' ht' : Int32) (nb' kd' fl' ex' mx' va' hd' my' vs' pr' : Nat → Int32),
      fr_FB (b + 1) fc' md' nb' ∧ fr_FL fin (fr_M nb' kd' fl' po ng ck cg tc tf th tp bp bf) ex' mx' hd' my' ∧ ((ds (4 * r + s) = 2 → ht' = 1) ∧ (ds (4 * r + s) ≠ 2 → ht' = ht)) ∧
      (∀ (post : Int32 → SX → Prop) J n, wX_run_57 post J y1 y2 (nI r) (nI a) n (nI (s + 1)) fc' md' rl bl pc' nb' kd' fl' sa po ng tt ac ha bd bp bf ck cg tc tf th tp aw ak ao cs ex' mx' va' ff fv pr' → wX_run_57 post J y1 y2 (nI r) (nI a) (n + 1) (nI s) fc md rl bl pc nb kd fl sa po ng tt ac ha bd bp bf ck cg tc tf th tp aw ak ao cs ex mx va ff fv pr) ∧
      (∀ (post : SY → Prop) n, wY_fire_72 post (nI r) xa xb xc v0 v1 v2 v3 n (nI (4 * r + (s + 1))) rl bl md' pc' ht' sa cn po ac bm ck cg tc tf th tp ds wx wy wz nb' kd' fl' hd' my' vs' pr' → wY_fire_72 post (nI r) xa xb xc v0 v1 v2 v3 (n + 1) (nI (4 * r + s)) rl bl md pc ht sa cn po ac bm ck cg tc tf th tp ds wx wy wz nb kd fl hd my vs pr) := by
  obtain ⟨h2, h3, h4, h5, h6, h7⟩ := hRB
  obtain ⟨q1, q2, q3, q4, q5, q6⟩ := h2 r hr
  have ea : ac r = nI a := by rw [← na]; exact q4.2
  have ha4 : a ≤ 4 := by have := q4.1; omega
  have hgeX : ¬ nI a ≤ nI s := nI_ge hs (by omega)
  have ez : nI r * 4 + nI s = nI (4 * r + s) := by rw [fr_m4, nI_add]
  have hz16 : 4 * r + s < 16 := by omega
  have h16 : vp_in (nI (4 * r + s)) 16 := vp_in_nI hz16 (by decide)
  have hcl : (nI (4 * r + s)).toNatClampNeg = 4 * r + s := nI_clamp (by omega)
  have hp3 := q1.1
  rcases h6 r s hr (by rw [na]; exact hs) with ⟨d1, d2, d3, o, d4, d5⟩ | ⟨d1, d2, d3, d4⟩ | ⟨d1, d2⟩ | ⟨kk, hkk, d1, d2, d3, d4, d5, d6, d8, d9, d10⟩
  · -- DROP
    have hds2 : ds (4 * r + s) ≠ 2 := by rw [d1]; decide
    obtain ⟨⟨g, hg, eg⟩, esel⟩ := hff o d4
    have ho3 : o < 3 := by omega
    have hcho : (ao (3 * (4 * r + s))).toNatClampNeg = o := by rw [d3, d5]; exact nI_clamp (by omega)
    have hvin : vp_in (ao (3 * (4 * r + s))) 3 := by rw [d3, d5]; exact vp_in_nI ho3 (by decide)
    have h161 : ∀ (post : SY → Prop) n, wY_fire_196 post (wY_fire_72 post (nI r) xa xb xc v0 v1 v2 v3 n) (nI r) xa xb xc v0 v1 v2 v3 (nI (4 * r + s)) (ff o) rl bl md pc ht sa cn po ac bm ck cg tc tf th tp ds wx wy wz nb kd fl hd my (fr_vq vs v0 v1 v2 v3) pr → wY_fire_72 post (nI r) xa xb xc v0 v1 v2 v3 (n + 1) (nI (4 * r + s)) rl bl md pc ht sa cn po ac bm ck cg tc tf th tp ds wx wy wz nb kd fl hd my vs pr := by
      intro post n hk
      refine fy_72_in hr ea ha4 hs (fun _ => ?_) (fun e => absurd e hds2) (fun e => absurd d1 e)
      refine ⟨h16, br_t (by rw [hcl]; exact d1) ?_⟩
      rw [d5]
      rw [esel] at hk
      by_cases o0 : o = 0
      · subst o0
        rw [if_pos rfl] at hk
        exact br_t nI_0 hk
      · rw [if_neg o0] at hk
        refine br_f (nI_ne0 (by omega) (by omega)) ?_
        by_cases o1 : o = 1
        · subst o1
          rw [if_pos rfl] at hk
          exact br_t rfl hk
        · rw [if_neg o1] at hk
          refine br_f (fun e => o1 ((nI_eq (b := 1) (by omega) (by omega)).mp e)) hk
    have hn := fr_FB_n hFB
    by_cases hE : ff o ≠ 0 ∧ ∃ f, f < 6 ∧ nb f = ff o
    · obtain ⟨hne, hex⟩ := hE
      rcases fr_fst (fun f => nb f = ff o) 6 with ⟨f, hf, e, hm⟩ | hm
      · obtain ⟨ex', mx', va', hSx, hWx⟩ := fx_settle (fc := fc - 1) (md := md) (rl := rl) (bl := bl) (pc := pc) (nb := upd nb f 0) (kd := kd) (fl := fl) (sa := sa) (po := po) (ng := ng) (tt := tt) (ac := ac) (ha := ha) (bd := bd) (bp := bp) (bf := bf) (ck := ck) (cg := cg) (tc := tc) (tf := tf) (th := th) (tp := tp) (aw := aw) (ak := ak) (ao := ao) (cs := cs) (ex := ex) (mx := mx) (va := va) (ff := ff) (fv := fv) (pr := pr) (fin := fin) hcs h2 h3 h4 h5 hfin hfe
        obtain ⟨hd', my', vs', hSy, hWy⟩ := fy_settle (rl := rl) (bl := bl) (md := md) (pc := pc) (ht := ht) (sa := sa) (cn := cn) (po := po) (ac := ac) (bm := bm) (ck := ck) (cg := cg) (tc := tc) (tf := tf) (th := th) (tp := tp) (ds := ds) (wx := wx) (wy := wy) (wz := wz) (nb := upd nb f 0) (kd := kd) (fl := fl) (hd := hd) (my := my) (vs := fr_vq vs v0 v1 v2 v3) (pr := pr) (fin := fin) h2 h3 h4 hfin hfe
        refine ⟨fc - 1, md, pc, ht, upd nb f 0, kd, fl, ex', mx', va', hd', my', vs', pr, fr_FB_up (fr_FB_del hFB hf (by rw [e]; exact hne) hb) (by omega), fr_FL_2 hFL (Nat.le_refl _) hSx hSy, ⟨fun e => absurd e hds2, fun _ => rfl⟩, fun post J n hk => ?_, fun post n hk => ?_⟩
        · refine br_f hgeX ?_
          rw [ez]
          refine fx_perf (w := 0) hz16 (by omega) d2 (fun _ => ⟨hvin, ?_⟩) (fun h => absurd h (by omega)) (fun h => absurd h (by omega)) (fun h => absurd h (by omega))
          rw [hcho]
          exact fx_erase_some hne hf e hm (hWx _ (nm_r (nI_1 s) hk))
        · refine h161 post n ?_
          refine fy_rem_some (fun hl => hne ?_) hf e hm hWy (nm_r (nI_1 _) hk)
          rw [eg] at hl ⊢
          have := (nI_leI (b := 0) hg (by omega)).mp hl
          rw [show g = 0 from by omega]
          rfl
      · obtain ⟨f, hf, e⟩ := hex
        exact absurd e (hm f hf)
    · have hno : ff o ≠ 0 → ∀ g, g < 6 → ¬ nb g = ff o := fun hne g hg e => hE ⟨hne, g, hg, e⟩
      obtain ⟨ex', mx', va', hSx, hWx⟩ := fx_settle (fc := fc) (md := md) (rl := rl) (bl := bl) (pc := pc) (nb := nb) (kd := kd) (fl := fl) (sa := sa) (po := po) (ng := ng) (tt := tt) (ac := ac) (ha := ha) (bd := bd) (bp := bp) (bf := bf) (ck := ck) (cg := cg) (tc := tc) (tf := tf) (th := th) (tp := tp) (aw := aw) (ak := ak) (ao := ao) (cs := cs) (ex := ex) (mx := mx) (va := va) (ff := ff) (fv := fv) (pr := pr) (fin := fin) hcs h2 h3 h4 h5 hfin hfe
      refine ⟨fc, md, pc, ht, nb, kd, fl, ex', mx', va', hd, my, fr_vq vs v0 v1 v2 v3, pr, fr_FB_up hFB (by omega), fr_FL_1 hFL hSx, ⟨fun e => absurd e hds2, fun _ => rfl⟩, fun post J n hk => ?_, fun post n hk => ?_⟩
      · refine br_f hgeX ?_
        rw [ez]
        refine fx_perf (w := 0) hz16 (by omega) d2 (fun _ => ⟨hvin, ?_⟩) (fun h => absurd h (by omega)) (fun h => absurd h (by omega)) (fun h => absurd h (by omega))
        rw [hcho]
        exact fx_erase_none hno (hWx _ (nm_r (nI_1 s) hk))
      · refine h161 post n ?_
        exact fy_rem_none (fun hl g hg => hno (fun e => hl (by rw [e]; exact Int32.le_refl _)) g hg) (nm_r (nI_1 _) hk)
  · -- PRINT
    have hds2 : ds (4 * r + s) ≠ 2 := by rw [d1]; decide
    have hds0 : ds (4 * r + s) ≠ 0 := by rw [d1]; decide
    obtain ⟨ex', mx', va', hSx, hWx⟩ := fx_settle (fc := fc) (md := md) (rl := rl) (bl := bl) (pc := pc + 1) (nb := nb) (kd := kd) (fl := fl) (sa := sa) (po := po) (ng := ng) (tt := tt) (ac := ac) (ha := ha) (bd := bd) (bp := bp) (bf := bf) (ck := ck) (cg := cg) (tc := tc) (tf := tf) (th := th) (tp := tp) (aw := aw) (ak := ak) (ao := ao) (cs := cs) (ex := ex) (mx := mx) (va := va) (ff := ff) (fv := fv) (pr := upd pr (pc &&& 15).toNatClampNeg (fr_ov fv (ao (3 * (4 * r + s))))) (fin := fin) hcs h2 h3 h4 h5 hfin hfe
    refine ⟨fc, md, pc + 1, ht, nb, kd, fl, ex', mx', va', hd, my, fr_vq vs v0 v1 v2 v3, upd pr (pc &&& 15).toNatClampNeg (fr_ov fv (ao (3 * (4 * r + s)))), fr_FB_up hFB (by omega), fr_FL_1 hFL hSx, ⟨fun e => absurd e hds2, fun _ => rfl⟩, fun post J n hk => ?_, fun post n hk => ?_⟩
    · refine br_f hgeX ?_
      rw [ez]
      exact fx_perf (w := 1) hz16 (by omega) d2 (fun h => absurd h (by omega)) (fun _ => hWx _ (nm_r (nI_1 s) hk)) (fun h => absurd h (by omega)) (fun h => absurd h (by omega))
    · rw [d3, fr_ov_us d4 (hfv vs)] at hk
      exact fy_72_in hr ea ha4 hs (fun e => absurd e hds0) (fun e => absurd e hds2) (fun _ _ => ⟨fr_us_ix d4, ⟨h16, br_f (by rw [hcl]; exact hds0) ⟨h16, br_t (by rw [hcl]; exact d1) (nm_e ⟨pk_andIn _ 4 (by decide) (by decide), nm_e (nm_r (nI_1 _) hk)⟩)⟩⟩⟩)
  · -- HALT
    have hds0 : ds (4 * r + s) ≠ 0 := by rw [d1]; decide
    have hds1 : ds (4 * r + s) ≠ 1 := by rw [d1]; decide
    obtain ⟨ex', mx', va', hSx, hWx⟩ := fx_settle (fc := fc) (md := md) (rl := rl) (bl := bl) (pc := pc) (nb := nb) (kd := kd) (fl := fl) (sa := sa) (po := po) (ng := ng) (tt := tt) (ac := ac) (ha := ha) (bd := bd) (bp := bp) (bf := bf) (ck := ck) (cg := cg) (tc := tc) (tf := tf) (th := th) (tp := tp) (aw := aw) (ak := ak) (ao := ao) (cs := cs) (ex := ex) (mx := mx) (va := va) (ff := ff) (fv := fv) (pr := pr) (fin := fin) hcs h2 h3 h4 h5 hfin hfe
    refine ⟨fc, md, pc, 1, nb, kd, fl, ex', mx', va', hd, my, fr_vq vs v0 v1 v2 v3, pr, fr_FB_up hFB (by omega), fr_FL_1 hFL hSx, ⟨fun _ => rfl, fun e => absurd d1 e⟩, fun post J n hk => ?_, fun post n hk => ?_⟩
    · refine br_f hgeX ?_
      rw [ez]
      exact fx_perf (w := 2) hz16 (by omega) d2 (fun h => absurd h (by omega)) (fun h => absurd h (by omega)) (fun _ => hWx _ (nm_r (nI_1 s) hk)) (fun h => absurd h (by omega))
    · exact fy_72_in hr ea ha4 hs (fun e => absurd e hds0) (fun _ => ⟨h16, br_f (by rw [hcl]; exact hds0) ⟨h16, br_f (by rw [hcl]; exact hds1) ⟨h16, br_t (by rw [hcl]; exact d1) (nm_r (nI_1 _) hk)⟩⟩⟩) (fun _ e => absurd d1 e)
  · -- MAKE
    have hds0 : ds (4 * r + s) ≠ 0 := by rw [d1]; exact nI_ne0 (by omega) (by omega)
    have hds1 : ds (4 * r + s) ≠ 1 := fun e => by
      have := (nI_eq (a := 10 + kk) (b := 1) (by omega) (by omega)).mp (d1.symm.trans e)
      omega
    have hds2 : ds (4 * r + s) ≠ 2 := fun e => by
      have := (nI_eq (a := 10 + kk) (b := 2) (by omega) (by omega)).mp (d1.symm.trans e)
      omega
    have hY : ∀ (post : SY → Prop) n, wpY_add (fun _ u => match u with | (rl, bl, md, pc, ht, sa, cn, po, ac, bm, ck, cg, tc, tf, th, tp, ds, wx, wy, wz, nb, kd, fl, hd, my, vs, pr) => ∀ x10, x10 = nI (4 * r + s) + 1 → wY_fire_72 post (nI r) xa xb xc v0 v1 v2 v3 n x10 rl bl md pc ht sa cn po ac bm ck cg tc tf th tp ds wx wy wz nb kd fl hd my vs pr) (rl, bl, md, pc, ht, sa, cn, po, ac, bm, ck, cg, tc, tf, th, tp, ds, wx, wy, wz, nb, kd, fl, hd, my, fr_vq vs v0 v1 v2 v3, pr) (nI kk) (fr_ov fv (ao (3 * (4 * r + s)))) (fr_ov fv (ao (3 * (4 * r + s) + 1))) (fr_ov fv (ao (3 * (4 * r + s) + 2))) →
        wY_fire_72 post (nI r) xa xb xc v0 v1 v2 v3 (n + 1) (nI (4 * r + s)) rl bl md pc ht sa cn po ac bm ck cg tc tf th tp ds wx wy wz nb kd fl hd my vs pr := by
      intro post n hk
      rw [d4, d5, d6, fr_ov_us d8 (hfv vs), fr_ov_us d9 (hfv vs), fr_ov_us d10 (hfv vs)] at hk
      refine fy_72_in hr ea ha4 hs (fun e => absurd e hds0) (fun e => absurd e hds2) (fun _ _ => ⟨fr_us_ix d8, ⟨h16, br_f (by rw [hcl]; exact hds0) ⟨h16, br_f (by rw [hcl]; exact hds1) ⟨h16, br_f (by rw [hcl]; exact hds2) ⟨h16, h16, h16, ?_⟩⟩⟩⟩⟩)
      rw [hcl, d1, show nI (10 + kk) - 10 = nI kk from (pk_sub (b := 10) (by omega)).trans (congrArg nI (by omega))]
      unfold wpY_makeFact
      refine fy_value (fr_us_ix d9) ?_
      exact fy_value (fr_us_ix d10) hk
    rcases fr_fst (fun f => nb f = 0) 6 with ⟨f, hf, e, hm⟩ | hm
    · obtain ⟨ex', mx', va', hSx, hWx⟩ := fx_settle (fc := fc + 1) (md := md + 1) (rl := rl) (bl := bl) (pc := pc) (nb := upd nb f (md + 1)) (kd := upd kd f (nI kk)) (fl := upd (upd (upd fl (3 * f) (fr_ov fv (ao (3 * (4 * r + s))))) (3 * f + 1) (fr_ov fv (ao (3 * (4 * r + s) + 1)))) (3 * f + 2) (fr_ov fv (ao (3 * (4 * r + s) + 2)))) (sa := sa) (po := po) (ng := ng) (tt := tt) (ac := ac) (ha := ha) (bd := bd) (bp := bp) (bf := bf) (ck := ck) (cg := cg) (tc := tc) (tf := tf) (th := th) (tp := tp) (aw := aw) (ak := ak) (ao := ao) (cs := cs) (ex := ex) (mx := mx) (va := va) (ff := ff) (fv := fv) (pr := pr) (fin := fin) hcs h2 h3 h4 h5 hfin hfe
      obtain ⟨hd', my', vs', hSy, hWy⟩ := fy_settle (rl := rl) (bl := bl) (md := md + 1) (pc := pc) (ht := ht) (sa := sa) (cn := cn) (po := po) (ac := ac) (bm := bm) (ck := ck) (cg := cg) (tc := tc) (tf := tf) (th := th) (tp := tp) (ds := ds) (wx := wx) (wy := wy) (wz := wz) (nb := upd nb f (md + 1)) (kd := upd kd f (nI kk)) (fl := upd (upd (upd fl (3 * f) (fr_ov fv (ao (3 * (4 * r + s))))) (3 * f + 1) (fr_ov fv (ao (3 * (4 * r + s) + 1)))) (3 * f + 2) (fr_ov fv (ao (3 * (4 * r + s) + 2)))) (hd := hd) (my := my) (vs := fr_vq vs v0 v1 v2 v3) (pr := pr) (fin := fin) h2 h3 h4 hfin hfe
      refine ⟨fc + 1, md + 1, pc, ht, upd nb f (md + 1), upd kd f (nI kk), upd (upd (upd fl (3 * f) (fr_ov fv (ao (3 * (4 * r + s))))) (3 * f + 1) (fr_ov fv (ao (3 * (4 * r + s) + 1)))) (3 * f + 2) (fr_ov fv (ao (3 * (4 * r + s) + 2))), ex', mx', va', hd', my', vs', pr, (fr_FB_add hFB hb hf e).1, fr_FL_2 hFL (Nat.le_refl _) hSx hSy, ⟨fun e => absurd e hds2, fun _ => rfl⟩, fun post J n hk => ?_, fun post n hk => hY post n (fy_add_some hkk hf e hm hWy (nm_r (nI_1 _) hk))⟩
      refine br_f hgeX ?_
      rw [ez]
      refine fx_perf (w := 3) hz16 (by omega) d2 (fun h => absurd h (by omega)) (fun h => absurd h (by omega)) (fun h => absurd h (by omega)) (fun _ => ?_)
      rw [d3]
      exact fx_store_some hf e hm (hWx _ (nm_r (nI_1 s) hk))
    · obtain ⟨ex', mx', va', hSx, hWx⟩ := fx_settle (fc := fc) (md := md) (rl := rl) (bl := bl) (pc := pc) (nb := nb) (kd := kd) (fl := fl) (sa := sa) (po := po) (ng := ng) (tt := tt) (ac := ac) (ha := ha) (bd := bd) (bp := bp) (bf := bf) (ck := ck) (cg := cg) (tc := tc) (tf := tf) (th := th) (tp := tp) (aw := aw) (ak := ak) (ao := ao) (cs := cs) (ex := ex) (mx := mx) (va := va) (ff := ff) (fv := fv) (pr := pr) (fin := fin) hcs h2 h3 h4 h5 hfin hfe
      refine ⟨fc, md, pc, ht, nb, kd, fl, ex', mx', va', hd, my, fr_vq vs v0 v1 v2 v3, pr, fr_FB_up hFB (by omega), fr_FL_1 hFL hSx, ⟨fun e => absurd e hds2, fun _ => rfl⟩, fun post J n hk => ?_, fun post n hk => hY post n (fy_add_none hm (nm_r (nI_1 _) hk))⟩
      refine br_f hgeX ?_
      rw [ez]
      refine fx_perf (w := 3) hz16 (by omega) d2 (fun h => absurd h (by omega)) (fun h => absurd h (by omega)) (fun h => absurd h (by omega)) (fun _ => ?_)
      exact fx_store_none hm (hWx _ (nm_r (nI_1 s) hk))
end
