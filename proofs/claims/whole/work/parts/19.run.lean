section
variable {fc md rl bl pc ht : Int32} {nb kd fl sa po ng tt ac ha bd bp bf ck cg tc tf th tp aw ak ao cs ex mx va ff fv pr cn bm ds wx wy wz hd my vs : Nat → Int32} {R : Nat}
theorem fr_acts_loop {fin r a : Nat} {xa xb xc v0 v1 v2 v3 y1 y2 : Int32} (hcs : fr_CS cs) (hRB : fr_RB R po ng cn ac tt ha bd bp bf bm cg tc tf th tp aw ak ao ds wx wy wz) (hfin : fin ≤ 4) (hfe : (bl = 0 → rl = nI fin) ∧ (¬ bl = 0 → rl - 1 = nI fin))
    (hr : r < 4) (na : fr_n (ac r) = a)
    (hff : ∀ o, o < fr_n (po r) → (∃ g, g < 2 ^ 31 ∧ ff o = nI g) ∧ ff o = (if o = 0 then xa else if o = 1 then xb else xc))
    (hfv : ∀ w : Nat → Int32, ∀ x, x < 4 → bd (4 * r + x) ≠ 0 → fv x = fr_vq w v0 v1 v2 v3 x) :
    ∀ (d s b : Nat) (fc md pc ht : Int32) (nb kd fl ex mx va hd my vs pr : Nat → Int32), s + d = a → fr_FB b fc md nb → b + d + 2 < 2 ^ 31 → fr_FL fin (fr_M nb kd fl po ng ck cg tc tf th tp bp bf) ex mx hd my →
    ∃ (fc' md' pc' ht' : Int32) (nb' kd' fl' ex' mx' va' hd' my' vs' pr' : Nat → Int32),
      fr_FB (b + d) fc' md' nb' ∧ fr_FL fin (fr_M nb' kd' fl' po ng ck cg tc tf th tp bp bf) ex' mx' hd' my' ∧ ((ht' = 1 ∧ ∃ s', s ≤ s' ∧ s' < a ∧ ds (4 * r + s') = 2) ∨ (ht' = ht ∧ ∀ s', s ≤ s' → s' < a → ds (4 * r + s') ≠ 2)) ∧
      (∀ (post : Int32 → SX → Prop) J n, wX_run_57 post J y1 y2 (nI r) (nI a) n (nI a) fc' md' rl bl pc' nb' kd' fl' sa po ng tt ac ha bd bp bf ck cg tc tf th tp aw ak ao cs ex' mx' va' ff fv pr' → wX_run_57 post J y1 y2 (nI r) (nI a) (n + d) (nI s) fc md rl bl pc nb kd fl sa po ng tt ac ha bd bp bf ck cg tc tf th tp aw ak ao cs ex mx va ff fv pr) ∧
      (∀ (post : SY → Prop) n, wY_fire_72 post (nI r) xa xb xc v0 v1 v2 v3 n (nI (4 * r + a)) rl bl md' pc' ht' sa cn po ac bm ck cg tc tf th tp ds wx wy wz nb' kd' fl' hd' my' vs' pr' → wY_fire_72 post (nI r) xa xb xc v0 v1 v2 v3 (n + d) (nI (4 * r + s)) rl bl md pc ht sa cn po ac bm ck cg tc tf th tp ds wx wy wz nb kd fl hd my vs pr) := by
  intro d
  induction d with
  | zero =>
    intro s b fc md pc ht nb kd fl ex mx va hd my vs pr hs hFB hb hFL
    have : s = a := by omega
    subst this
    exact ⟨fc, md, pc, ht, nb, kd, fl, ex, mx, va, hd, my, vs, pr, hFB, hFL, Or.inr ⟨rfl, fun s' h1 h2 => absurd h1 (by omega)⟩, fun post J n h => h, fun post n h => h⟩
  | succ d ih =>
    intro s b fc md pc ht nb kd fl ex mx va hd my vs pr hs hFB hb hFL
    obtain ⟨fc1, md1, pc1, ht1, nb1, kd1, fl1, ex1, mx1, va1, hd1, my1, vs1, pr1, a1, a2, a3, a4, a5⟩ := fr_action (fc := fc) (md := md) (rl := rl) (bl := bl) (pc := pc) (nb := nb) (kd := kd) (fl := fl) (sa := sa) (po := po) (ng := ng) (tt := tt) (ac := ac) (ha := ha) (bd := bd) (bp := bp) (bf := bf) (ck := ck) (cg := cg) (tc := tc) (tf := tf) (th := th) (tp := tp) (aw := aw) (ak := ak) (ao := ao) (cs := cs) (ex := ex) (mx := mx) (va := va) (ff := ff) (fv := fv) (pr := pr) (ht := ht) (cn := cn) (bm := bm) (ds := ds) (wx := wx) (wy := wy) (wz := wz) (hd := hd) (my := my) (vs := vs) (s := s) (y1 := y1) (y2 := y2) hcs hRB hfin hfe hr na (by omega) hff hfv hFB (by omega) hFL
    obtain ⟨fc2, md2, pc2, ht2, nb2, kd2, fl2, ex2, mx2, va2, hd2, my2, vs2, pr2, b1, b2, b3, b4, b5⟩ := ih (s + 1) (b + 1) fc1 md1 pc1 ht1 nb1 kd1 fl1 ex1 mx1 va1 hd1 my1 vs1 pr1 (by omega) a1 (by omega) a2
    refine ⟨fc2, md2, pc2, ht2, nb2, kd2, fl2, ex2, mx2, va2, hd2, my2, vs2, pr2, fr_FB_up b1 (by omega), b2, ?_, fun post J n h => a4 post J (n + d) (b4 post J n h), fun post n h => a5 post (n + d) (b5 post n h)⟩
    by_cases e : ds (4 * r + s) = 2
    · rcases b3 with ⟨c1, _⟩ | ⟨c1, _⟩
      · exact Or.inl ⟨c1, s, Nat.le_refl s, by omega, e⟩
      · exact Or.inl ⟨c1.trans (a3.1 e), s, Nat.le_refl s, by omega, e⟩
    · rcases b3 with ⟨c1, s', c2, c3, c4⟩ | ⟨c1, c2⟩
      · exact Or.inl ⟨c1, s', by omega, c3, c4⟩
      · refine Or.inr ⟨c1.trans (a3.2 e), fun s' h1 h2 => ?_⟩
        by_cases es : s' = s
        · rw [es]; exact e
        · exact c2 s' (by omega) h2
/-! one firing on both sides -/
theorem fr_fire {b fin c : Nat} {y1 y2 : Int32} (hcs : fr_CS cs) (hRB : fr_RB R po ng cn ac tt ha bd bp bf bm cg tc tf th tp aw ak ao ds wx wy wz) (hfin : fin ≤ 4) (hfe : (bl = 0 → rl = nI fin) ∧ (¬ bl = 0 → rl - 1 = nI fin))
    (hc : c < 864) (hFB : fr_FB b fc md nb) (hb : b + 6 < 2 ^ 31) (hFL : fr_FL fin (fr_M nb kd fl po ng ck cg tc tf th tp bp bf) ex mx hd my) (h0 : hd (fr_sg c) ≠ 0) :
    ∃ (fc' md' pc' ht' : Int32) (nb' kd' fl' ex' mx' va' hd' my' vs' pr' ff' fv' : Nat → Int32),
      fr_FB (b + 4) fc' md' nb' ∧ fr_FL fin (fr_M nb' kd' fl' po ng ck cg tc tf th tp bp bf) ex' mx' hd' my' ∧ ((ht' = 1 ∧ ha (c / 216) ≠ 0) ∨ (ht' = ht ∧ ha (c / 216) = 0)) ∧
      (∀ P : SX → Prop, P (fc, md, rl, bl, pc, nb, kd, fl, sa, po, ng, tt, ac, ha, bd, bp, bf, ck, cg, tc, tf, th, tp, aw, ak, ao, cs, ex, upd mx c 1, va, ff', fv', pr) → wpX_beginFiring P (fc, md, rl, bl, pc, nb, kd, fl, sa, po, ng, tt, ac, ha, bd, bp, bf, ck, cg, tc, tf, th, tp, aw, ak, ao, cs, ex, mx, va, ff, fv, pr) (nI c)) ∧
      (∀ (post : Int32 → SX → Prop) J n, wX_run_57 post J y1 y2 (nI (c / 216)) (ac (c / 216)) n (ac (c / 216)) fc' md' rl bl pc' nb' kd' fl' sa po ng tt ac ha bd bp bf ck cg tc tf th tp aw ak ao cs ex' mx' va' ff' fv' pr' → ∃ m, wX_run_57 post J y1 y2 (nI (c / 216)) (ac (c / 216)) m 0 fc md rl bl pc nb kd fl sa po ng tt ac ha bd bp bf ck cg tc tf th tp aw ak ao cs ex (upd mx c 1) va ff' fv' pr) ∧
      (∀ post : SY → Prop, post (rl, bl, md', pc', ht', sa, cn, po, ac, bm, ck, cg, tc, tf, th, tp, ds, wx, wy, wz, nb', kd', fl', hd', my', vs', pr') → wpY_fire post (rl, bl, md, pc, ht, sa, cn, po, ac, bm, ck, cg, tc, tf, th, tp, ds, wx, wy, wz, nb, kd, fl, hd, upd my (fr_sg c) 1, vs, pr) (nI (fr_sg c))) := by
  have hRB' := hRB
  obtain ⟨h2, h3, h4, h5, h6, h7⟩ := hRB'
  have hr : c / 216 < 4 := by omega
  have hy8 := fr_sg_864 hc
  have hyr := fr_sg_r c
  obtain ⟨q1, q2, q3, q4, q5, q6⟩ := h2 _ hr
  have hp : ∀ r, r < 4 → fr_Lt (po r) 4 := fun r hr => (h2 r hr).1
  have hn := fr_FB_n hFB
  have h31 : ∀ f, f < 6 → fr_n (nb f) < 2 ^ 31 := by
    obtain ⟨⟨m, g1, g2, g3⟩, _, _⟩ := hFB
    intro f hf
    have := (g3 f hf).1
    omega
  obtain ⟨a, ha5, ea, na⟩ := fr_Lt_ex q4
  have hM : fr_M nb kd fl po ng ck cg tc tf th tp bp bf (fr_sg c) := by
    obtain ⟨_, _, c1, d1⟩ := hFL _ hy8
    by_cases hl : fr_sg c < 216 * fin
    · by_cases hM : fr_M nb kd fl po ng ck cg tc tf th tp bp bf (fr_sg c)
      · exact hM
      · rw [(c1 hl).1, fr_bf hM] at h0
        exact absurd rfl h0
    · exact absurd (d1 (by omega)) h0
  obtain ⟨ff', fv', hf1, hf2, hWb⟩ := fx_begin (fc := fc) (md := md) (rl := rl) (bl := bl) (pc := pc) (nb := nb) (kd := kd) (fl := fl) (sa := sa) (po := po) (ng := ng) (tt := tt) (ac := ac) (ha := ha) (bd := bd) (bp := bp) (bf := bf) (ck := ck) (cg := cg) (tc := tc) (tf := tf) (th := th) (tp := tp) (aw := aw) (ak := ak) (ao := ao) (cs := cs) (ex := ex) (mx := mx) (va := va) (ff := ff) (fv := fv) (pr := pr) hcs hp hn h5 hc
  obtain ⟨w, hw, hWm⟩ := fy_match (rl := rl) (bl := bl) (md := md) (pc := pc) (ht := ht) (sa := sa) (cn := cn) (po := po) (ac := ac) (bm := bm) (ck := ck) (cg := cg) (tc := tc) (tf := tf) (th := th) (tp := tp) (ds := ds) (wx := wx) (wy := wy) (wz := wz) (nb := nb) (kd := kd) (fl := fl) (hd := hd) (my := upd my (fr_sg c) 1) (vs := vs) (pr := pr) h2 h3 h4 hy8
  have hwv : ∀ x, x < 4 → bd (4 * (c / 216) + x) ≠ 0 → w x = fr_val bp bf fl (fr_sg c) x := fun x hx hbd => hw hM x hx (by rw [hyr]; exact (((h5 _ hr).2.2 x hx).2.2 hbd).1)
  have hff : ∀ o, o < fr_n (po (c / 216)) → (∃ g, g < 2 ^ 31 ∧ ff' o = nI g) ∧ ff' o = (if o = 0 then nI (fr_gv nb po (fr_sg c) 0) else if o = 1 then nI (fr_gv nb po (fr_sg c) 1) else nI (fr_gv nb po (fr_sg c) 2)) := by
    intro o ho
    have := q1.1
    have ho3 : o < 3 := by omega
    refine ⟨⟨_, fr_gv_lt h31 (by decide), hf1 o ho3⟩, ?_⟩
    rw [hf1 o ho3]
    match o, ho3 with
    | 0, _ => rfl
    | 1, _ => rfl
    | 2, _ => rfl
  have hfv : ∀ w' : Nat → Int32, ∀ x, x < 4 → bd (4 * (c / 216) + x) ≠ 0 → fv' x = fr_vq w' (w 0) (w 1) (w 2) (w 3) x := by
    intro w' x hx hbd
    rw [hf2 x hx hbd, ← hwv x hx hbd]
    match x, hx with
    | 0, _ => rfl
    | 1, _ => rfl
    | 2, _ => rfl
    | 3, _ => rfl
  obtain ⟨fc2, md2, pc2, ht2, nb2, kd2, fl2, ex2, mx2, va2, hd2, my2, vs2, pr2, b1, b2, b3, b4, b5⟩ := fr_acts_loop (fin := fin) (r := c / 216) (a := a) (xa := nI (fr_gv nb po (fr_sg c) 0)) (xb := nI (fr_gv nb po (fr_sg c) 1)) (xc := nI (fr_gv nb po (fr_sg c) 2)) (v0 := w 0) (v1 := w 1) (v2 := w 2) (v3 := w 3) (y1 := y1) (y2 := y2) (sa := sa) (ff := ff') (fv := fv') (rl := rl) (bl := bl) (ck := ck) (cs := cs)
    hcs hRB hfin hfe hr na hff hfv a 0 b fc md pc ht nb kd fl ex (upd mx c 1) va hd (upd my (fr_sg c) 1) w pr (by omega) hFB (by omega) (fr_FL_m hFL hc h0)
  refine ⟨fc2, md2, pc2, ht2, nb2, kd2, fl2, ex2, mx2, va2, hd2, my2, vs2, pr2, ff', fv', fr_FB_up b1 (by omega), b2, ?_, hWb, fun post J n h => ?_, fun post h => ?_⟩
  · rcases b3 with ⟨c1, s', c2, c3, c4⟩ | ⟨c1, c2⟩
    · exact Or.inl ⟨c1, (h7 _ hr).mpr ⟨s', by omega, c4⟩⟩
    · refine Or.inr ⟨c1, Classical.byContradiction (fun hh => ?_)⟩
      obtain ⟨s', d1, d2⟩ := (h7 _ hr).mp hh
      exact c2 s' (by omega) (by omega) d2
  · rw [ea] at h ⊢
    exact ⟨n + a, b4 post J n h⟩
  · refine ⟨by decide, nm_r (e' := nI (c / 216)) (by rw [fr_d216 (by omega), hyr]) ?_⟩
    refine fy_number (j := 0) hp hn hy8 (by omega) ?_
    refine fy_number (j := 1) hp hn hy8 (by omega) ?_
    refine fy_number (j := 2) hp hn hy8 (by omega) ?_
    refine hWm _ (nm_e (nm_e (nm_e (nm_e (nm_r (e' := nI (4 * (c / 216))) (fr_4m _) ⟨1 + a, b5 post 1 ⟨vp_in_nI hr (by decide), br_t ?_ h⟩⟩)))))
    rw [nI_clamp (by omega), ea, fr_4m, nI_add]
    exact Int32.le_refl _
/-! ===== run ===== -/
theorem fr_runXY {fin N : Nat} (hcs : fr_CS cs) (hRB : fr_RB R po ng cn ac tt ha bd bp bf bm cg tc tf th tp aw ak ao ds wx wy wz) (hfin : fin ≤ 4) (hfe : (bl = 0 → rl = nI fin) ∧ (¬ bl = 0 → rl - 1 = nI fin)) (hN : N ≤ 20) :
    ∀ (d i b : Nat) (fc md pc ht : Int32) (nb kd fl ex mx va ff fv hd my vs pr : Nat → Int32), i + d = N → fr_FB b fc md nb → b + 4 * d + 2 < 2 ^ 31 → fr_FL fin (fr_M nb kd fl po ng ck cg tc tf th tp bp bf) ex mx hd my → ht = 0 →
    ∃ (res fc' md' pc' ht' : Int32) (nb' kd' fl' ex' mx' va' ff' fv' hd' my' vs' pr' : Nat → Int32),
      fr_FB (b + 4 * d) fc' md' nb' ∧ fr_FL fin (fr_M nb' kd' fl' po ng ck cg tc tf th tp bp bf) ex' mx' hd' my' ∧
      (∀ post : Int32 → SX → Prop, post res (fc', md', rl, bl, pc', nb', kd', fl', sa, po, ng, tt, ac, ha, bd, bp, bf, ck, cg, tc, tf, th, tp, aw, ak, ao, cs, ex', mx', va', ff', fv', pr') → wX_run_15 post (nI N) (d + 1) (nI i) fc md rl bl pc nb kd fl sa po ng tt ac ha bd bp bf ck cg tc tf th tp aw ak ao cs ex mx va ff fv pr) ∧
      (∀ post : Int32 → SY → Prop, post res (rl, bl, md', pc', ht', sa, cn, po, ac, bm, ck, cg, tc, tf, th, tp, ds, wx, wy, wz, nb', kd', fl', hd', my', vs', pr') → wY_run_20 post (nI N) (d + 1) (nI i) rl bl md pc ht sa cn po ac bm ck cg tc tf th tp ds wx wy wz nb kd fl hd my vs pr) := by
  intro d
  induction d with
  | zero =>
    intro i b fc md pc ht nb kd fl ex mx va ff fv hd my vs pr hi hFB hb hFL ht0
    have : i = N := by omega
    subst this
    exact ⟨nI i, fc, md, pc, ht, nb, kd, fl, ex, mx, va, ff, fv, hd, my, vs, pr, hFB, hFL, fun post h => br_t (Int32.le_refl _) h, fun post h => br_t (Int32.le_refl _) h⟩
  | succ d ih =>
    intro i b fc md pc ht nb kd fl ex mx va ff fv hd my vs pr hi hFB hb hFL ht0
    have hge : ¬ nI N ≤ nI i := nI_ge (by omega) (by omega)
    obtain ⟨r, s, hrs, hX, hY⟩ := fr_nextXY (fc := fc) (md := md) (rl := rl) (bl := bl) (pc := pc) (nb := nb) (kd := kd) (fl := fl) (sa := sa) (po := po) (ng := ng) (tt := tt) (ac := ac) (ha := ha) (bd := bd) (bp := bp) (bf := bf) (ck := ck) (cg := cg) (tc := tc) (tf := tf) (th := th) (tp := tp) (aw := aw) (ak := ak) (ao := ao) (cs := cs) (ex := ex) (mx := mx) (va := va) (ff := ff) (fv := fv) (pr := pr) (ht := ht) (cn := cn) (bm := bm) (ds := ds) (wx := wx) (wy := wy) (wz := wz) (hd := hd) (my := my) (vs := vs) (p := -1) (q := -1) hcs hRB.1 hRB.2.1 hFB (by omega) hFL (Or.inl ⟨rfl, rfl⟩)
    rcases hrs with ⟨rfl, rfl⟩ | ⟨c, hc, rfl, rfl, he, hm⟩
    · exact ⟨nI i, fc, md, pc, ht, nb, kd, fl, ex, mx, va, ff, fv, hd, my, vs, pr, fr_FB_up hFB (by omega), hFL, fun post h => br_f hge (hX _ (br_t rfl h)), fun post h => br_f hge (br_t ht0 (hY _ (br_f (by decide) h)))⟩
    · have hr : c / 216 < 4 := by omega
      have hy8 := fr_sg_864 hc
      have hinr : vp_in (nI (c / 216)) 4 := vp_in_nI hr (by decide)
      have hclr : (nI (c / 216)).toNatClampNeg = c / 216 := nI_clamp (by omega)
      have hcly : (nI (fr_sg c)).toNatClampNeg = fr_sg c := nI_clamp (by omega)
      obtain ⟨fc1, md1, pc1, ht1, nb1, kd1, fl1, ex1, mx1, va1, hd1, my1, vs1, pr1, ff1, fv1, a1, a2, a3, a4, a5, a6⟩ := fr_fire (fc := fc) (md := md) (rl := rl) (bl := bl) (pc := pc) (nb := nb) (kd := kd) (fl := fl) (sa := sa) (po := po) (ng := ng) (tt := tt) (ac := ac) (ha := ha) (bd := bd) (bp := bp) (bf := bf) (ck := ck) (cg := cg) (tc := tc) (tf := tf) (th := th) (tp := tp) (aw := aw) (ak := ak) (ao := ao) (cs := cs) (ex := ex) (mx := mx) (va := va) (ff := ff) (fv := fv) (pr := pr) (ht := ht) (cn := cn) (bm := bm) (ds := ds) (wx := wx) (wy := wy) (wz := wz) (hd := hd) (my := my) (vs := vs) (y1 := nI N) (y2 := nI i) hcs hRB hfin hfe hc hFB (by omega) hFL he
      have q4 := (hRB.1 _ hr).2.2.2.1
      have hXs : ∀ (post : Int32 → SX → Prop) n, (vp_in (nI (c / 216)) 4 ∧ ((ha (nI (c / 216)).toNatClampNeg = 0 → ∀ x2, x2 = nI i + 1 → wX_run_15 post (nI N) n x2 fc1 md1 rl bl pc1 nb1 kd1 fl1 sa po ng tt ac ha bd bp bf ck cg tc tf th tp aw ak ao cs ex1 mx1 va1 ff1 fv1 pr1) ∧ (¬ ha (nI (c / 216)).toNatClampNeg = 0 → post (nI i + 1) (fc1, md1, rl, bl, pc1, nb1, kd1, fl1, sa, po, ng, tt, ac, ha, bd, bp, bf, ck, cg, tc, tf, th, tp, aw, ak, ao, cs, ex1, mx1, va1, ff1, fv1, pr1)))) →
          wX_run_15 post (nI N) (n + 1) (nI i) fc md rl bl pc nb kd fl sa po ng tt ac ha bd bp bf ck cg tc tf th tp aw ak ao cs ex mx va ff fv pr := by
        intro post n h
        refine br_f hge (hX _ (br_f (fr_m1 (by omega)) ⟨by decide, nm_r (fr_d216 (by omega)) ⟨hinr, nm_r (e' := ac (c / 216)) (by rw [hclr]) (a4 _ (a5 post _ 1 (br_t (Int32.le_refl _) h)))⟩⟩))
      have hYs : ∀ (post : Int32 → SY → Prop) n, wY_run_20 post (nI N) n (nI (i + 1)) rl bl md1 pc1 ht1 sa cn po ac bm ck cg tc tf th tp ds wx wy wz nb1 kd1 fl1 hd1 my1 vs1 pr1 → wY_run_20 post (nI N) (n + 1) (nI i) rl bl md pc ht sa cn po ac bm ck cg tc tf th tp ds wx wy wz nb kd fl hd my vs pr := by
        intro post n h
        exact br_f hge (br_t ht0 (hY _ (br_t (nI_pos' (by omega)) ⟨vp_in_nI hy8 (by decide), nm_r (e' := upd my (fr_sg c) 1) (by rw [hcly, fr_b1]) (nm_r (nI_1 i) (a6 _ h))⟩)))
      rcases a3 with ⟨g1, g2⟩ | ⟨g1, g2⟩
      · refine ⟨nI i + 1, fc1, md1, pc1, ht1, nb1, kd1, fl1, ex1, mx1, va1, ff1, fv1, hd1, my1, vs1, pr1, fr_FB_up a1 (by omega), a2, fun post h => hXs post _ ⟨hinr, br_f (by rw [hclr]; exact g2) h⟩, fun post h => hYs post _ ?_⟩
        rw [nI_1] at h
        exact br_c (fun _ => h) (fun _ => br_f (by rw [g1]; decide) h)
      · obtain ⟨res, fc2, md2, pc2, ht2, nb2, kd2, fl2, ex2, mx2, va2, ff2, fv2, hd2, my2, vs2, pr2, b1, b2, b3, b4⟩ := ih (i + 1) (b + 4) fc1 md1 pc1 ht1 nb1 kd1 fl1 ex1 mx1 va1 ff1 fv1 hd1 my1 vs1 pr1 (by omega) a1 (by omega) a2 (g1.trans ht0)
        exact ⟨res, fc2, md2, pc2, ht2, nb2, kd2, fl2, ex2, mx2, va2, ff2, fv2, hd2, my2, vs2, pr2, fr_FB_up b1 (by omega), b2, fun post h => hXs post _ ⟨hinr, br_t (by rw [hclr]; exact g2) (nm_r (nI_1 i) (b3 post h))⟩, fun post h => hYs post _ (b4 post h)⟩
end
