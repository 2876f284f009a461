section
variable {fc md rl bl pc ht : Int32} {nb kd fl sa po ng tt ac ha bd bp bf ck cg tc tf th tp aw ak ao cs ex mx va ff fv pr cn bm ds wx wy wz hd my vs : Nat → Int32} {R : Nat}
/-! ===== agenda ===== -/
theorem fr_ct_t {f : Nat → Bool} {n : Nat} (h : f n = true) : fr_ct f (n + 1) = fr_ct f n + 1 := by
  show fr_ct f n + (f n).toNat = _
  rw [h]; rfl
theorem fr_ct_f {f : Nat → Bool} {n : Nat} (h : f n = false) : fr_ct f (n + 1) = fr_ct f n := by
  show fr_ct f n + (f n).toNat = _
  rw [h]; rfl
theorem fx_agenda {post : Int32 → Prop} (h : post (nI (fr_ct (fun x => decide (ex x ≠ 0 ∧ mx x = 0)) 864))) : wpX_agenda post (fc, md, rl, bl, pc, nb, kd, fl, sa, po, ng, tt, ac, ha, bd, bp, bf, ck, cg, tc, tf, th, tp, aw, ak, ao, cs, ex, mx, va, ff, fv, pr) := by
  refine ⟨864 + 1, fr_upto (fun n i => wX_agenda_4 post fc md rl bl pc nb kd fl sa po ng tt ac ha bd bp bf ck cg tc tf th tp aw ak ao cs ex mx va ff fv pr n (nI (fr_ct (fun x => decide (ex x ≠ 0 ∧ mx x = 0)) i)) (nI i)) 864 ?_ ?_⟩
  · intro n
    exact br_t (nI_le (a := 864) (b := 864) (by omega) (by decide)) h
  · intro n i hi hk
    refine br_f (nI_ge (b := 864) hi (by decide)) (fx_waiting hi (fr_brf (fun w => ?_) (fun w => ?_)))
    · rw [fr_ct_f (decide_eq_false w)] at hk
      exact nm_r (nI_1 i) hk
    · rw [fr_ct_t (decide_eq_true w)] at hk
      exact nm_r (nI_1 _) (nm_r (nI_1 i) hk)
theorem fy_agenda {post : Int32 → Prop} (h : post (nI (fr_ct (fun x => decide (hd x ≠ 0 ∧ my x = 0)) 864))) : wpY_agenda post (rl, bl, md, pc, ht, sa, cn, po, ac, bm, ck, cg, tc, tf, th, tp, ds, wx, wy, wz, nb, kd, fl, hd, my, vs, pr) := by
  refine ⟨864 + 1, fr_upto (fun n i => wY_agenda_4 post rl bl md pc ht sa cn po ac bm ck cg tc tf th tp ds wx wy wz nb kd fl hd my vs pr n (nI (fr_ct (fun x => decide (hd x ≠ 0 ∧ my x = 0)) i)) (nI i)) 864 ?_ ?_⟩
  · intro n
    exact br_t (nI_le (a := 864) (b := 864) (by omega) (by decide)) h
  · intro n i hi hk
    have hin : vp_in (nI i) 864 := vp_in_nI hi (by decide)
    have hcl : (nI i).toNatClampNeg = i := nI_clamp (by omega)
    refine br_f (nI_ge (b := 864) hi (by decide)) ⟨hin, ?_⟩
    rw [hcl]
    refine br_c (fun e => ?_) (fun e => ⟨hin, br_c (fun e2 => ?_) (fun e2 => ?_)⟩)
    · rw [fr_ct_f (decide_eq_false (fun k => k.1 e))] at hk
      exact nm_r (nI_1 i) hk
    · rw [fr_ct_t (decide_eq_true ⟨e, e2⟩)] at hk
      exact nm_r (nI_1 _) (nm_r (nI_1 i) hk)
    · rw [fr_ct_f (decide_eq_false (fun k => e2 k.2))] at hk
      exact nm_r (nI_1 i) hk
theorem fr_FL_x {fin : Nat} {M : Nat → Prop} {x : Nat} (h : fr_FL fin M ex mx hd my) (hx : x < 864) : ex x = hd (fr_sg x) ∧ mx x = my (fr_sg x) := by
  have := h (fr_sg x) (fr_sg_864 hx)
  rw [fr_sg_sg] at this
  exact ⟨this.1, this.2.1⟩
theorem i_vc_agenda {k : Nat} {u : SX} {v : SY} (I : i_Rel k u v) (hk : k + 5 ≤ 2560) : wpX_agenda (fun r => wpY_agenda (fun r' => r' = r ∧ i_Rel (k + 5) u v) v) u := by
  have up := i_up I
  obtain ⟨R, B, fc, md, rl, bl, pc, ht, nb, kd, fl, sa, po, ng, tt, ac, ha, bd, bp, bf, ck, cg, tc, tf, th, tp, aw, ak, ao, cs, ex, mx, va, ff, fv, pr, cn, bm, ds, wx, wy, wz, hd, my, vs, rfl, rfl, h1, h2, h3, h4, h5, h6, h7, h8, h9⟩ := I
  refine fx_agenda (fy_agenda ⟨congrArg nI ?_, up⟩)
  rw [← fr_ct_sg (fun x => decide (hd x ≠ 0 ∧ my x = 0))]
  refine fr_ct_c (fun i hi => ?_)
  have := fr_FL_x h9 hi
  rw [this.1, this.2]
/-! ===== the k-th of the agenda ===== -/
def fr_rel (hd my : Nat → Int32) (r q : Int32) : Prop := (r = -1 ∧ q = -1) ∨ ∃ c, c < 864 ∧ r = nI c ∧ q = nI (fr_sg c) ∧ hd (fr_sg c) ≠ 0 ∧ my (fr_sg c) = 0
theorem fr_GX {fin : Nat} (h : fr_FL fin (fr_M nb kd fl po ng ck cg tc tf th tp bp bf) ex mx hd my) : ∀ y, y < 864 → hd y ≠ 0 → fr_G nb po y := by
  intro y hy h0
  obtain ⟨_, _, c, d⟩ := h y hy
  by_cases hl : y < 216 * fin
  · by_cases hM : fr_M nb kd fl po ng ck cg tc tf th tp bp bf y
    · exact hM.1
    · rw [(c hl).1, fr_bf hM] at h0
      exact absurd rfl h0
  · exact absurd (d (by omega)) h0
theorem fr_nextXY {b fin : Nat} {p q : Int32} (hcs : fr_CS cs) (h2 : fr_R2 R po ng cn ac cg) (h3 : fr_R3 po ng tc tt) (hFB : fr_FB b fc md nb) (hb : b + 2 < 2 ^ 31) (hFL : fr_FL fin (fr_M nb kd fl po ng ck cg tc tf th tp bp bf) ex mx hd my)
    (hpq : (p = -1 ∧ q = -1) ∨ ∃ c, c < 864 ∧ p = nI c ∧ q = nI (fr_sg c)) :
    ∃ r s, fr_rel hd my r s ∧ (∀ post : Int32 → Prop, post r → wpX_firstAfter post (fc, md, rl, bl, pc, nb, kd, fl, sa, po, ng, tt, ac, ha, bd, bp, bf, ck, cg, tc, tf, th, tp, aw, ak, ao, cs, ex, mx, va, ff, fv, pr) p) ∧ (∀ post : Int32 → Prop, post s → wpY_next post (rl, bl, md, pc, ht, sa, cn, po, ac, bm, ck, cg, tc, tf, th, tp, ds, wx, wy, wz, nb, kd, fl, hd, my, vs, pr) q) := by
  have hn := fr_FB_n hFB
  have h31 : ∀ f, f < 6 → fr_n (nb f) < 2 ^ 31 := by
    obtain ⟨⟨m, g1, g2, g3⟩, _, _⟩ := hFB
    intro f hf
    have := (g3 f hf).1
    omega
  have hGY := fr_GX hFL
  have hGx : ∀ x, x < 864 → ex x ≠ 0 → fr_G nb po (fr_sg x) := fun x hx h0 => hGY _ (fr_sg_864 hx) (by rw [← (fr_FL_x hFL hx).1]; exact h0)
  have hp : p = -1 ∨ ∃ c, c < 864 ∧ p = nI c := hpq.elim (fun h => Or.inl h.1) (fun ⟨c, h, e, _⟩ => Or.inr ⟨c, h, e⟩)
  have hq : q = -1 ∨ ∃ c, c < 864 ∧ q = nI c := hpq.elim (fun h => Or.inl h.2) (fun ⟨c, h, _, e⟩ => Or.inr ⟨fr_sg c, fr_sg_864 h, e⟩)
  obtain ⟨r, hr, hWx⟩ := fx_first (fc := fc) (md := md) (rl := rl) (bl := bl) (pc := pc) (nb := nb) (kd := kd) (fl := fl) (sa := sa) (po := po) (ng := ng) (tt := tt) (ac := ac) (ha := ha) (bd := bd) (bp := bp) (bf := bf) (ck := ck) (cg := cg) (tc := tc) (tf := tf) (th := th) (tp := tp) (aw := aw) (ak := ak) (ao := ao) (cs := cs) (ex := ex) (mx := mx) (va := va) (ff := ff) (fv := fv) (pr := pr) (prev := p) hcs h2 h3 hn h31 hFB.2.1 hGx hp
  obtain ⟨s, hs, hWy⟩ := fy_next (rl := rl) (bl := bl) (md := md) (pc := pc) (ht := ht) (sa := sa) (cn := cn) (po := po) (ac := ac) (bm := bm) (ck := ck) (cg := cg) (tc := tc) (tf := tf) (th := th) (tp := tp) (ds := ds) (wx := wx) (wy := wy) (wz := wz) (nb := nb) (kd := kd) (fl := fl) (hd := hd) (my := my) (vs := vs) (pr := pr) (prev := q) h2 h3 hn h31 hFB.2.1 hGY hq
  refine ⟨r, s, ?_, hWx, hWy⟩
  have hr' : fr_Nx (fun a b => fr_B nb sa po ng tc (fr_sg a) (fr_sg b)) (fun a => fr_P (fr_B nb sa po ng tc) hd my q (fr_sg a)) 864 r := by
    refine fr_Nx_c hr (fun c hc => ?_)
    have hfx := fr_FL_x hFL hc
    unfold fr_P
    rw [hfx.1, hfx.2]
    rcases hpq with ⟨e1, e2⟩ | ⟨c0, hc0, e1, e2⟩
    · rw [e1, e2]
      exact ⟨fun H => ⟨H.1, H.2.1, fun p hp e => absurd e.symm (fr_m1 (by omega))⟩, fun H => ⟨H.1, H.2.1, fun p hp e => absurd e.symm (fr_m1 (by omega))⟩⟩
    · have h0 := fr_sg_864 hc0
      rw [e1, e2]
      constructor
      · intro H
        refine ⟨H.1, H.2.1, fun p hp e => ?_⟩
        have : fr_sg c0 = p := (nI_eq (by omega) (by omega)).mp e
        rw [← this]
        exact H.2.2 c0 hc0 rfl
      · intro H
        refine ⟨H.1, H.2.1, fun p hp e => ?_⟩
        have : c0 = p := (nI_eq (by omega) (by omega)).mp e
        rw [← this]
        exact H.2.2 (fr_sg c0) h0 rfl
  rcases fr_Nx_sg (B := fr_B nb sa po ng tc) (P := fr_P (fr_B nb sa po ng tc) hd my q) fr_B_as hr' hs with ⟨e1, e2⟩ | ⟨c, hc, e1, e2, hP⟩
  · exact Or.inl ⟨e1, e2⟩
  · exact Or.inr ⟨c, hc, e1, e2, hP.1, hP.2.1⟩
theorem fr_atXY {b fin : Nat} (v1 : Int32) (hcs : fr_CS cs) (h2 : fr_R2 R po ng cn ac cg) (h3 : fr_R3 po ng tc tt) (hFB : fr_FB b fc md nb) (hb : b + 2 < 2 ^ 31) (hFL : fr_FL fin (fr_M nb kd fl po ng ck cg tc tf th tp bp bf) ex mx hd my) :
    ∃ r s, fr_rel hd my r s ∧ (∀ post : Int32 → Prop, post r → wpX_candidateAt post (fc, md, rl, bl, pc, nb, kd, fl, sa, po, ng, tt, ac, ha, bd, bp, bf, ck, cg, tc, tf, th, tp, aw, ak, ao, cs, ex, mx, va, ff, fv, pr) v1) ∧ (∀ post : Int32 → Prop, post s → wpY_at post (rl, bl, md, pc, ht, sa, cn, po, ac, bm, ck, cg, tc, tf, th, tp, ds, wx, wy, wz, nb, kd, fl, hd, my, vs, pr) v1) := by
  by_cases n0 : v1 < 0
  · exact ⟨-1, -1, Or.inl ⟨rfl, rfl⟩, fun post h => br_t n0 h, fun post h => br_t n0 h⟩
  · by_cases n16 : 16 ≤ v1
    · have e15 : (15 : Int32).toInt = 15 := by decide
      have e16 : (16 : Int32).toInt = 16 := by decide
      refine ⟨-1, -1, Or.inl ⟨rfl, rfl⟩, fun post h => br_f n0 (br_f (Int32.not_lt.mpr n16) h), fun post h => br_f n0 (br_f ?_ h)⟩
      rw [Int32.le_iff_toInt_le, e16] at n16
      rw [Int32.le_iff_toInt_le, e15]
      omega
    · obtain ⟨k, hk, rfl⟩ := fr_kind (n := 16) (by omega) n0 n16
      have key : ∀ d i r s, i + d = k → fr_rel hd my r s → ∃ r' s', fr_rel hd my r' s' ∧ (∀ post : Int32 → Prop, post r' → wX_candidateAt_20 post (nI k) fc md rl bl pc nb kd fl sa po ng tt ac ha bd bp bf ck cg tc tf th tp aw ak ao cs ex mx va ff fv pr (d + 1) r (nI i)) ∧ (∀ post : Int32 → Prop, post s' → wY_at_20 post (nI k) rl bl md pc ht sa cn po ac bm ck cg tc tf th tp ds wx wy wz nb kd fl hd my vs pr (d + 1) s (nI i)) := by
        intro d
        induction d with
        | zero =>
          intro i r s hi hrs
          have : i = k := by omega
          subst this
          exact ⟨r, s, hrs, fun post h => br_t (Int32.le_refl _) h, fun post h => br_t (Int32.le_refl _) h⟩
        | succ d ih =>
          intro i r s hi hrs
          have hge : ¬ nI k ≤ nI i := nI_ge (by omega) (by omega)
          rcases hrs with ⟨rfl, rfl⟩ | ⟨c, hc, rfl, rfl, hh⟩
          · exact ⟨-1, -1, Or.inl ⟨rfl, rfl⟩, fun post h => br_f hge (br_t rfl h), fun post h => br_f hge (br_t (by decide) h)⟩
          · have h8 := fr_sg_864 hc
            obtain ⟨r1, s1, h1, hX, hY⟩ := fr_nextXY (fc := fc) (md := md) (rl := rl) (bl := bl) (pc := pc) (nb := nb) (kd := kd) (fl := fl) (sa := sa) (po := po) (ng := ng) (tt := tt) (ac := ac) (ha := ha) (bd := bd) (bp := bp) (bf := bf) (ck := ck) (cg := cg) (tc := tc) (tf := tf) (th := th) (tp := tp) (aw := aw) (ak := ak) (ao := ao) (cs := cs) (ex := ex) (mx := mx) (va := va) (ff := ff) (fv := fv) (pr := pr) (ht := ht) (cn := cn) (bm := bm) (ds := ds) (wx := wx) (wy := wy) (wz := wz) (hd := hd) (my := my) (vs := vs) hcs h2 h3 hFB hb hFL (Or.inr ⟨c, hc, rfl, rfl⟩)
            obtain ⟨r2, s2, h2', hX2, hY2⟩ := ih (i + 1) r1 s1 (by omega) h1
            exact ⟨r2, s2, h2', fun post h => br_f hge (br_f (fr_m1 (by omega)) (hX _ (nm_r (nI_1 i) (hX2 post h)))), fun post h => br_f hge (br_f (nI_pos (by omega)) (hY _ (nm_r (nI_1 i) (hY2 post h))))⟩
      obtain ⟨r1, s1, h1, hX, hY⟩ := fr_nextXY (fc := fc) (md := md) (rl := rl) (bl := bl) (pc := pc) (nb := nb) (kd := kd) (fl := fl) (sa := sa) (po := po) (ng := ng) (tt := tt) (ac := ac) (ha := ha) (bd := bd) (bp := bp) (bf := bf) (ck := ck) (cg := cg) (tc := tc) (tf := tf) (th := th) (tp := tp) (aw := aw) (ak := ak) (ao := ao) (cs := cs) (ex := ex) (mx := mx) (va := va) (ff := ff) (fv := fv) (pr := pr) (ht := ht) (cn := cn) (bm := bm) (ds := ds) (wx := wx) (wy := wy) (wz := wz) (hd := hd) (my := my) (vs := vs) (p := -1) (q := -1) hcs h2 h3 hFB hb hFL (Or.inl ⟨rfl, rfl⟩)
      obtain ⟨r2, s2, h2', hX2, hY2⟩ := key k 0 r1 s1 (by omega) h1
      exact ⟨r2, s2, h2', fun post h => br_f n0 (br_t (nI_lt (b := 16) hk (by decide)) (hX _ ⟨k + 1, hX2 post h⟩)), fun post h => br_f n0 (br_t (nI_le (b := 15) (by omega) (by decide)) (hY _ ⟨k + 1, hY2 post h⟩))⟩
theorem i_vc_ruleAt {k : Nat} {u : SX} {v : SY} (I : i_Rel k u v) (hk : k + 5 ≤ 2560) (v1 : Int32) : wpX_ruleAt (fun r => wpY_ruleAt (fun r' => r' = r ∧ i_Rel (k + 5) u v) v v1) u v1 := by
  have up := i_up I
  obtain ⟨R, B, fc, md, rl, bl, pc, ht, nb, kd, fl, sa, po, ng, tt, ac, ha, bd, bp, bf, ck, cg, tc, tf, th, tp, aw, ak, ao, cs, ex, mx, va, ff, fv, pr, cn, bm, ds, wx, wy, wz, hd, my, vs, rfl, rfl, h1, h2, h3, h4, h5, h6, h7, h8, h9⟩ := I
  obtain ⟨r, s, hrs, hX, hY⟩ := fr_atXY (fc := fc) (md := md) (rl := rl) (bl := bl) (pc := pc) (nb := nb) (kd := kd) (fl := fl) (sa := sa) (po := po) (ng := ng) (tt := tt) (ac := ac) (ha := ha) (bd := bd) (bp := bp) (bf := bf) (ck := ck) (cg := cg) (tc := tc) (tf := tf) (th := th) (tp := tp) (aw := aw) (ak := ak) (ao := ao) (cs := cs) (ex := ex) (mx := mx) (va := va) (ff := ff) (fv := fv) (pr := pr) (ht := ht) (cn := cn) (bm := bm) (ds := ds) (wx := wx) (wy := wy) (wz := wz) (hd := hd) (my := my) (vs := vs) v1 h7 h6.1 h6.2.1 h8 (by omega) h9
  unfold wpX_ruleAt
  refine hX _ ?_
  rcases hrs with ⟨rfl, rfl⟩ | ⟨c, hc, rfl, rfl, _⟩
  · refine br_t rfl ?_
    unfold wpY_ruleAt
    exact hY _ (br_f (by decide) ⟨rfl, up⟩)
  · have h8 := fr_sg_864 hc
    refine br_f (fr_m1 (by omega)) ⟨by decide, ?_⟩
    unfold wpY_ruleAt
    refine hY _ (br_t (nI_pos' (by omega)) ⟨by decide, ?_, up⟩)
    rw [fr_d216 (by omega), fr_d216 (by omega), fr_sg_r]
theorem i_vc_factAt {k : Nat} {u : SX} {v : SY} (I : i_Rel k u v) (hk : k + 5 ≤ 2560) (v1 : Int32) (v2 : Int32) : wpX_factAt (fun r => wpY_factAt (fun r' => r' = r ∧ i_Rel (k + 5) u v) v v1 v2) u v1 v2 := by
  have up := i_up I
  obtain ⟨R, B, fc, md, rl, bl, pc, ht, nb, kd, fl, sa, po, ng, tt, ac, ha, bd, bp, bf, ck, cg, tc, tf, th, tp, aw, ak, ao, cs, ex, mx, va, ff, fv, pr, cn, bm, ds, wx, wy, wz, hd, my, vs, rfl, rfl, h1, h2, h3, h4, h5, h6, h7, h8, h9⟩ := I
  obtain ⟨r, s, hrs, hX, hY⟩ := fr_atXY (fc := fc) (md := md) (rl := rl) (bl := bl) (pc := pc) (nb := nb) (kd := kd) (fl := fl) (sa := sa) (po := po) (ng := ng) (tt := tt) (ac := ac) (ha := ha) (bd := bd) (bp := bp) (bf := bf) (ck := ck) (cg := cg) (tc := tc) (tf := tf) (th := th) (tp := tp) (aw := aw) (ak := ak) (ao := ao) (cs := cs) (ex := ex) (mx := mx) (va := va) (ff := ff) (fv := fv) (pr := pr) (ht := ht) (cn := cn) (bm := bm) (ds := ds) (wx := wx) (wy := wy) (wz := wz) (hd := hd) (my := my) (vs := vs) v1 h7 h6.1 h6.2.1 h8 (by omega) h9
  have hp : ∀ r, r < 4 → fr_Lt (po r) 4 := fun r hr => (h6.1 r hr).1
  have hn := fr_FB_n h8
  by_cases n0 : v2 < 0
  · refine br_t n0 ?_
    unfold wpY_factAt
    exact hY _ (br_c (fun _ => ⟨rfl, up⟩) (fun _ => br_t n0 ⟨rfl, up⟩))
  · by_cases n3 : 3 ≤ v2
    · refine br_f n0 (br_f (Int32.not_lt.mpr n3) ?_)
      unfold wpY_factAt
      refine hY _ (br_c (fun _ => ⟨rfl, up⟩) (fun _ => br_f n0 (br_f ?_ ⟨rfl, up⟩)))
      have e2 : (2 : Int32).toInt = 2 := by decide
      have e3 : (3 : Int32).toInt = 3 := by decide
      rw [Int32.le_iff_toInt_le, e3] at n3
      rw [Int32.le_iff_toInt_le, e2]
      omega
    · obtain ⟨j, hj, rfl⟩ := fr_kind (n := 3) (by omega) n0 n3
      refine br_f n0 (br_t (nI_lt (b := 3) hj (by decide)) (hX _ ?_))
      rcases hrs with ⟨rfl, rfl⟩ | ⟨c, hc, rfl, rfl, _⟩
      · refine br_t rfl ?_
        unfold wpY_factAt
        exact hY _ (br_t (by decide) ⟨rfl, up⟩)
      · have h864 := fr_sg_864 hc
        refine br_f (fr_m1 (by omega)) (fx_given h7 hp hn hc hj ?_)
        unfold wpY_factAt
        exact hY _ (br_f (nI_pos (by omega)) (br_f n0 (br_t (nI_le (b := 2) (by omega) (by decide)) (fy_number hp hn h864 hj ⟨rfl, up⟩))))
/-! ===== facts, fact, printed ===== -/
theorem fy_facts {post : Int32 → Prop} (h : post (nI (fr_ct (fun f => decide (nb f ≠ 0)) 6) + 8 * md)) : wpY_facts post (rl, bl, md, pc, ht, sa, cn, po, ac, bm, ck, cg, tc, tf, th, tp, ds, wx, wy, wz, nb, kd, fl, hd, my, vs, pr) := by
  refine ⟨6 + 1, fr_upto (fun n i => wY_facts_4 post rl bl md pc ht sa cn po ac bm ck cg tc tf th tp ds wx wy wz nb kd fl hd my vs pr n (nI (fr_ct (fun f => decide (nb f ≠ 0)) i)) (nI i)) 6 ?_ ?_⟩
  · intro n
    exact br_t (nI_le (a := 6) (b := 6) (by omega) (by decide)) h
  · intro n i hi hk
    refine br_f (nI_ge (b := 6) hi (by decide)) ⟨vp_in_nI hi (by decide), ?_⟩
    rw [nI_clamp (by omega)]
    refine br_c (fun e => ?_) (fun e => ?_)
    · rw [fr_ct_f (decide_eq_false (fun k => k e))] at hk
      exact nm_r (nI_1 i) hk
    · rw [fr_ct_t (decide_eq_true e)] at hk
      exact nm_r (nI_1 _) (nm_r (nI_1 i) hk)
theorem i_vc_facts {k : Nat} {u : SX} {v : SY} (I : i_Rel k u v) (hk : k + 5 ≤ 2560) : wpX_facts (fun r => wpY_facts (fun r' => r' = r ∧ i_Rel (k + 5) u v) v) u := by
  have up := i_up I
  obtain ⟨R, B, fc, md, rl, bl, pc, ht, nb, kd, fl, sa, po, ng, tt, ac, ha, bd, bp, bf, ck, cg, tc, tf, th, tp, aw, ak, ao, cs, ex, mx, va, ff, fv, pr, cn, bm, ds, wx, wy, wz, hd, my, vs, rfl, rfl, h1, h2, h3, h4, h5, h6, h7, h8, h9⟩ := I
  refine fy_facts ⟨?_, up⟩
  rw [h8.2.2]
theorem i_vc_printed {k : Nat} {u : SX} {v : SY} (I : i_Rel k u v) (hk : k + 5 ≤ 2560) (v1 : Int32) : wpX_printed (fun r => wpY_printed (fun r' => r' = r ∧ i_Rel (k + 5) u v) v v1) u v1 := by
  have up := i_up I
  obtain ⟨R, B, fc, md, rl, bl, pc, ht, nb, kd, fl, sa, po, ng, tt, ac, ha, bd, bp, bf, ck, cg, tc, tf, th, tp, aw, ak, ao, cs, ex, mx, va, ff, fv, pr, cn, bm, ds, wx, wy, wz, hd, my, vs, rfl, rfl, _⟩ := I
  have e15 : (15 : Int32).toInt = 15 := by decide
  have e16 : (16 : Int32).toInt = 16 := by decide
  have h16 : 16 ≤ v1 ↔ 15 < v1 := by
    rw [Int32.le_iff_toInt_le, Int32.lt_iff_toInt_lt, e15, e16]
    omega
  have hin : vp_in (((pc - 1) - v1) &&& 15) 16 := pk_andIn _ 4 (by decide) (by decide)
  by_cases g1 : v1 = -1
  · exact br_t g1 (br_t g1 ⟨rfl, up⟩)
  · by_cases g2 : v1 < 0
    · exact br_f g1 (br_t g2 (br_f g1 (br_t g2 ⟨rfl, up⟩)))
    · by_cases g3 : 16 ≤ v1
      · exact br_f g1 (br_f g2 (br_t g3 (br_f g1 (br_f g2 (br_t (h16.mp g3) ⟨rfl, up⟩)))))
      · have g3' : ¬ 15 < v1 := fun h => g3 (h16.mpr h)
        by_cases g4 : v1 < pc
        · exact br_f g1 (br_f g2 (br_f g3 (br_t g4 ⟨hin, br_f g1 (br_f g2 (br_f g3' (br_t g4 ⟨hin, rfl, up⟩)))⟩)))
        · exact br_f g1 (br_f g2 (br_f g3 (br_f g4 (br_f g1 (br_f g2 (br_f g3' (br_f g4 ⟨rfl, up⟩)))))))
end
