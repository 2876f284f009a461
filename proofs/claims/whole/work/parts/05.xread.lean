section
variable {fc md rl bl pc ht : Int32} {nb kd fl sa po ng tt ac ha bd bp bf ck cg tc tf th tp aw ak ao cs ex mx va ff fv pr cn bm ds wx wy wz hd my vs : Nat → Int32} {R : Nat}
/-! ===== the component's readers: candidate x is choice (fr_sg x) ===== -/
theorem fx_given {post : Int32 → Prop} {x j : Nat} (hcs : fr_CS cs) (hp : ∀ r, r < 4 → fr_Lt (po r) 4) (hb : ∀ f, f < 6 → nb f = nI (fr_n (nb f))) (hx : x < 864) (hj : j < 3)
    (h : post (nI (fr_gv nb po (fr_sg x) j))) : wpX_givenFact post (fc, md, rl, bl, pc, nb, kd, fl, sa, po, ng, tt, ac, ha, bd, bp, bf, ck, cg, tc, tf, th, tp, aw, ak, ao, cs, ex, mx, va, ff, fv, pr) (nI x) (nI j) := by
  have e : nI x / 216 = nI (x / 216) := fr_d216 (by omega)
  have hp4 := hp (x / 216) (by omega)
  have h4 := hp4.1
  have e2 : po (nI x / 216).toNatClampNeg = nI (fr_n (po (x / 216))) := by
    rw [e, nI_clamp (by omega)]; exact hp4.2
  have e3 : (nI x - nI x / 216 * 216) * 3 + nI j = nI (3 * (x % 216) + j) := by
    rw [fr_r216 (by omega), fr_m3, nI_add]
  have hdg := fr_dg_lt (fr_sg x) j
  have e4 : cs ((nI x - nI x / 216 * 216) * 3 + nI j).toNatClampNeg = nI (fr_dg (fr_sg x) j) := by
    rw [e3, nI_clamp (by omega), hcs _ _ (by omega) hj, fr_sg_mdg]
  unfold fr_gv at h
  rw [fr_sg_r] at h
  refine ⟨by decide, by rw [e]; exact vp_in_nI (by omega) (by omega), ?_⟩
  refine pk_lt j (fr_n (po (x / 216))) (fun hl => ⟨by decide, ?_, ?_, ?_⟩) (fun hl => ?_) rfl e2 (by omega) (by omega)
  · rw [e3]; exact vp_in_nI (by omega) (by omega)
  · rw [e4]; exact vp_in_nI hdg (by omega)
  · rw [e4, nI_clamp (by omega), hb _ hdg]
    rw [if_neg (by omega)] at h
    exact h
  · rw [if_pos hl] at h
    exact h
theorem fx_rk49 {post : Int32 → Prop} {c hi lo j : Nat} (hc : c < 2 ^ 31) (hh : hi < 2 ^ 31) (hl : lo < 2 ^ 31) (hj : j < 3)
    (h : post (nI (if j = 0 then (if hi < c then c else hi) else if j = 1 then (if hi < c then hi else if c < lo then lo else c) else (if c < lo then c else lo)))) :
    wX_rankedFact_49 post (nI j) (nI c) (nI hi) (nI lo) fc md rl bl pc nb kd fl sa po ng tt ac ha bd bp bf ck cg tc tf th tp aw ak ao cs ex mx va ff fv pr := by
  match j, hj, h with
  | 0, _, h =>
    refine br_t nI_0 (pk_le c hi (fun l => ?_) (fun l => ?_) rfl rfl hc hh)
    · rw [if_pos rfl, if_neg (by omega)] at h
      exact h
    · rw [if_pos rfl, if_pos (by omega)] at h
      exact h
  | 1, _, h =>
    rw [if_neg (by decide), if_pos rfl] at h
    refine br_f (by decide) (br_f (by decide) (pk_le c hi (fun l => pk_le lo c (fun l2 => ?_) (fun l2 => ?_) rfl rfl hl hc) (fun l => ?_) rfl rfl hc hh))
    · rw [if_neg (by omega), if_neg (by omega)] at h
      exact h
    · rw [if_neg (by omega), if_pos (by omega)] at h
      exact h
    · rw [if_pos (by omega)] at h
      exact h
  | 2, _, h =>
    rw [if_neg (by decide), if_neg (by decide)] at h
    refine br_f (by decide) (br_t rfl (pk_le lo c (fun l => ?_) (fun l => ?_) rfl rfl hl hc))
    · rw [if_neg (by omega)] at h
      exact h
    · rw [if_pos (by omega)] at h
      exact h
theorem fx_ranked {post : Int32 → Prop} {x j : Nat} (hcs : fr_CS cs) (hp : ∀ r, r < 4 → fr_Lt (po r) 4) (hb : ∀ f, f < 6 → nb f = nI (fr_n (nb f))) (hn : ∀ f, f < 6 → fr_n (nb f) < 2 ^ 31) (hx : x < 864) (hj : j < 3)
    (h : post (nI (fr_gr nb po (fr_sg x) j))) : wpX_rankedFact post (fc, md, rl, bl, pc, nb, kd, fl, sa, po, ng, tt, ac, ha, bd, bp, bf, ck, cg, tc, tf, th, tp, aw, ak, ao, cs, ex, mx, va, ff, fv, pr) (nI x) (nI j) := by
  have a := fr_gv_lt (nb := nb) (po := po) (y := fr_sg x) (j := 0) hn (by decide)
  have b := fr_gv_lt (nb := nb) (po := po) (y := fr_sg x) (j := 1) hn (by decide)
  have c := fr_gv_lt (nb := nb) (po := po) (y := fr_sg x) (j := 2) hn (by decide)
  unfold fr_gr fr_rk at h
  unfold wpX_rankedFact
  refine fx_given (j := 0) hcs hp hb hx (by omega) ?_
  refine fx_given (j := 1) hcs hp hb hx (by omega) ?_
  refine fx_given (j := 2) hcs hp hb hx (by omega) ?_
  refine pk_le (fr_gv nb po (fr_sg x) 0) (fr_gv nb po (fr_sg x) 1) (fun l => br_t (nI_le l b) ?_) (fun l => br_f (nI_ge l a) ?_) rfl rfl a b
  · refine fx_rk49 c b a hj ?_
    have hn : ¬ fr_gv nb po (fr_sg x) 1 < fr_gv nb po (fr_sg x) 0 := by omega
    simp only [if_neg hn] at h
    exact h
  · refine fx_rk49 c a b hj ?_
    simp only [if_pos l] at h
    exact h
theorem fx_p163 {post : Int32 → Prop} {a b j k : Nat} (hcs : fr_CS cs) (hp : ∀ r, r < 4 → fr_Lt (po r) 4) (hb : ∀ f, f < 6 → nb f = nI (fr_n (nb f))) (hn : ∀ f, f < 6 → fr_n (nb f) < 2 ^ 31) (hqa : a < 864) (hb8 : b < 864) (hj : j < 3)
    (h : ((fr_gv nb po (fr_sg a) j : Int) = (fr_gv nb po (fr_sg b) j : Int) → wX_precedes_163 post (nI a) (nI b) fc md rl bl pc nb kd fl sa po ng tt ac ha bd bp bf ck cg tc tf th tp aw ak ao cs ex mx va ff fv pr k (nI (j + 1))) ∧ ((fr_gv nb po (fr_sg a) j : Int) ≠ (fr_gv nb po (fr_sg b) j : Int) → post (fr_b ((fr_gv nb po (fr_sg b) j : Int) < (fr_gv nb po (fr_sg a) j : Int))))) :
    wX_precedes_163 post (nI a) (nI b) fc md rl bl pc nb kd fl sa po ng tt ac ha bd bp bf ck cg tc tf th tp aw ak ao cs ex mx va ff fv pr (k + 1) (nI j) := by
  refine br_f (nI_ge (b := 3) hj (by decide)) (fx_given hcs hp hb hqa hj (fx_given hcs hp hb hb8 hj ?_))
  exact fr_cmp2 (fr_gv_lt hn (by decide)) (fr_gv_lt hn (by decide)) ⟨fun e => nm_r (nI_1 j) (h.1 e), h.2⟩
theorem fx_p54 {post : Int32 → Prop} {a b j k : Nat} {x3 x4 : Int32} (hcs : fr_CS cs) (hp : ∀ r, r < 4 → fr_Lt (po r) 4) (hb : ∀ f, f < 6 → nb f = nI (fr_n (nb f))) (hn : ∀ f, f < 6 → fr_n (nb f) < 2 ^ 31) (hqa : a < 864) (hb8 : b < 864) (hj : j < 3)
    (h : ((fr_gr nb po (fr_sg a) j : Int) = (fr_gr nb po (fr_sg b) j : Int) → wX_precedes_54 post (nI a) (nI b) x3 x4 fc md rl bl pc nb kd fl sa po ng tt ac ha bd bp bf ck cg tc tf th tp aw ak ao cs ex mx va ff fv pr k (nI (j + 1))) ∧ ((fr_gr nb po (fr_sg a) j : Int) ≠ (fr_gr nb po (fr_sg b) j : Int) → post (fr_b ((fr_gr nb po (fr_sg b) j : Int) < (fr_gr nb po (fr_sg a) j : Int))))) :
    wX_precedes_54 post (nI a) (nI b) x3 x4 fc md rl bl pc nb kd fl sa po ng tt ac ha bd bp bf ck cg tc tf th tp aw ak ao cs ex mx va ff fv pr (k + 1) (nI j) := by
  refine br_f (nI_ge (b := 3) hj (by decide)) (fx_ranked hcs hp hb hn hqa hj (fx_ranked hcs hp hb hn hb8 hj ?_))
  exact fr_cmp2 (fr_gr_lt hn (by decide)) (fr_gr_lt hn (by decide)) ⟨fun e => nm_r (nI_1 j) (h.1 e), h.2⟩
theorem fx_precedes {post : Int32 → Prop} {a b : Nat} (hcs : fr_CS cs) (h2 : fr_R2 R po ng cn ac cg) (h3 : fr_R3 po ng tc tt) (hb : ∀ f, f < 6 → nb f = nI (fr_n (nb f))) (hn : ∀ f, f < 6 → fr_n (nb f) < 2 ^ 31) (hqa : a < 864) (hb8 : b < 864)
    (h : post (fr_b (fr_B nb sa po ng tc (fr_sg a) (fr_sg b)))) : wpX_precedes post (fc, md, rl, bl, pc, nb, kd, fl, sa, po, ng, tt, ac, ha, bd, bp, bf, ck, cg, tc, tf, th, tp, aw, ak, ao, cs, ex, mx, va, ff, fv, pr) (nI a) (nI b) := by
  have hp : ∀ r, r < 4 → fr_Lt (po r) 4 := fun r hr => (h2 r hr).1
  have ra : a / 216 < 4 := by omega
  have rb : b / 216 < 4 := by omega
  have qa := h2 _ ra
  have qb := h2 _ rb
  have na : fr_n (po (a / 216)) + fr_n (ng (a / 216)) ≤ 5 := by have := qa.1.1; have := qa.2.1.1; omega
  have nb' : fr_n (po (b / 216)) + fr_n (ng (b / 216)) ≤ 5 := by have := qb.1.1; have := qb.2.1.1; omega
  have ta : fr_tt tc (a / 216) (fr_n (po (a / 216)) + fr_n (ng (a / 216))) ≤ 20 := by
    have := fr_tt_le (tc := tc) (r := a / 216) (fr_n (po (a / 216)) + fr_n (ng (a / 216))) (fun i hi => by have := ((h3 _ ra).1 i (by omega)).1.1; omega)
    omega
  have tb : fr_tt tc (b / 216) (fr_n (po (b / 216)) + fr_n (ng (b / 216))) ≤ 20 := by
    have := fr_tt_le (tc := tc) (r := b / 216) (fr_n (po (b / 216)) + fr_n (ng (b / 216))) (fun i hi => by have := ((h3 _ rb).1 i (by omega)).1.1; omega)
    omega
  unfold fr_B fr_K at h
  rw [fr_sg_r a, fr_sg_r b] at h
  have s0 := fr_lx_st h
  refine ⟨by decide, nm_r (fr_d216 (by omega)) ⟨by decide, nm_r (fr_d216 (by omega)) ⟨vp_in_nI ra (by omega), vp_in_nI rb (by omega), ?_⟩⟩⟩
  rw [nI_clamp (by omega), nI_clamp (by omega)]
  refine br_c (fun e => ?_) (fun e => ⟨vp_in_nI ra (by omega), vp_in_nI rb (by omega), ?_⟩)
  · have s1 := fr_lx_st (s0.1 (by rw [e]))
    refine ⟨4, fx_p54 (j := 0) hcs hp hb hn hqa hb8 (by omega) ⟨fun e1 => ?_, s1.2⟩⟩
    have s2 := fr_lx_st (s1.1 e1)
    refine fx_p54 (j := 1) hcs hp hb hn hqa hb8 (by omega) ⟨fun e2 => ?_, s2.2⟩
    have s3 := fr_lx_st (s2.1 e2)
    refine fx_p54 (j := 2) hcs hp hb hn hqa hb8 (by omega) ⟨fun e3 => ?_, s3.2⟩
    have s4 := fr_lx_st (s3.1 e3)
    refine br_t (nI_le (a := 3) (b := 3) (by omega) (by decide)) ⟨vp_in_nI ra (by omega), vp_in_nI rb (by omega), ?_⟩
    rw [nI_clamp (by omega), nI_clamp (by omega), (h3 _ ra).2, (h3 _ rb).2]
    refine pk_eq _ _ (fun e4 => ?_) (fun e4 => ⟨vp_in_nI ra (by omega), vp_in_nI rb (by omega), fr_cmp (by omega) (by omega) (s4.2 (by omega))⟩) rfl rfl (by omega) (by omega)
    have s5 := fr_lx_st (s4.1 (by omega))
    refine pk_eq (a / 216) (b / 216) (fun e5 => ?_) (fun e5 => ?_) rfl rfl (by omega) (by omega)
    · have s6 := fr_lx_st (s5.1 (by omega))
      refine ⟨4, fx_p163 (j := 0) hcs hp hb hn hqa hb8 (by omega) ⟨fun e6 => ?_, s6.2⟩⟩
      have s7 := fr_lx_st (s6.1 e6)
      refine fx_p163 (j := 1) hcs hp hb hn hqa hb8 (by omega) ⟨fun e7 => ?_, s7.2⟩
      have s8 := fr_lx_st (s7.1 e7)
      refine fx_p163 (j := 2) hcs hp hb hn hqa hb8 (by omega) ⟨fun e8 => ?_, s8.2⟩
      exact br_t (nI_le (a := 3) (b := 3) (by omega) (by decide)) (fr_lx_nil (s8.1 e8))
    · have s6 := s5.2 (by omega)
      refine pk_le (b / 216) (a / 216) (fun l => ?_) (fun l => ?_) rfl rfl (by omega) (by omega)
      · rw [fr_bf (by omega)] at s6; exact s6
      · rw [fr_bt (by omega)] at s6; exact s6
  · have h' := s0.2 (fun k => e (Int32.toInt_inj.mp k))
    refine br_c (fun l => ?_) (fun l => ?_)
    · rw [fr_bf (by rw [Int32.le_iff_toInt_le] at l; omega)] at h'; exact h'
    · rw [fr_bt (by rw [Int32.le_iff_toInt_le] at l; omega)] at h'; exact h'
theorem fx_waiting {post : Int32 → Prop} {x : Nat} (hx : x < 864) (h : post (fr_b (ex x ≠ 0 ∧ mx x = 0))) : wpX_isWaiting post (fc, md, rl, bl, pc, nb, kd, fl, sa, po, ng, tt, ac, ha, bd, bp, bf, ck, cg, tc, tf, th, tp, aw, ak, ao, cs, ex, mx, va, ff, fv, pr) (nI x) := by
  have hin : vp_in (nI x) 864 := vp_in_nI hx (by decide)
  have hcl : (nI x).toNatClampNeg = x := nI_clamp (by omega)
  refine ⟨hin, ?_⟩
  rw [hcl]
  by_cases he : ex x = 0
  · rw [fr_bf (fun k => k.1 he)] at h
    exact br_t he h
  · refine br_f he ⟨hin, ?_⟩
    by_cases hm : mx x = 0
    · rw [fr_bt ⟨he, hm⟩] at h
      exact br_t hm h
    · rw [fr_bf (fun k => hm k.2)] at h
      exact br_f hm h
theorem fx_first36 {P : Nat → Prop} {x1 best : Int32} {c : Nat} (hcs : fr_CS cs) (h2 : fr_R2 R po ng cn ac cg) (h3 : fr_R3 po ng tc tt) (hb : ∀ f, f < 6 → nb f = nI (fr_n (nb f))) (hn : ∀ f, f < 6 → fr_n (nb f) < 2 ^ 31) (hc : c < 864)
    (hto : ∀ a b, a < c + 1 → b < c + 1 → P a → P b → a ≠ b → fr_B nb sa po ng tc (fr_sg a) (fr_sg b) ∨ fr_B nb sa po ng tc (fr_sg b) (fr_sg a))
    (hI : fr_Nx (fun a b => fr_B nb sa po ng tc (fr_sg a) (fr_sg b)) P c best) (hP : P c) :
    ∃ best', fr_Nx (fun a b => fr_B nb sa po ng tc (fr_sg a) (fr_sg b)) P (c + 1) best' ∧ ∀ (post : Int32 → Prop) (J : Int32 → Int32 → Prop), J best' (nI (c + 1)) → wX_firstAfter_36 post J x1 best (nI c) fc md rl bl pc nb kd fl sa po ng tt ac ha bd bp bf ck cg tc tf th tp aw ak ao cs ex mx va ff fv pr := by
  rcases fr_Nx_in hI with e | ⟨d, hd8, e, _⟩
  · subst e
    exact ⟨_, fr_Nx_new hI (by omega) hP, fun post J hJ => br_t rfl (nm_r (nI_1 c) hJ)⟩
  · subst e
    by_cases hB : fr_B nb sa po ng tc (fr_sg c) (fr_sg d)
    · refine ⟨_, fr_Nx_less (fun a b d => fr_B_tr _ _ _) (by omega) (by omega) hI hP hB, fun post J hJ => br_f (fr_m1 (by omega)) (fx_precedes hcs h2 h3 hb hn hc (by omega) ?_)⟩
      rw [fr_bt hB]
      exact br_f (by decide) (nm_r (nI_1 c) hJ)
    · refine ⟨_, fr_Nx_keep hto (by omega) (by omega) hI hP hB, fun post J hJ => br_f (fr_m1 (by omega)) (fx_precedes hcs h2 h3 hb hn hc (by omega) ?_)⟩
      rw [fr_bf hB]
      exact br_t rfl (nm_r (nI_1 c) hJ)
theorem fx_first {prev : Int32} (hcs : fr_CS cs) (h2 : fr_R2 R po ng cn ac cg) (h3 : fr_R3 po ng tc tt) (hb : ∀ f, f < 6 → nb f = nI (fr_n (nb f))) (hn : ∀ f, f < 6 → fr_n (nb f) < 2 ^ 31)
    (hdis : ∀ f g, f < 6 → g < 6 → nb f ≠ 0 → nb f = nb g → f = g) (hG : ∀ x, x < 864 → ex x ≠ 0 → fr_G nb po (fr_sg x)) (hpv : prev = -1 ∨ ∃ p, p < 864 ∧ prev = nI p) :
    ∃ q, fr_Nx (fun a b => fr_B nb sa po ng tc (fr_sg a) (fr_sg b)) (fr_P (fun a b => fr_B nb sa po ng tc (fr_sg a) (fr_sg b)) ex mx prev) 864 q ∧ ∀ post : Int32 → Prop, post q → wpX_firstAfter post (fc, md, rl, bl, pc, nb, kd, fl, sa, po, ng, tt, ac, ha, bd, bp, bf, ck, cg, tc, tf, th, tp, aw, ak, ao, cs, ex, mx, va, ff, fv, pr) prev := by
  have hto : ∀ a b, a < 864 → b < 864 → fr_P (fun a b => fr_B nb sa po ng tc (fr_sg a) (fr_sg b)) ex mx prev a → fr_P (fun a b => fr_B nb sa po ng tc (fr_sg a) (fr_sg b)) ex mx prev b → a ≠ b → fr_B nb sa po ng tc (fr_sg a) (fr_sg b) ∨ fr_B nb sa po ng tc (fr_sg b) (fr_sg a) :=
    fun a b la lb pa pb hne => fr_B_to hb hdis (hG a la pa.1) (hG b lb pb.1) (fun e => hne (by rw [← fr_sg_sg a, e, fr_sg_sg]))
  have key : ∀ c best, c < 864 → fr_Nx (fun a b => fr_B nb sa po ng tc (fr_sg a) (fr_sg b)) (fr_P (fun a b => fr_B nb sa po ng tc (fr_sg a) (fr_sg b)) ex mx prev) c best → ∃ best', fr_Nx (fun a b => fr_B nb sa po ng tc (fr_sg a) (fr_sg b)) (fr_P (fun a b => fr_B nb sa po ng tc (fr_sg a) (fr_sg b)) ex mx prev) (c + 1) best' ∧ ∀ (post : Int32 → Prop) n, wX_firstAfter_4 post prev fc md rl bl pc nb kd fl sa po ng tt ac ha bd bp bf ck cg tc tf th tp aw ak ao cs ex mx va ff fv pr n best' (nI (c + 1)) → wX_firstAfter_4 post prev fc md rl bl pc nb kd fl sa po ng tt ac ha bd bp bf ck cg tc tf th tp aw ak ao cs ex mx va ff fv pr (n + 1) best (nI c) := by
    intro c best hc hI
    have hge : ¬ (864 : Int32) ≤ nI c := nI_ge (b := 864) hc (by decide)
    by_cases hw : ex c ≠ 0 ∧ mx c = 0
    · by_cases hpb : ∀ p, p < 864 → prev = nI p → fr_B nb sa po ng tc (fr_sg p) (fr_sg c)
      · have hP : fr_P (fun a b => fr_B nb sa po ng tc (fr_sg a) (fr_sg b)) ex mx prev c := ⟨hw.1, hw.2, hpb⟩
        obtain ⟨best', hN, hW⟩ := fx_first36 (fc := fc) (md := md) (rl := rl) (bl := bl) (pc := pc) (nb := nb) (kd := kd) (fl := fl) (sa := sa) (po := po) (ng := ng) (tt := tt) (ac := ac) (ha := ha) (bd := bd) (bp := bp) (bf := bf) (ck := ck) (cg := cg) (tc := tc) (tf := tf) (th := th) (tp := tp) (aw := aw) (ak := ak) (ao := ao) (cs := cs) (ex := ex) (mx := mx) (va := va) (ff := ff) (fv := fv) (pr := pr) (x1 := prev) hcs h2 h3 hb hn hc (fun a b la lb => hto a b (by omega) (by omega)) hI hP
        refine ⟨best', hN, fun post n hk => br_f hge (fx_waiting hc ?_)⟩
        rw [fr_bt hw]
        refine br_f (by decide) ?_
        rcases hpv with e | ⟨p, hp, e⟩
        · exact br_t e (hW post _ hk)
        · refine br_f (by rw [e]; exact fr_m1 (by omega)) ?_
          rw [e]
          refine fx_precedes hcs h2 h3 hb hn hp hc ?_
          rw [fr_bt (hpb p hp e)]
          refine br_f (by decide) ?_
          rw [← e]
          exact hW post _ hk
      · refine ⟨best, fr_Nx_no hI (fun h => hpb h.2.2), fun post n hk => br_f hge (fx_waiting hc ?_)⟩
        rw [fr_bt hw]
        refine br_f (by decide) ?_
        rcases hpv with e | ⟨p, hp, e⟩
        · exact absurd (fun p hp e2 => absurd (e2.symm.trans e) (fr_m1 (by omega))) hpb
        · refine br_f (by rw [e]; exact fr_m1 (by omega)) ?_
          have hnb : ¬ fr_B nb sa po ng tc (fr_sg p) (fr_sg c) := fun hB => hpb (fun p' hp' e2 => by
            have : p = p' := (nI_eq (by omega) (by omega)).mp (e.symm.trans e2)
            rw [← this]; exact hB)
          rw [e]
          refine fx_precedes hcs h2 h3 hb hn hp hc ?_
          rw [fr_bf hnb]
          refine br_t rfl (nm_r (nI_1 c) ?_)
          rw [← e]
          exact hk
    · refine ⟨best, fr_Nx_no hI (fun h => hw ⟨h.1, h.2.1⟩), fun post n hk => br_f hge (fx_waiting hc ?_)⟩
      rw [fr_bf hw]
      exact br_t rfl (nm_r (nI_1 c) hk)
  obtain ⟨q, hq, hw⟩ := fr_exl (σ := Int32) (Q := Int32 → Prop) (fun post n c best => wX_firstAfter_4 post prev fc md rl bl pc nb kd fl sa po ng tt ac ha bd bp bf ck cg tc tf th tp aw ak ao cs ex mx va ff fv pr n best (nI c)) (fun c best => fr_Nx (fun a b => fr_B nb sa po ng tc (fr_sg a) (fr_sg b)) (fr_P (fun a b => fr_B nb sa po ng tc (fr_sg a) (fr_sg b)) ex mx prev) c best) 864 key (-1) (fr_Nx_0 _ _)
  refine ⟨q, hq, fun post hp => ⟨1 + 864, hw post 1 ?_⟩⟩
  exact br_t (nI_le (a := 864) (b := 864) (by omega) (by decide)) hp
end
