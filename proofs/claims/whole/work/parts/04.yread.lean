/-! ===== numbers as they are printed ===== -/
theorem fr_d216 {a : Nat} (h : a < 2 ^ 31) : nI a / 216 = nI (a / 216) := pk_div (d := 216) h (by decide) (by decide)
theorem fr_r216 {a : Nat} (h : a < 2 ^ 31) : nI a - nI a / 216 * 216 = nI (a % 216) := pk_rem (d := 216) h (by decide) (by decide)
theorem fr_d36 {a : Nat} (h : a < 2 ^ 31) : nI a / 36 = nI (a / 36) := pk_div (d := 36) h (by decide) (by decide)
theorem fr_d6 {a : Nat} (h : a < 2 ^ 31) : nI a / 6 = nI (a / 6) := pk_div (d := 6) h (by decide) (by decide)
theorem fr_r6 {a : Nat} (h : a < 2 ^ 31) : nI a - nI a / 6 * 6 = nI (a % 6) := pk_rem (d := 6) h (by decide) (by decide)
theorem fr_5m (a : Nat) : (5 : Int32) * nI a = nI (5 * a) := pk_mul 5 a
theorem fr_4m (a : Nat) : (4 : Int32) * nI a = nI (4 * a) := pk_mul 4 a
theorem fr_3m (a : Nat) : (3 : Int32) * nI a = nI (3 * a) := pk_mul 3 a
theorem fr_m5 (a : Nat) : nI a * 5 = nI (5 * a) := by rw [Nat.mul_comm]; exact pk_mul a 5
theorem fr_m4 (a : Nat) : nI a * 4 = nI (4 * a) := by rw [Nat.mul_comm]; exact pk_mul a 4
theorem fr_m3 (a : Nat) : nI a * 3 = nI (3 * a) := by rw [Nat.mul_comm]; exact pk_mul a 3
theorem fr_Lt_add {x : Int32} {a b : Nat} (h : fr_Lt x b) : nI a + x = nI (a + fr_n x) := (congrArg (fun z => nI a + z) h.2).trans (nI_add _ _)
theorem fr_cmp {P : Int32 → Prop} {a b : Nat} (ha : a < 2 ^ 31) (hb : b < 2 ^ 31) (h : P (fr_b ((b : Int) < (a : Int)))) : (nI a ≤ nI b → P 0) ∧ (¬ nI a ≤ nI b → P 1) :=
  pk_le a b (fun hl => by rw [fr_bf (by omega)] at h; exact h) (fun hl => by rw [fr_bt (by omega)] at h; exact h) rfl rfl ha hb
theorem fr_cmp2 {P : Int32 → Prop} {A : Prop} {a b : Nat} (ha : a < 2 ^ 31) (hb : b < 2 ^ 31) (h : ((a : Int) = (b : Int) → A) ∧ ((a : Int) ≠ (b : Int) → P (fr_b ((b : Int) < (a : Int))))) :
    (nI a = nI b → A) ∧ (¬ nI a = nI b → (nI a ≤ nI b → P 0) ∧ (¬ nI a ≤ nI b → P 1)) :=
  pk_eq a b (fun e => h.1 (by omega)) (fun e => fr_cmp ha hb (h.2 (by omega))) rfl rfl ha hb
theorem fr_cmp3 {P : Int32 → Prop} {A : Prop} {a b : Int32} (h : (a.toInt = b.toInt → A) ∧ (a.toInt ≠ b.toInt → P (fr_b (b.toInt < a.toInt)))) :
    (a = b → A) ∧ (¬ a = b → (a ≤ b → P 0) ∧ (¬ a ≤ b → P 1)) := by
  refine br_c (fun e => h.1 (by rw [e])) (fun e => ?_)
  have h' := h.2 (fun k => e (Int32.toInt_inj.mp k))
  refine br_c (fun l => ?_) (fun l => ?_)
  · rw [fr_bf (by rw [Int32.le_iff_toInt_le] at l; omega)] at h'; exact h'
  · rw [fr_bt (by rw [Int32.le_iff_toInt_le] at l; omega)] at h'; exact h'
section
variable {fc md rl bl pc ht : Int32} {nb kd fl sa po ng tt ac ha bd bp bf ck cg tc tf th tp aw ak ao cs ex mx va ff fv pr cn bm ds wx wy wz hd my vs : Nat → Int32} {R : Nat}
/-! ===== the reference's readers ===== -/
theorem fy_place {post : Int32 → Prop} {y j : Nat} (hy : y < 864) (hj : j < 3) (h : post (nI (fr_dg y j))) : wpY_place post (nI y) (nI j) := by
  unfold wpY_place
  match j, hj, h with
  | 0, _, h =>
    refine br_t nI_0 ⟨by decide, by decide, ?_⟩
    rw [fr_d36 (by omega), fr_r6 (by omega)]
    exact h
  | 1, _, h =>
    refine br_f (by decide) (br_t rfl ⟨by decide, by decide, ?_⟩)
    rw [fr_d6 (by omega), fr_r6 (by omega)]
    exact h
  | 2, _, h =>
    refine br_f (by decide) (br_f (by decide) ⟨by decide, ?_⟩)
    rw [fr_r6 (by omega)]
    exact h
theorem fy_value {post : Int32 → Prop} {o : Int32} (hu : o &&& 1 ≠ 0 → ∃ x, x < 4 ∧ o >>> ((1 : Int32) &&& 31) = nI x) (h : post (fr_ov vs o)) : wpY_value post (rl, bl, md, pc, ht, sa, cn, po, ac, bm, ck, cg, tc, tf, th, tp, ds, wx, wy, wz, nb, kd, fl, hd, my, vs, pr) o := by
  by_cases h0 : o &&& 1 = 0
  · rw [fr_ov_e h0] at h
    exact br_t h0 h
  · obtain ⟨x, hx, e⟩ := hu h0
    rw [fr_ov_o h0 hx e] at h
    refine br_f h0 ⟨?_, ?_⟩
    · rw [e]; exact vp_in_nI hx (by omega)
    · rw [e, nI_clamp (by omega)]; exact h
theorem fy_number {post : Int32 → Prop} {y j : Nat} (hp : ∀ r, r < 4 → fr_Lt (po r) 4) (hb : ∀ f, f < 6 → nb f = nI (fr_n (nb f))) (hy : y < 864) (hj : j < 3)
    (h : post (nI (fr_gv nb po y j))) : wpY_number post (rl, bl, md, pc, ht, sa, cn, po, ac, bm, ck, cg, tc, tf, th, tp, ds, wx, wy, wz, nb, kd, fl, hd, my, vs, pr) (nI y) (nI j) := by
  have e : nI y / 216 = nI (y / 216) := fr_d216 (by omega)
  have hp4 := hp (y / 216) (by omega)
  have h4 := hp4.1
  have e2 : po (nI y / 216).toNatClampNeg = nI (fr_n (po (y / 216))) := by
    rw [e, nI_clamp (by omega)]; exact hp4.2
  refine ⟨by decide, by rw [e]; exact vp_in_nI (by omega) (by omega), ?_⟩
  refine pk_lt j (fr_n (po (y / 216))) (fun hl => ?_) (fun hl => ?_) rfl e2 (by omega) (by omega)
  · refine fy_place hy hj ⟨vp_in_nI (fr_dg_lt y j) (by omega), ?_⟩
    have hd := fr_dg_lt y j
    rw [nI_clamp (by omega), hb _ hd]
    unfold fr_gv at h
    rw [if_neg (by omega)] at h
    exact h
  · unfold fr_gv at h
    rw [if_pos hl] at h
    exact h
theorem fr_gv_lt {m y j : Nat} (hb : ∀ f, f < 6 → fr_n (nb f) < m) (hm : 0 < m) : fr_gv nb po y j < m := by
  unfold fr_gv
  split
  · exact hm
  · exact hb _ (fr_dg_lt y j)
theorem fr_rk_lt {a b c j m : Nat} (ha : a < m) (hb : b < m) (hc : c < m) : fr_rk a b c j < m := by
  unfold fr_rk
  (repeat' split) <;> assumption
theorem fr_gr_lt {m y j : Nat} (hb : ∀ f, f < 6 → fr_n (nb f) < m) (hm : 0 < m) : fr_gr nb po y j < m :=
  fr_rk_lt (fr_gv_lt hb hm) (fr_gv_lt hb hm) (fr_gv_lt hb hm)
theorem fy_gr49 {post : Int32 → Prop} {c hi lo j : Nat} (hc : c < 2 ^ 31) (hh : hi < 2 ^ 31) (hl : lo < 2 ^ 31) (hj : j < 3)
    (h : post (nI (if j = 0 then (if hi < c then c else hi) else if j = 1 then (if hi < c then hi else if c < lo then lo else c) else (if c < lo then c else lo)))) :
    wY_greatest_49 post (nI j) (nI c) (nI hi) (nI lo) rl bl md pc ht sa cn po ac bm ck cg tc tf th tp ds wx wy wz nb kd fl hd my vs pr := by
  match j, hj, h with
  | 0, _, h =>
    refine br_t nI_0 (pk_le hi c (fun l => ?_) (fun l => ?_) rfl rfl hh hc)
    · rw [if_pos rfl, show (if hi < c then c else hi) = c from by split <;> omega] at h
      exact h
    · rw [if_pos rfl, if_neg (by omega)] at h
      exact h
  | 1, _, h =>
    rw [if_neg (by decide), if_pos rfl] at h
    refine br_f (by decide) (br_f (by decide) (pk_le c hi (fun l => pk_le lo c (fun l2 => ?_) (fun l2 => ?_) rfl rfl hl hc) (fun l => ?_) rfl rfl hc hh))
    · rw [if_neg (by omega), if_neg (by omega)] at h
      exact h
    · rw [if_neg (by omega), if_pos (by omega)] at h
      exact h
    · rw [if_pos (by omega)] at h
      exact h
  | 2, _, h =>
    rw [if_neg (by decide), if_neg (by decide)] at h
    refine br_f (by decide) (br_t rfl (pk_le c lo (fun l => ?_) (fun l => ?_) rfl rfl hc hl))
    · rw [show (if c < lo then c else lo) = c from by split <;> omega] at h
      exact h
    · rw [if_neg (by omega)] at h
      exact h
theorem fy_greatest {post : Int32 → Prop} {y j : Nat} (hp : ∀ r, r < 4 → fr_Lt (po r) 4) (hb : ∀ f, f < 6 → nb f = nI (fr_n (nb f))) (hn : ∀ f, f < 6 → fr_n (nb f) < 2 ^ 31) (hy : y < 864) (hj : j < 3)
    (h : post (nI (fr_gr nb po y j))) : wpY_greatest post (rl, bl, md, pc, ht, sa, cn, po, ac, bm, ck, cg, tc, tf, th, tp, ds, wx, wy, wz, nb, kd, fl, hd, my, vs, pr) (nI y) (nI j) := by
  have a := fr_gv_lt (nb := nb) (po := po) (y := y) (j := 0) hn (by decide)
  have b := fr_gv_lt (nb := nb) (po := po) (y := y) (j := 1) hn (by decide)
  have c := fr_gv_lt (nb := nb) (po := po) (y := y) (j := 2) hn (by decide)
  unfold fr_gr fr_rk at h
  unfold wpY_greatest
  refine fy_number (j := 0) hp hb hy (by omega) ?_
  refine fy_number (j := 1) hp hb hy (by omega) ?_
  refine fy_number (j := 2) hp hb hy (by omega) ?_
  refine pk_le (fr_gv nb po y 0) (fr_gv nb po y 1) (fun l => br_t (nI_le l b) ?_) (fun l => br_f (nI_ge l a) ?_) rfl rfl a b
  · refine fy_gr49 c b a hj ?_
    have hn : ¬ fr_gv nb po y 1 < fr_gv nb po y 0 := by omega
    simp only [if_neg hn] at h
    exact h
  · refine fy_gr49 c a b hj ?_
    simp only [if_pos l] at h
    exact h
theorem fy_testCount {post : Int32 → Prop} {r n : Nat} (hr : r < 4) (hc : cn r = nI n) (hn : n ≤ 5) (htc : ∀ i, i < 5 → tc (5 * r + i) = nI (fr_n (tc (5 * r + i))))
    (h : post (nI (fr_tt tc r n))) : wpY_testCount post (rl, bl, md, pc, ht, sa, cn, po, ac, bm, ck, cg, tc, tf, th, tp, ds, wx, wy, wz, nb, kd, fl, hd, my, vs, pr) (nI r) := by
  have ec : cn (nI r).toNatClampNeg = nI n := by rw [nI_clamp (by omega)]; exact hc
  refine nm_r (fr_5m r) ⟨n + 1, ?_⟩
  refine fr_upto (fun k i => wY_testCount_6 post (nI r) rl bl md pc ht sa cn po ac bm ck cg tc tf th tp ds wx wy wz nb kd fl hd my vs pr k (nI (fr_tt tc r i)) (nI (5 * r + i))) n ?_ ?_
  · intro k
    refine ⟨vp_in_nI hr (by omega), br_t ?_ h⟩
    rw [ec, fr_5m, nI_add]
    exact Int32.le_refl _
  · intro k i hi hk
    refine ⟨vp_in_nI hr (by omega), br_f ?_ ⟨vp_in_nI (by omega) (by omega), nm_r (e' := nI (fr_tt tc r (i + 1))) ?_ (nm_r (e' := nI (5 * r + (i + 1))) (nI_1 _) hk)⟩⟩
    · rw [ec, fr_5m, nI_add]
      exact nI_ge (by omega) (by omega)
    · rw [nI_clamp (by omega), htc i (by omega), nI_add]
      rfl
/-! the order: the component of a choice by its rule, then the ranked numbers, then the numbers of tests, the rule, the numbers -/
theorem fy_b160 {post : Int32 → Prop} {a b j k : Nat} (hp : ∀ r, r < 4 → fr_Lt (po r) 4) (hb : ∀ f, f < 6 → nb f = nI (fr_n (nb f))) (hn : ∀ f, f < 6 → fr_n (nb f) < 2 ^ 31) (ha : a < 864) (hb8 : b < 864) (hj : j < 3)
    (h : ((fr_gv nb po a j : Int) = (fr_gv nb po b j : Int) → wY_before_160 post (nI a) (nI b) rl bl md pc ht sa cn po ac bm ck cg tc tf th tp ds wx wy wz nb kd fl hd my vs pr k (nI (j + 1))) ∧ ((fr_gv nb po a j : Int) ≠ (fr_gv nb po b j : Int) → post (fr_b ((fr_gv nb po b j : Int) < (fr_gv nb po a j : Int))))) :
    wY_before_160 post (nI a) (nI b) rl bl md pc ht sa cn po ac bm ck cg tc tf th tp ds wx wy wz nb kd fl hd my vs pr (k + 1) (nI j) := by
  refine br_f (nI_ge (b := 3) hj (by decide)) (fy_number hp hb ha hj (fy_number hp hb hb8 hj ?_))
  exact fr_cmp2 (fr_gv_lt hn (by decide)) (fr_gv_lt hn (by decide)) ⟨fun e => nm_r (nI_1 j) (h.1 e), h.2⟩
theorem fy_b54 {post : Int32 → Prop} {a b j k : Nat} {x3 x4 : Int32} (hp : ∀ r, r < 4 → fr_Lt (po r) 4) (hb : ∀ f, f < 6 → nb f = nI (fr_n (nb f))) (hn : ∀ f, f < 6 → fr_n (nb f) < 2 ^ 31) (ha : a < 864) (hb8 : b < 864) (hj : j < 3)
    (h : ((fr_gr nb po a j : Int) = (fr_gr nb po b j : Int) → wY_before_54 post (nI a) (nI b) x3 x4 rl bl md pc ht sa cn po ac bm ck cg tc tf th tp ds wx wy wz nb kd fl hd my vs pr k (nI (j + 1))) ∧ ((fr_gr nb po a j : Int) ≠ (fr_gr nb po b j : Int) → post (fr_b ((fr_gr nb po b j : Int) < (fr_gr nb po a j : Int))))) :
    wY_before_54 post (nI a) (nI b) x3 x4 rl bl md pc ht sa cn po ac bm ck cg tc tf th tp ds wx wy wz nb kd fl hd my vs pr (k + 1) (nI j) := by
  refine br_f (nI_ge (b := 3) hj (by decide)) (fy_greatest hp hb hn ha hj (fy_greatest hp hb hn hb8 hj ?_))
  exact fr_cmp2 (fr_gr_lt hn (by decide)) (fr_gr_lt hn (by decide)) ⟨fun e => nm_r (nI_1 j) (h.1 e), h.2⟩
theorem fy_before {post : Int32 → Prop} {a b : Nat} (h2 : fr_R2 R po ng cn ac cg) (h3 : fr_R3 po ng tc tt) (hb : ∀ f, f < 6 → nb f = nI (fr_n (nb f))) (hn : ∀ f, f < 6 → fr_n (nb f) < 2 ^ 31) (ha : a < 864) (hb8 : b < 864)
    (h : post (fr_b (fr_B nb sa po ng tc a b))) : wpY_before post (rl, bl, md, pc, ht, sa, cn, po, ac, bm, ck, cg, tc, tf, th, tp, ds, wx, wy, wz, nb, kd, fl, hd, my, vs, pr) (nI a) (nI b) := by
  have hp : ∀ r, r < 4 → fr_Lt (po r) 4 := fun r hr => (h2 r hr).1
  have ra : a / 216 < 4 := by omega
  have rb : b / 216 < 4 := by omega
  have qa := h2 _ ra
  have qb := h2 _ rb
  have na : fr_n (po (a / 216)) + fr_n (ng (a / 216)) ≤ 5 := by have := qa.1.1; have := qa.2.1.1; omega
  have nb' : fr_n (po (b / 216)) + fr_n (ng (b / 216)) ≤ 5 := by have := qb.1.1; have := qb.2.1.1; omega
  have ta : fr_tt tc (a / 216) (fr_n (po (a / 216)) + fr_n (ng (a / 216))) ≤ 20 := by
    have := fr_tt_le (tc := tc) (r := a / 216) (fr_n (po (a / 216)) + fr_n (ng (a / 216))) (fun i hi => by have := ((h3 _ ra).1 i (by omega)).1.1; omega)
    omega
  have tb : fr_tt tc (b / 216) (fr_n (po (b / 216)) + fr_n (ng (b / 216))) ≤ 20 := by
    have := fr_tt_le (tc := tc) (r := b / 216) (fr_n (po (b / 216)) + fr_n (ng (b / 216))) (fun i hi => by have := ((h3 _ rb).1 i (by omega)).1.1; omega)
    omega
  unfold fr_B fr_K at h
  have s0 := fr_lx_st h
  refine ⟨by decide, nm_r (fr_d216 (by omega)) ⟨by decide, nm_r (fr_d216 (by omega)) ⟨vp_in_nI ra (by omega), vp_in_nI rb (by omega), ?_⟩⟩⟩
  rw [nI_clamp (by omega), nI_clamp (by omega)]
  refine br_c (fun e => ?_) (fun e => ⟨vp_in_nI ra (by omega), vp_in_nI rb (by omega), ?_⟩)
  · have s1 := fr_lx_st (s0.1 (by rw [e]))
    refine ⟨4, fy_b54 (j := 0) hp hb hn ha hb8 (by omega) ⟨fun e1 => ?_, s1.2⟩⟩
    have s2 := fr_lx_st (s1.1 e1)
    refine fy_b54 (j := 1) hp hb hn ha hb8 (by omega) ⟨fun e2 => ?_, s2.2⟩
    have s3 := fr_lx_st (s2.1 e2)
    refine fy_b54 (j := 2) hp hb hn ha hb8 (by omega) ⟨fun e3 => ?_, s3.2⟩
    have s4 := fr_lx_st (s3.1 e3)
    refine br_t (nI_le (a := 3) (b := 3) (by omega) (by decide)) ?_
    refine fy_testCount ra qa.2.2.1 na (fun i hi => ((h3 _ ra).1 i hi).1.2) ?_
    refine fy_testCount rb qb.2.2.1 nb' (fun i hi => ((h3 _ rb).1 i hi).1.2) ?_
    refine fr_cmp2 (by omega) (by omega) ⟨fun e4 => ?_, s4.2⟩
    have s5 := fr_lx_st (s4.1 e4)
    refine pk_eq (a / 216) (b / 216) (fun e5 => ?_) (fun e5 => ?_) rfl rfl (by omega) (by omega)
    · have s6 := fr_lx_st (s5.1 (by omega))
      refine ⟨4, fy_b160 (j := 0) hp hb hn ha hb8 (by omega) ⟨fun e6 => ?_, s6.2⟩⟩
      have s7 := fr_lx_st (s6.1 e6)
      refine fy_b160 (j := 1) hp hb hn ha hb8 (by omega) ⟨fun e7 => ?_, s7.2⟩
      have s8 := fr_lx_st (s7.1 e7)
      refine fy_b160 (j := 2) hp hb hn ha hb8 (by omega) ⟨fun e8 => ?_, s8.2⟩
      exact br_t (nI_le (a := 3) (b := 3) (by omega) (by decide)) (fr_lx_nil (s8.1 e8))
    · have s6 := s5.2 (by omega)
      refine pk_le (b / 216) (a / 216) (fun l => ?_) (fun l => ?_) rfl rfl (by omega) (by omega)
      · rw [fr_bf (by omega)] at s6; exact s6
      · rw [fr_bt (by omega)] at s6; exact s6
  · have h' := s0.2 (fun k => e (Int32.toInt_inj.mp k))
    refine br_c (fun l => ?_) (fun l => ?_)
    · rw [fr_bf (by rw [Int32.le_iff_toInt_le] at l; omega)] at h'; exact h'
    · rw [fr_bt (by rw [Int32.le_iff_toInt_le] at l; omega)] at h'; exact h'
/-! the first one behind another -/
def fr_P (B : Nat → Nat → Prop) (ex mx : Nat → Int32) (prev : Int32) (c : Nat) : Prop := ex c ≠ 0 ∧ mx c = 0 ∧ ∀ p, p < 864 → prev = nI p → B p c
theorem fy_next45 {P : Nat → Prop} {x1 best : Int32} {c : Nat} (h2 : fr_R2 R po ng cn ac cg) (h3 : fr_R3 po ng tc tt) (hb : ∀ f, f < 6 → nb f = nI (fr_n (nb f))) (hn : ∀ f, f < 6 → fr_n (nb f) < 2 ^ 31) (hc : c < 864)
    (hto : ∀ a b, a < c + 1 → b < c + 1 → P a → P b → a ≠ b → fr_B nb sa po ng tc a b ∨ fr_B nb sa po ng tc b a)
    (hI : fr_Nx (fr_B nb sa po ng tc) P c best) (hP : P c) :
    ∃ best', fr_Nx (fr_B nb sa po ng tc) P (c + 1) best' ∧ ∀ (post : Int32 → Prop) (J : Int32 → Int32 → Prop), J best' (nI (c + 1)) → wY_next_45 post J x1 best (nI c) rl bl md pc ht sa cn po ac bm ck cg tc tf th tp ds wx wy wz nb kd fl hd my vs pr := by
  rcases fr_Nx_in hI with e | ⟨d, hd8, e, _⟩
  · subst e
    exact ⟨_, fr_Nx_new hI (by omega) hP, fun post J hJ => br_t (by decide) (nm_r (nI_1 c) hJ)⟩
  · subst e
    by_cases hB : fr_B nb sa po ng tc c d
    · refine ⟨_, fr_Nx_less fr_B_tr (by omega) (by omega) hI hP hB, fun post J hJ => br_f (nI_pos (by omega)) (fy_before h2 h3 hb hn hc (by omega) ?_)⟩
      rw [fr_bt hB]
      exact br_f (by decide) (nm_r (nI_1 c) hJ)
    · refine ⟨_, fr_Nx_keep hto (by omega) (by omega) hI hP hB, fun post J hJ => br_f (nI_pos (by omega)) (fy_before h2 h3 hb hn hc (by omega) ?_)⟩
      rw [fr_bf hB]
      exact br_t rfl (nm_r (nI_1 c) hJ)
theorem fy_next {prev : Int32} (h2 : fr_R2 R po ng cn ac cg) (h3 : fr_R3 po ng tc tt) (hb : ∀ f, f < 6 → nb f = nI (fr_n (nb f))) (hn : ∀ f, f < 6 → fr_n (nb f) < 2 ^ 31)
    (hdis : ∀ f g, f < 6 → g < 6 → nb f ≠ 0 → nb f = nb g → f = g) (hG : ∀ y, y < 864 → hd y ≠ 0 → fr_G nb po y) (hpv : prev = -1 ∨ ∃ p, p < 864 ∧ prev = nI p) :
    ∃ q, fr_Nx (fr_B nb sa po ng tc) (fr_P (fr_B nb sa po ng tc) hd my prev) 864 q ∧ ∀ post : Int32 → Prop, post q → wpY_next post (rl, bl, md, pc, ht, sa, cn, po, ac, bm, ck, cg, tc, tf, th, tp, ds, wx, wy, wz, nb, kd, fl, hd, my, vs, pr) prev := by
  have hto : ∀ a b, a < 864 → b < 864 → fr_P (fr_B nb sa po ng tc) hd my prev a → fr_P (fr_B nb sa po ng tc) hd my prev b → a ≠ b → fr_B nb sa po ng tc a b ∨ fr_B nb sa po ng tc b a :=
    fun a b la lb pa pb hne => fr_B_to hb hdis (hG a la pa.1) (hG b lb pb.1) hne
  have key : ∀ c best, c < 864 → fr_Nx (fr_B nb sa po ng tc) (fr_P (fr_B nb sa po ng tc) hd my prev) c best → ∃ best', fr_Nx (fr_B nb sa po ng tc) (fr_P (fr_B nb sa po ng tc) hd my prev) (c + 1) best' ∧ ∀ (post : Int32 → Prop) n, wY_next_4 post prev rl bl md pc ht sa cn po ac bm ck cg tc tf th tp ds wx wy wz nb kd fl hd my vs pr n best' (nI (c + 1)) → wY_next_4 post prev rl bl md pc ht sa cn po ac bm ck cg tc tf th tp ds wx wy wz nb kd fl hd my vs pr (n + 1) best (nI c) := by
    intro c best hc hI
    have hge : ¬ (864 : Int32) ≤ nI c := nI_ge (b := 864) hc (by decide)
    have hin : vp_in (nI c) 864 := vp_in_nI hc (by decide)
    have hcl : (nI c).toNatClampNeg = c := nI_clamp (by omega)
    by_cases he : hd c = 0
    · exact ⟨best, fr_Nx_no hI (fun h => h.1 he), fun post n hk => br_f hge ⟨hin, br_t (by rw [hcl]; exact he) (nm_r (nI_1 c) hk)⟩⟩
    · by_cases hm : my c = 0
      · by_cases hpb : ∀ p, p < 864 → prev = nI p → fr_B nb sa po ng tc p c
        · have hP : fr_P (fr_B nb sa po ng tc) hd my prev c := ⟨he, hm, hpb⟩
          obtain ⟨best', hN, hW⟩ := fy_next45 (rl := rl) (bl := bl) (md := md) (pc := pc) (ht := ht) (sa := sa) (cn := cn) (po := po) (ac := ac) (bm := bm) (ck := ck) (cg := cg) (tc := tc) (tf := tf) (th := th) (tp := tp) (ds := ds) (wx := wx) (wy := wy) (wz := wz) (nb := nb) (kd := kd) (fl := fl) (hd := hd) (my := my) (vs := vs) (pr := pr) (x1 := prev) h2 h3 hb hn hc (fun a b la lb => hto a b (by omega) (by omega)) hI hP
          refine ⟨best', hN, fun post n hk => br_f hge ⟨hin, br_f (by rw [hcl]; exact he) ⟨hin, br_t (by rw [hcl]; exact hm) ?_⟩⟩⟩
          rcases hpv with e | ⟨p, hp, e⟩
          · exact br_t (by rw [e]; decide) (hW post _ hk)
          · refine br_f (by rw [e]; exact nI_pos (by omega)) ?_
            rw [e]
            refine fy_before h2 h3 hb hn hp hc ?_
            rw [fr_bt (hpb p hp e)]
            refine br_f (by decide) ?_
            rw [← e]
            exact hW post _ hk
        · refine ⟨best, fr_Nx_no hI (fun h => hpb h.2.2), fun post n hk => br_f hge ⟨hin, br_f (by rw [hcl]; exact he) ⟨hin, br_t (by rw [hcl]; exact hm) ?_⟩⟩⟩
          rcases hpv with e | ⟨p, hp, e⟩
          · exact absurd (fun p hp e2 => absurd (e2.symm.trans e) (fr_m1 (by omega))) hpb
          · refine br_f (by rw [e]; exact nI_pos (by omega)) ?_
            have hnb : ¬ fr_B nb sa po ng tc p c := fun hB => hpb (fun p' hp' e2 => by
              have : p = p' := (nI_eq (by omega) (by omega)).mp (e.symm.trans e2)
              rw [← this]; exact hB)
            rw [e]
            refine fy_before h2 h3 hb hn hp hc ?_
            rw [fr_bf hnb]
            refine br_t rfl (nm_r (nI_1 c) ?_)
            rw [← e]
            exact hk
      · exact ⟨best, fr_Nx_no hI (fun h => hm h.2.1), fun post n hk => br_f hge ⟨hin, br_f (by rw [hcl]; exact he) ⟨hin, br_f (by rw [hcl]; exact hm) (nm_r (nI_1 c) hk)⟩⟩⟩
  obtain ⟨q, hq, hw⟩ := fr_exl (σ := Int32) (Q := Int32 → Prop) (fun post n c best => wY_next_4 post prev rl bl md pc ht sa cn po ac bm ck cg tc tf th tp ds wx wy wz nb kd fl hd my vs pr n best (nI c)) (fun c best => fr_Nx (fr_B nb sa po ng tc) (fr_P (fr_B nb sa po ng tc) hd my prev) c best) 864 key (-1) (fr_Nx_0 _ _)
  refine ⟨q, hq, fun post hp => ⟨1 + 864, hw post 1 ?_⟩⟩
  exact br_t (nI_le (a := 864) (b := 864) (by omega) (by decide)) hp
end
