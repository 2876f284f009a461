/-! ===== what holds of the rules while they are built ===== -/
def fr_R2 (R : Nat) (po ng cn ac cg : Nat → Int32) : Prop :=
  ∀ r, r < 4 → fr_Lt (po r) 4 ∧ fr_Lt (ng r) 3 ∧ cn r = nI (fr_n (po r) + fr_n (ng r)) ∧ fr_Lt (ac r) 5 ∧
    fr_np cg r (fr_n (po r) + fr_n (ng r)) = fr_n (po r) ∧ (R ≤ r → po r = 0 ∧ ng r = 0 ∧ ac r = 0)
def fr_R3 (po ng tc tt : Nat → Int32) : Prop :=
  ∀ r, r < 4 → (∀ i, i < 5 → fr_Lt (tc (5 * r + i)) 5 ∧ (fr_n (po r) + fr_n (ng r) ≤ i → tc (5 * r + i) = 0)) ∧
    tt r = nI (fr_tt tc r (fr_n (po r) + fr_n (ng r)))
def fr_Bd (tc th tp : Nat → Int32) (r x m : Nat) : Prop :=
  ∃ i s, 4 * i + s < m ∧ i < 5 ∧ s < fr_n (tc (5 * r + i)) ∧ th (4 * (5 * r + i) + s) = 3 ∧ tp (4 * (5 * r + i) + s) = nI x
def fr_Tw (cg tc tf th tp bd bp bf : Nat → Int32) (r i s : Nat) : Prop :=
  fr_Lt (tf (4 * (5 * r + i) + s)) 3 ∧ fr_Lt (th (4 * (5 * r + i) + s)) 4 ∧
  (th (4 * (5 * r + i) + s) = 3 → cg (5 * r + i) = 0 ∧ ∃ x, x < 4 ∧ tp (4 * (5 * r + i) + s) = nI x ∧ bd (4 * r + x) ≠ 0 ∧
    bp (4 * r + x) = nI (fr_np cg r i) ∧ bf (4 * r + x) = tf (4 * (5 * r + i) + s)) ∧
  (th (4 * (5 * r + i) + s) ≠ 3 → tp (4 * (5 * r + i) + s) &&& 1 ≠ 0 →
    ∃ x, x < 4 ∧ tp (4 * (5 * r + i) + s) >>> ((1 : Int32) &&& 31) = nI x ∧ bd (4 * r + x) ≠ 0 ∧ fr_Bd tc th tp r x (4 * i + s))
def fr_R4 (cg tc tf th tp bd bp bf : Nat → Int32) : Prop :=
  ∀ r i s, r < 4 → i < 5 → s < fr_n (tc (5 * r + i)) → fr_Tw cg tc tf th tp bd bp bf r i s
def fr_R5 (R : Nat) (tc th tp bd bp bf bm : Nat → Int32) : Prop :=
  ∀ r, r < 4 → fr_Lt (bm r) 16 ∧ (R ≤ r → bm r = 0) ∧ ∀ x, x < 4 →
    (fr_n (bm r) / 2 ^ x % 2 = 1 ↔ bd (4 * r + x) ≠ 0) ∧
    ((bd (4 * r + x) = 0 ∨ bd (4 * r + x) = 1) ∧ (bd (4 * r + x) ≠ 0 → fr_Bd tc th tp r x 20 ∧ fr_Lt (bp (4 * r + x)) 3 ∧ fr_Lt (bf (4 * r + x)) 3))
def fr_Us (bd : Nat → Int32) (r : Nat) (o : Int32) : Prop :=
  o &&& 1 ≠ 0 → ∃ x, x < 4 ∧ o >>> ((1 : Int32) &&& 31) = nI x ∧ bd (4 * r + x) ≠ 0
def fr_Aw (po bd aw ak ao ds wx wy wz : Nat → Int32) (r s : Nat) : Prop :=
  (ds (4 * r + s) = 0 ∧ aw (4 * r + s) = 0 ∧ ao (3 * (4 * r + s)) = wx (4 * r + s) ∧ ∃ o, o < fr_n (po r) ∧ wx (4 * r + s) = nI o) ∨
  (ds (4 * r + s) = 1 ∧ aw (4 * r + s) = 1 ∧ ao (3 * (4 * r + s)) = wx (4 * r + s) ∧ fr_Us bd r (wx (4 * r + s))) ∨
  (ds (4 * r + s) = 2 ∧ aw (4 * r + s) = 2) ∨
  (∃ k, k < 4 ∧ ds (4 * r + s) = nI (10 + k) ∧ aw (4 * r + s) = 3 ∧ ak (4 * r + s) = nI k ∧
    ao (3 * (4 * r + s)) = wx (4 * r + s) ∧ ao (3 * (4 * r + s) + 1) = wy (4 * r + s) ∧ ao (3 * (4 * r + s) + 2) = wz (4 * r + s) ∧
    fr_Us bd r (wx (4 * r + s)) ∧ fr_Us bd r (wy (4 * r + s)) ∧ fr_Us bd r (wz (4 * r + s)))
def fr_R6 (po ac bd aw ak ao ds wx wy wz : Nat → Int32) : Prop :=
  ∀ r s, r < 4 → s < fr_n (ac r) → fr_Aw po bd aw ak ao ds wx wy wz r s
def fr_R7 (ac ha ds : Nat → Int32) : Prop :=
  ∀ r, r < 4 → (ha r ≠ 0 ↔ ∃ s, s < fr_n (ac r) ∧ ds (4 * r + s) = 2)
def fr_RB (R : Nat) (po ng cn ac tt ha bd bp bf bm cg tc tf th tp aw ak ao ds wx wy wz : Nat → Int32) : Prop :=
  fr_R2 R po ng cn ac cg ∧ fr_R3 po ng tc tt ∧ fr_R4 cg tc tf th tp bd bp bf ∧ fr_R5 R tc th tp bd bp bf bm ∧
  fr_R6 po ac bd aw ak ao ds wx wy wz ∧ fr_R7 ac ha ds
def fr_CS (cs : Nat → Int32) : Prop := ∀ m j, m < 216 → j < 3 → cs (3 * m + j) = nI (fr_dg (fr_sg m) j)
/-- the facts: numbers of 1 to made, each once; their count -/
def fr_FB (b : Nat) (fc md : Int32) (nb : Nat → Int32) : Prop :=
  (∃ m, m ≤ b ∧ md = nI m ∧ ∀ f, f < 6 → fr_Lt (nb f) (m + 1)) ∧ (∀ f g, f < 6 → g < 6 → nb f ≠ 0 → nb f = nb g → f = g) ∧
  fc = nI (fr_ct (fun f => decide (nb f ≠ 0)) 6)
/-! a rule begun -/
theorem fr_rule {R : Nat} {po ng cn ac tt ha bd bp bf bm cg tc tf th tp aw ak ao ds wx wy wz : Nat → Int32}
    (h : fr_RB R po ng cn ac tt ha bd bp bf bm cg tc tf th tp aw ak ao ds wx wy wz) :
    fr_RB (R + 1) po ng cn ac tt ha bd bp bf bm cg tc tf th tp aw ak ao ds wx wy wz := by
  obtain ⟨h2, h3, h4, h5, h6, h7⟩ := h
  refine ⟨fun r hr => ?_, h3, h4, fun r hr => ?_, h6, h7⟩
  · have ⟨a, b, c, d, e, f⟩ := h2 r hr
    exact ⟨a, b, c, d, e, fun h => f (by omega)⟩
  · have ⟨a, b, c⟩ := h5 r hr
    exact ⟨a, fun h => b (by omega), c⟩
/-! a condition put behind the others -/
theorem fr_cond {R r p m p' m' : Nat} {g : Int32} {po ng cn ac tt ha bd bp bf bm cg tc tf th tp aw ak ao ds wx wy wz po' ng' cn' : Nat → Int32}
    (h : fr_RB R po ng cn ac tt ha bd bp bf bm cg tc tf th tp aw ak ao ds wx wy wz)
    (hR : R = r + 1) (hr : r < 4) (hp : fr_n (po r) = p) (hm : fr_n (ng r) = m) (hp' : p' ≤ 3) (hm' : m' ≤ 2) (hpm : p' + m' = p + m + 1)
    (hg : p' = p + (if g = 0 then 1 else 0))
    (e1 : po' r = nI p') (e2 : ng' r = nI m') (e3 : cn' r = nI (p' + m'))
    (o1 : ∀ r', r' ≠ r → po' r' = po r') (o2 : ∀ r', r' ≠ r → ng' r' = ng r') (o3 : ∀ r', r' ≠ r → cn' r' = cn r') :
    fr_RB R po' ng' cn' ac tt ha bd bp bf bm (upd cg (5 * r + (p + m)) g) tc tf th tp aw ak ao ds wx wy wz := by
  obtain ⟨h2, h3, h4, h5, h6, h7⟩ := h
  have n1 : fr_n (po' r) = p' := fr_ne e1
  have n2 : fr_n (ng' r) = m' := fr_ne e2
  refine ⟨fun r' hr' => ?_, fun r' hr' => ?_, fun r' i s hr' hi hs => ?_, h5, fun r' s hr' hs => ?_, h7⟩
  · have ⟨a, b, c, d, e, f⟩ := h2 r' hr'
    by_cases hrr : r' = r
    · subst hrr
      rw [hp, hm] at e
      rw [n1, n2, hpm]
      refine ⟨fr_Lt_of e1 (by omega) (by omega), fr_Lt_of e2 (by omega) (by omega), by rw [e3, hpm], d, ?_, fun h => by omega⟩
      rw [hg]
      show fr_np _ r' (p + m) + (if upd cg (5 * r' + (p + m)) g (5 * r' + (p + m)) = 0 then 1 else 0) = _
      rw [pk_us, fr_np_c (cg := cg) (p + m) (fun i hi => pk_un (by omega)), e]
    · rw [o1 _ hrr, o2 _ hrr, o3 _ hrr]
      refine ⟨a, b, c, d, ?_, f⟩
      have := a.1
      have := b.1
      rw [fr_np_c (cg := cg) _ (fun i hi => pk_un (by omega)), e]
  · have ⟨a, b⟩ := h3 r' hr'
    by_cases hrr : r' = r
    · subst hrr
      rw [hp, hm] at a b
      rw [n1, n2, hpm]
      refine ⟨fun i hi => ⟨(a i hi).1, fun hl => (a i hi).2 (by omega)⟩, ?_⟩
      rw [b]
      show _ = nI (fr_tt tc r' (p + m) + fr_n (tc (5 * r' + (p + m))))
      rw [(a (p + m) (by omega)).2 (Nat.le_refl _)]
      rfl
    · rw [o1 _ hrr, o2 _ hrr]
      exact ⟨a, b⟩
  · have ht := h4 r' i s hr' hi hs
    have hne : ∀ j, j ≤ i → upd cg (5 * r + (p + m)) g (5 * r' + j) = cg (5 * r' + j) := by
      intro j hj
      refine pk_un ?_
      by_cases hrr : r' = r
      · subst hrr
        have ⟨a, _⟩ := h3 r' hr'
        rw [hp, hm] at a
        have a2 := (a i hi).2
        intro hq
        have h0 := a2 (by omega)
        rw [h0] at hs
        exact absurd hs (Nat.not_lt_zero s)
      · omega
    unfold fr_Tw at ht ⊢
    rw [hne i (Nat.le_refl i), fr_np_c (cg := cg) i (fun j hj => hne j (by omega))]
    exact ht
  · have ha := h6 r' s hr' hs
    have hle : fr_n (po r') ≤ fr_n (po' r') := by
      by_cases hrr : r' = r
      · subst hrr
        rw [n1, hp, hg]
        exact Nat.le_add_right _ _
      · rw [o1 _ hrr]
        exact Nat.le_refl _
    rcases ha with ⟨a1, a2, a3, o, a4, a5⟩ | ha
    · exact Or.inl ⟨a1, a2, a3, o, by omega, a5⟩
    · exact Or.inr ha
/-! a test put behind the others -/
theorem fr_tt_up {tc : Nat → Int32} {r i s : Nat} (h : fr_n (tc (5 * r + i)) = s) (hs : s < 2 ^ 30) : ∀ n, i < n → fr_tt (upd tc (5 * r + i) (nI (s + 1))) r n = fr_tt tc r n + 1 := by
  intro n
  induction n with
  | zero => intro hn; exact absurd hn (Nat.not_lt_zero i)
  | succ n ih =>
    intro hn
    show fr_tt (upd tc (5 * r + i) (nI (s + 1))) r n + fr_n (upd tc (5 * r + i) (nI (s + 1)) (5 * r + n)) = fr_tt tc r n + fr_n (tc (5 * r + n)) + 1
    by_cases e : n = i
    · subst e
      rw [pk_us, fr_nn (by omega), fr_tt_c (tc := tc) n (fun j hj => pk_un (by omega)), h]
      omega
    · rw [pk_un (by omega), ih (by omega)]
      omega
theorem fr_Bd_up {tc th tp : Nat → Int32} {r i s : Nat} {H o : Int32} (hs : fr_n (tc (5 * r + i)) = s) (hs4 : s < 4) (hall : ∀ r' i', r' < 4 → i' < 5 → fr_n (tc (5 * r' + i')) ≤ 4) (hi : i < 5) {r' x m : Nat} (hr' : r' < 4)
    (h : fr_Bd tc th tp r' x m) : fr_Bd (upd tc (5 * r + i) (nI (s + 1))) (upd th (4 * (5 * r + i) + s) H) (upd tp (4 * (5 * r + i) + s) o) r' x m := by
  obtain ⟨i', s', h1, h2, h3, h4, h5⟩ := h
  have h6 := hall r' i' hr' h2
  by_cases e : 5 * r' + i' = 5 * r + i
  · rw [e] at h3 h4 h5
    refine ⟨i', s', h1, h2, ?_, ?_, ?_⟩
    · rw [e, pk_us, fr_nn (by omega)]; omega
    · rw [e, pk_un (by omega)]; exact h4
    · rw [e, pk_un (by omega)]; exact h5
  · refine ⟨i', s', h1, h2, ?_, ?_, ?_⟩
    · rw [pk_un e]; exact h3
    · rw [pk_un (by omega)]; exact h4
    · rw [pk_un (by omega)]; exact h5
theorem fr_test {R r i s : Nat} {F H o : Int32} {po ng cn ac tt ha bd bp bf bm cg tc tf th tp aw ak ao ds wx wy wz bd' bp' bf' bm' : Nat → Int32}
    (h : fr_RB R po ng cn ac tt ha bd bp bf bm cg tc tf th tp aw ak ao ds wx wy wz)
    (hR : R = r + 1) (hr : r < 4) (hi : i + 1 = fr_n (po r) + fr_n (ng r)) (hs : fr_n (tc (5 * r + i)) = s) (hs4 : s < 4)
    (hbd : ∀ r' x, r' < 4 → x < 4 → bd (4 * r' + x) ≠ 0 → bd' (4 * r' + x) ≠ 0 ∧ bp' (4 * r' + x) = bp (4 * r' + x) ∧ bf' (4 * r' + x) = bf (4 * r' + x))
    (hnew : fr_Tw cg (upd tc (5 * r + i) (nI (s + 1))) (upd tf (4 * (5 * r + i) + s) F) (upd th (4 * (5 * r + i) + s) H) (upd tp (4 * (5 * r + i) + s) o) bd' bp' bf' r i s)
    (h5' : fr_R5 R (upd tc (5 * r + i) (nI (s + 1))) (upd th (4 * (5 * r + i) + s) H) (upd tp (4 * (5 * r + i) + s) o) bd' bp' bf' bm') :
    fr_RB R po ng cn ac (upd tt r (nI (fr_tt tc r (fr_n (po r) + fr_n (ng r)) + 1))) ha bd' bp' bf' bm' cg (upd tc (5 * r + i) (nI (s + 1))) (upd tf (4 * (5 * r + i) + s) F) (upd th (4 * (5 * r + i) + s) H) (upd tp (4 * (5 * r + i) + s) o) aw ak ao ds wx wy wz := by
  obtain ⟨h2, h3, h4, h5, h6, h7⟩ := h
  have ⟨p4, m3, _⟩ := h2 r hr
  have hi5 : i < 5 := by have := p4.1; have := m3.1; omega
  have hall : ∀ r' i', r' < 4 → i' < 5 → fr_n (tc (5 * r' + i')) ≤ 4 := fun r' i' a b => by
    have := ((h3 r' a).1 i' b).1.1
    omega
  refine ⟨h2, fun r' hr' => ?_, fun r' i' s' hr' hi' hs' => ?_, h5', fun r' s' hr' hs' => ?_, h7⟩
  · have ⟨a, b⟩ := h3 r' hr'
    have ⟨p4', m3', _⟩ := h2 r' hr'
    have := p4'.1
    have := m3'.1
    by_cases hrr : r' = r
    · subst hrr
      refine ⟨fun j hj => ?_, ?_⟩
      · by_cases e : j = i
        · subst e
          rw [pk_us]
          exact ⟨fr_Lt_n (by omega) (by omega), fun hl => by omega⟩
        · rw [pk_un (by omega)]
          exact a j hj
      · rw [pk_us, fr_tt_up hs (by omega) _ (by omega)]
    · rw [pk_un hrr]
      refine ⟨fun j hj => ?_, ?_⟩
      · rw [pk_un (by omega)]
        exact a j hj
      · rw [b, fr_tt_c (tc := tc) _ (fun j hj => pk_un (by omega))]
  · by_cases e : r' = r ∧ i' = i ∧ s' = s
    · obtain ⟨e1, e2, e3⟩ := e
      subst e1 e2 e3
      exact hnew
    · have hs1 : s' < fr_n (tc (5 * r' + i')) := by
        by_cases e1 : 5 * r' + i' = 5 * r + i
        · rw [e1, pk_us, fr_nn (by omega)] at hs'
          rw [e1, hs]
          omega
        · rw [pk_un e1] at hs'
          exact hs'
      have hle := hall r' i' hr' hi'
      have hz : 4 * (5 * r' + i') + s' ≠ 4 * (5 * r + i) + s := by omega
      obtain ⟨a, b, c, d⟩ := h4 r' i' s' hr' hi' hs1
      unfold fr_Tw
      rw [pk_un hz, pk_un hz, pk_un hz]
      refine ⟨a, b, fun hh => ?_, fun hh ho => ?_⟩
      · obtain ⟨c1, x, c2, c3, c4, c5, c6⟩ := c hh
        have ⟨d1, d2, d3⟩ := hbd r' x hr' c2 c4
        exact ⟨c1, x, c2, c3, d1, d2.trans c5, d3.trans c6⟩
      · obtain ⟨x, c2, c3, c4, c5⟩ := d hh ho
        exact ⟨x, c2, c3, (hbd r' x hr' c2 c4).1, fr_Bd_up hs hs4 hall hi5 hr' c5⟩
  · have hu : ∀ o, fr_Us bd r' o → fr_Us bd' r' o := by
      intro o hu h1
      obtain ⟨x, a, b, c⟩ := hu h1
      exact ⟨x, a, b, (hbd r' x hr' a c).1⟩
    rcases h6 r' s' hr' hs' with ha | ⟨a1, a2, a3, a4⟩ | ha | ⟨k, a1, a2, a3, a4, a5, a6, a7, a8, a9, a10⟩
    · exact Or.inl ha
    · exact Or.inr (Or.inl ⟨a1, a2, a3, hu _ a4⟩)
    · exact Or.inr (Or.inr (Or.inl ha))
    · exact Or.inr (Or.inr (Or.inr ⟨k, a1, a2, a3, a4, a5, a6, a7, hu _ a8, hu _ a9, hu _ a10⟩))
/-! an action put behind the others -/
theorem fr_acts {R r a : Nat} {W K X Y Z D : Int32} {po ng cn ac tt ha bd bp bf bm cg tc tf th tp aw ak ao ds wx wy wz wx' wy' wz' ao' ha' : Nat → Int32}
    (h : fr_RB R po ng cn ac tt ha bd bp bf bm cg tc tf th tp aw ak ao ds wx wy wz)
    (hR : R = r + 1) (hr : r < 4) (ha4 : fr_n (ac r) = a) (hal : a < 4)
    (ox : ∀ z, z ≠ 4 * r + a → wx' z = wx z) (oy : ∀ z, z ≠ 4 * r + a → wy' z = wy z) (oz : ∀ z, z ≠ 4 * r + a → wz' z = wz z)
    (oa : ∀ z, z < 3 * (4 * r + a) ∨ 3 * (4 * r + a) + 2 < z → ao' z = ao z) (oh : ∀ q, q ≠ r → ha' q = ha q)
    (hh : ha' r ≠ 0 ↔ ha r ≠ 0 ∨ D = 2)
    (hnew : fr_Aw po bd (upd aw (4 * r + a) W) (upd ak (4 * r + a) K) ao' (upd ds (4 * r + a) D) wx' wy' wz' r a) :
    fr_RB R po ng cn (upd ac r (nI (a + 1))) tt ha' bd bp bf bm cg tc tf th tp (upd aw (4 * r + a) W) (upd ak (4 * r + a) K) ao' (upd ds (4 * r + a) D) wx' wy' wz' := by
  obtain ⟨h2, h3, h4, h5, h6, h7⟩ := h
  refine ⟨fun r' hr' => ?_, h3, h4, h5, fun r' s hr' hs => ?_, fun r' hr' => ?_⟩
  · have ⟨b1, b2, b3, b4, b5, b6⟩ := h2 r' hr'
    by_cases e : r' = r
    · subst e
      rw [pk_us]
      exact ⟨b1, b2, b3, fr_Lt_n (by omega) (by omega), b5, fun h => by omega⟩
    · rw [pk_un e]
      exact ⟨b1, b2, b3, b4, b5, b6⟩
  · by_cases e : r' = r ∧ s = a
    · obtain ⟨e1, e2⟩ := e
      subst e1 e2
      exact hnew
    · have hs1 : s < fr_n (ac r') := by
        by_cases e1 : r' = r
        · subst e1
          rw [pk_us, fr_nn (by omega)] at hs
          omega
        · rw [pk_un e1] at hs
          exact hs
      have h4' := (h2 r' hr').2.2.2.1.1
      have hz : 4 * r' + s ≠ 4 * r + a := by omega
      have hw := h6 r' s hr' hs1
      unfold fr_Aw at hw ⊢
      rw [pk_un hz, pk_un hz, pk_un hz, ox _ hz, oy _ hz, oz _ hz, oa _ (by omega), oa _ (by omega), oa _ (by omega)]
      exact hw
  · have h4' := (h2 r' hr').2.2.2.1.1
    by_cases e : r' = r
    · subst e
      rw [hh, h7 r' hr', pk_us, fr_nn (by omega), ha4]
      constructor
      · intro hq
        rcases hq with ⟨s, h1, h2⟩ | hq
        · exact ⟨s, by omega, by rw [pk_un (by omega)]; exact h2⟩
        · exact ⟨a, by omega, by rw [pk_us]; exact hq⟩
      · intro ⟨s, h1, h2⟩
        by_cases e1 : s = a
        · subst e1
          rw [pk_us] at h2
          exact Or.inr h2
        · rw [pk_un (by omega)] at h2
          exact Or.inl ⟨s, by omega, h2⟩
    · rw [oh _ e, h7 r' hr', pk_un e]
      constructor
      · intro ⟨s, h1, h2⟩
        exact ⟨s, h1, by rw [pk_un (by omega)]; exact h2⟩
      · intro ⟨s, h1, h2⟩
        rw [pk_un (by omega)] at h2
        exact ⟨s, h1, h2⟩
/-! ===== what a usable operand is; variables bound ===== -/
theorem fr_16a : ∀ w, w < 16 → ∀ x, x < 4 → vp_nar .byte (nI w ||| ((1 : Int32) <<< (nI x &&& 31))) = nI (w ||| 2 ^ x) := by
  intro w hw x hx
  rw [vp_nar_byte]
  exact (by decide +kernel : ∀ w, w < 16 → ∀ x, x < 4 → (nI w ||| ((1 : Int32) <<< (nI x &&& 31))).toInt8.toInt32 = nI (w ||| 2 ^ x)) w hw x hx
theorem fr_16b : ∀ w, w < 16 → ∀ x, x < 4 → (w ||| 2 ^ x) < 16 ∧ (w ||| 2 ^ x) / 2 ^ x % 2 = 1 ∧ ∀ x', x' < 4 → x' ≠ x → (w ||| 2 ^ x) / 2 ^ x' % 2 = w / 2 ^ x' % 2 := by
  decide +kernel
theorem fr_16c : ∀ w, w < 16 → ∀ x, x < 4 → (nI w >>> (nI x &&& 31)) &&& 1 = nI (w / 2 ^ x % 2) := by
  decide +kernel
theorem fr_R5_n {R r i s : Nat} {H o : Int32} {tc th tp bd bp bf bm : Nat → Int32} (h5 : fr_R5 R tc th tp bd bp bf bm)
    (hs : fr_n (tc (5 * r + i)) = s) (hs4 : s < 4) (hall : ∀ r' i', r' < 4 → i' < 5 → fr_n (tc (5 * r' + i')) ≤ 4) (hi : i < 5) :
    fr_R5 R (upd tc (5 * r + i) (nI (s + 1))) (upd th (4 * (5 * r + i) + s) H) (upd tp (4 * (5 * r + i) + s) o) bd bp bf bm := by
  intro r' hr'
  obtain ⟨a, b, c⟩ := h5 r' hr'
  refine ⟨a, b, fun x hx => ⟨(c x hx).1, (c x hx).2.1, fun hb => ?_⟩⟩
  obtain ⟨d1, d2, d3⟩ := (c x hx).2.2 hb
  exact ⟨fr_Bd_up hs hs4 hall hi hr' d1, d2, d3⟩
theorem fr_R5_b {R r i s x P : Nat} {F : Int32} {tc th tp bd bp bf bm : Nat → Int32} (h5 : fr_R5 R tc th tp bd bp bf bm)
    (hR : R = r + 1) (hr : r < 4) (hx : x < 4)
    (hs : fr_n (tc (5 * r + i)) = s) (hs4 : s < 4) (hall : ∀ r' i', r' < 4 → i' < 5 → fr_n (tc (5 * r' + i')) ≤ 4) (hi : i < 5) (hP : P < 3) (hF : fr_Lt F 3) :
    fr_R5 R (upd tc (5 * r + i) (nI (s + 1))) (upd th (4 * (5 * r + i) + s) 3) (upd tp (4 * (5 * r + i) + s) (nI x)) (upd bd (4 * r + x) 1) (upd bp (4 * r + x) (nI P)) (upd bf (4 * r + x) F) (upd bm r (nI (fr_n (bm r) ||| 2 ^ x))) := by
  intro r' hr'
  obtain ⟨a, b, c⟩ := h5 r' hr'
  by_cases e : r' = r
  · subst e
    have ⟨q1, q2, q3⟩ := fr_16b (fr_n (bm r')) a.1 x hx
    rw [pk_us]
    refine ⟨fr_Lt_n q1 (by omega), fun h => by omega, fun x' hx' => ?_⟩
    rw [fr_nn (by omega)]
    by_cases e1 : x' = x
    · subst e1
      rw [pk_us, pk_us, pk_us]
      refine ⟨⟨fun _ => by decide, fun _ => q2⟩, Or.inr rfl, fun _ => ⟨⟨i, s, by omega, hi, ?_, pk_us, pk_us⟩, fr_Lt_n hP (by omega), hF⟩⟩
      rw [pk_us, fr_nn (by omega)]
      omega
    · rw [pk_un (by omega), pk_un (by omega), pk_un (by omega), q3 x' hx' e1]
      refine ⟨(c x' hx').1, (c x' hx').2.1, fun hb => ?_⟩
      obtain ⟨d1, d2, d3⟩ := (c x' hx').2.2 hb
      exact ⟨fr_Bd_up hs hs4 hall hi hr' d1, d2, d3⟩
  · rw [pk_un e]
    refine ⟨a, b, fun x' hx' => ?_⟩
    rw [pk_un (by omega), pk_un (by omega), pk_un (by omega)]
    refine ⟨(c x' hx').1, (c x' hx').2.1, fun hb => ?_⟩
    obtain ⟨d1, d2, d3⟩ := (c x' hx').2.2 hb
    exact ⟨fr_Bd_up hs hs4 hall hi hr' d1, d2, d3⟩
/-! the new test, binding -/
theorem fr_test_b {R r i s x : Nat} {F : Int32} {po ng cn ac tt ha bd bp bf bm cg tc tf th tp aw ak ao ds wx wy wz : Nat → Int32}
    (h : fr_RB R po ng cn ac tt ha bd bp bf bm cg tc tf th tp aw ak ao ds wx wy wz)
    (hR : R = r + 1) (hr : r < 4) (hi : i + 1 = fr_n (po r) + fr_n (ng r)) (hs : fr_n (tc (5 * r + i)) = s) (hs4 : s < 4)
    (hx : x < 4) (hb : bd (4 * r + x) = 0) (hc : cg (5 * r + i) = 0) (hF : fr_Lt F 3) :
    fr_RB R po ng cn ac (upd tt r (nI (fr_tt tc r (fr_n (po r) + fr_n (ng r)) + 1))) ha (upd bd (4 * r + x) 1) (upd bp (4 * r + x) (nI (fr_n (po r) - 1))) (upd bf (4 * r + x) F) (upd bm r (nI (fr_n (bm r) ||| 2 ^ x))) cg (upd tc (5 * r + i) (nI (s + 1))) (upd tf (4 * (5 * r + i) + s) F) (upd th (4 * (5 * r + i) + s) 3) (upd tp (4 * (5 * r + i) + s) (nI x)) aw ak ao ds wx wy wz := by
  have h' := h
  obtain ⟨h2, h3, h4, h5, h6, h7⟩ := h'
  have ⟨p4, m3, _, _, hnp, _⟩ := h2 r hr
  have p4' := p4.1
  have m3' := m3.1
  have hi5 : i < 5 := by omega
  have hall : ∀ r' i', r' < 4 → i' < 5 → fr_n (tc (5 * r' + i')) ≤ 4 := fun r' i' a b => by
    have := ((h3 r' a).1 i' b).1.1
    omega
  have hnp' : fr_np cg r i + 1 = fr_n (po r) := by rw [← fr_np_s hc, hi, hnp]
  refine fr_test h hR hr hi hs hs4 ?_ ?_ (fr_R5_b h5 hR hr hx hs hs4 hall hi5 (by omega) hF)
  · intro r' x' hr' hx' hb'
    have hne : 4 * r' + x' ≠ 4 * r + x := fun e => hb' (by rw [e]; exact hb)
    rw [pk_un hne, pk_un hne, pk_un hne]
    exact ⟨hb', rfl, rfl⟩
  · unfold fr_Tw
    rw [pk_us, pk_us, pk_us]
    refine ⟨hF, fr_Lt_of (n := 3) rfl (by omega) (by omega), fun _ => ⟨hc, x, hx, rfl, ?_, ?_, ?_⟩, fun hh => absurd rfl hh⟩
    · rw [pk_us]; decide
    · rw [pk_us, show fr_n (po r) - 1 = fr_np cg r i from by omega]
    · rw [pk_us]
/-! the new test, comparing -/
theorem fr_test_n {R r i s H : Nat} {F o : Int32} {po ng cn ac tt ha bd bp bf bm cg tc tf th tp aw ak ao ds wx wy wz : Nat → Int32}
    (h : fr_RB R po ng cn ac tt ha bd bp bf bm cg tc tf th tp aw ak ao ds wx wy wz)
    (hR : R = r + 1) (hr : r < 4) (hi : i + 1 = fr_n (po r) + fr_n (ng r)) (hs : fr_n (tc (5 * r + i)) = s) (hs4 : s < 4)
    (hH : H < 3) (ho : fr_Us bd r o) (hF : fr_Lt F 3) :
    fr_RB R po ng cn ac (upd tt r (nI (fr_tt tc r (fr_n (po r) + fr_n (ng r)) + 1))) ha bd bp bf bm cg (upd tc (5 * r + i) (nI (s + 1))) (upd tf (4 * (5 * r + i) + s) F) (upd th (4 * (5 * r + i) + s) (nI H)) (upd tp (4 * (5 * r + i) + s) o) aw ak ao ds wx wy wz := by
  have h' := h
  obtain ⟨h2, h3, h4, h5, h6, h7⟩ := h'
  have ⟨p4, m3, _, _, hnp, _⟩ := h2 r hr
  have p4' := p4.1
  have m3' := m3.1
  have hi5 : i < 5 := by omega
  have hall : ∀ r' i', r' < 4 → i' < 5 → fr_n (tc (5 * r' + i')) ≤ 4 := fun r' i' a b => by
    have := ((h3 r' a).1 i' b).1.1
    omega
  have hH3 : nI H ≠ 3 := fun e => by
    have := (nI_eq (a := H) (b := 3) (by omega) (by omega)).mp e
    omega
  refine fr_test h hR hr hi hs hs4 (fun _ _ _ _ hb => ⟨hb, rfl, rfl⟩) ?_ (fr_R5_n h5 hs hs4 hall hi5)
  unfold fr_Tw
  rw [pk_us, pk_us, pk_us]
  refine ⟨hF, fr_Lt_n (by omega) (by omega), fun hh => absurd hh hH3, fun _ hodd => ?_⟩
  obtain ⟨x, q1, q2, q3⟩ := ho hodd
  obtain ⟨⟨i', s', b1, b2, b3, b4, b5⟩, _, _⟩ := ((h5 r hr).2.2 x q1).2.2 q3
  refine ⟨x, q1, q2, q3, fr_Bd_up hs hs4 hall hi5 hr ⟨i', s', ?_, b2, b3, b4, b5⟩⟩
  have := hall r i' hr b2
  have h0 := ((h3 r hr).1 i' b2).2
  by_cases e : i' = i
  · subst e
    omega
  · by_cases l : i' < i
    · omega
    · rw [h0 (by omega)] at b3
      exact absurd b3 (Nat.not_lt_zero s')
/-! ===== facts put in and taken out ===== -/
theorem fr_FB_up {b b' : Nat} {fc md : Int32} {nb : Nat → Int32} (h : fr_FB b fc md nb) (hb : b ≤ b') : fr_FB b' fc md nb := by
  obtain ⟨⟨m, h1, h2, h3⟩, h4, h5⟩ := h
  exact ⟨⟨m, by omega, h2, h3⟩, h4, h5⟩
theorem fr_FB_n {b : Nat} {fc md : Int32} {nb : Nat → Int32} (h : fr_FB b fc md nb) : ∀ f, f < 6 → nb f = nI (fr_n (nb f)) := by
  obtain ⟨⟨m, h1, h2, h3⟩, h4, h5⟩ := h
  exact fun f hf => (h3 f hf).2
theorem fr_FB_add {b f : Nat} {fc md : Int32} {nb : Nat → Int32} (h : fr_FB b fc md nb) (hb : b + 2 < 2 ^ 31) (hf : f < 6) (h0 : nb f = 0) :
    fr_FB (b + 1) (fc + 1) (md + 1) (upd nb f (md + 1)) ∧ md + 1 ≠ 0 := by
  obtain ⟨⟨m, h1, h2, h3⟩, h4, h5⟩ := h
  have e1 : md + 1 = nI (m + 1) := by rw [h2, nI_1]
  have hne : md + 1 ≠ 0 := by rw [e1]; exact nI_ne0 (by omega) (by omega)
  have hlt : ∀ g, g < 6 → nb g ≠ md + 1 := by
    intro g hg e
    have := (h3 g hg).1
    rw [e, e1, fr_nn (by omega)] at this
    omega
  refine ⟨⟨⟨m + 1, by omega, e1, fun g hg => ?_⟩, fun g g' hg hg' hn he => ?_, ?_⟩, hne⟩
  · by_cases e : g = f
    · rw [e, pk_us, e1]
      exact fr_Lt_n (by omega) (by omega)
    · rw [pk_un e]
      have := h3 g hg
      exact ⟨by have := this.1; omega, this.2⟩
  · by_cases e : g = f
    · by_cases e' : g' = f
      · rw [e, e']
      · rw [e, pk_us, pk_un e'] at he
        exact absurd he.symm (hlt g' hg')
    · by_cases e' : g' = f
      · rw [e', pk_us, pk_un e] at he
        exact absurd he (hlt g hg)
      · rw [pk_un e, pk_un e'] at he
        rw [pk_un e] at hn
        exact h4 g g' hg hg' hn he
  · rw [h5, nI_1]
    refine congrArg nI (fr_ct_on (k := f) ?_ ?_ ?_ 6 hf).symm
    · rw [h0]; decide
    · rw [pk_us]; exact decide_eq_true hne
    · intro j hj
      rw [pk_un hj]
theorem fr_FB_del {b f : Nat} {fc md : Int32} {nb : Nat → Int32} (h : fr_FB b fc md nb) (hf : f < 6) (h0 : nb f ≠ 0) (hb : b + 2 < 2 ^ 31) :
    fr_FB b (fc - 1) md (upd nb f 0) := by
  obtain ⟨⟨m, h1, h2, h3⟩, h4, h5⟩ := h
  refine ⟨⟨m, h1, h2, fun g hg => ?_⟩, fun g g' hg hg' hn he => ?_, ?_⟩
  · by_cases e : g = f
    · rw [e, pk_us]
      exact fr_Lt_0 (by omega) (by omega)
    · rw [pk_un e]
      exact h3 g hg
  · by_cases e : g = f
    · rw [e, pk_us] at hn
      exact absurd rfl hn
    · by_cases e' : g' = f
      · rw [e', pk_us] at he
        exact absurd he hn
      · rw [pk_un e, pk_un e'] at he
        rw [pk_un e] at hn
        exact h4 g g' hg hg' hn he
  · have := fr_ct_on (g := fun g => decide (upd nb f 0 g ≠ 0)) (g' := fun g => decide (nb g ≠ 0)) (k := f) (by rw [pk_us]; decide) (decide_eq_true h0) (fun j hj => by rw [pk_un hj]) 6 hf
    rw [h5, this]
    exact nI_pred _
/-! ===== the variables that a test reads ===== -/
theorem fr_n4 {x : Nat} (hx : x < 4) : nI x &&& 3 = nI x := by
  rw [pk_andN (by omega) 2 (by decide), Nat.mod_eq_of_lt (by omega)]
theorem fr_ov_e {w : Nat → Int32} {o : Int32} (h : o &&& 1 = 0) : fr_ov w o = o >>> ((1 : Int32) &&& 31) := by
  unfold fr_ov; rw [if_pos h]
theorem fr_ov_o {w : Nat → Int32} {o : Int32} {x : Nat} (h : o &&& 1 ≠ 0) (hx : x < 4) (e : o >>> ((1 : Int32) &&& 31) = nI x) : fr_ov w o = w x := by
  unfold fr_ov; rw [if_neg h, e, fr_n4 hx, fr_nn (by omega)]
theorem fr_Ti_v {cg tc tf th tp bd bp bf fl w w' : Nat → Int32} {r i s f : Nat} (hT : fr_Tw cg tc tf th tp bd bp bf r i s)
    (hw : ∀ x, x < 4 → bd (4 * r + x) ≠ 0 → fr_Bd tc th tp r x (4 * i + s) → w x = w' x) :
    fr_Ti fl tf th tp w (5 * r + i) f s = fr_Ti fl tf th tp w' (5 * r + i) f s := by
  obtain ⟨_, _, _, h4⟩ := hT
  unfold fr_Ti
  by_cases h3 : th (4 * (5 * r + i) + s) = 3
  · apply propext
    exact ⟨fun _ h => absurd h3 h, fun _ h => absurd h3 h⟩
  · by_cases ho : tp (4 * (5 * r + i) + s) &&& 1 = 0
    · rw [fr_ov_e ho, fr_ov_e ho]
    · obtain ⟨x, h5, h6, h7, h8⟩ := h4 h3 ho
      rw [fr_ov_o ho h5 h6, fr_ov_o ho h5 h6, hw x h5 h7 h8]
theorem fr_T_v {cg tc tf th tp bd bp bf kd fl ck w w' : Nat → Int32} {r i f : Nat} (h4 : fr_R4 cg tc tf th tp bd bp bf) (hr : r < 4) (hi : i < 5)
    (hw : ∀ x, x < 4 → bd (4 * r + x) ≠ 0 → w x = w' x) :
    fr_T kd fl ck tc tf th tp w (5 * r + i) f = fr_T kd fl ck tc tf th tp w' (5 * r + i) f := by
  unfold fr_T
  apply propext
  constructor
  · intro ⟨a, b⟩
    refine ⟨a, fun s hs => ?_⟩
    rw [← fr_Ti_v (h4 r i s hr hi hs) (fun x h1 h2 _ => hw x h1 h2)]
    exact b s hs
  · intro ⟨a, b⟩
    refine ⟨a, fun s hs => ?_⟩
    rw [fr_Ti_v (h4 r i s hr hi hs) (fun x h1 h2 _ => hw x h1 h2)]
    exact b s hs
