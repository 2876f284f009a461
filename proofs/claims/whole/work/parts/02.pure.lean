/-! ===== what an instantiation is: facts nb kd fl, rules po ng ck cg tc tf th tp bp bf, a choice y ===== -/
def fr_np (cg : Nat → Int32) (r : Nat) : Nat → Nat
  | 0 => 0
  | i + 1 => fr_np cg r i + (if cg (5 * r + i) = 0 then 1 else 0)
def fr_val (bp bf fl : Nat → Int32) (y x : Nat) : Int32 :=
  fl (3 * fr_dg y (fr_n (bp (4 * (y / 216) + x))) + fr_n (bf (4 * (y / 216) + x)))
def fr_ov (w : Nat → Int32) (o : Int32) : Int32 :=
  if o &&& 1 = 0 then o >>> ((1 : Int32) &&& 31) else w (fr_n ((o >>> ((1 : Int32) &&& 31)) &&& 3))
def fr_cp (l h r : Int32) : Prop := (h = 0 → l = r) ∧ (h = 1 → l ≠ r) ∧ (h ≠ 0 → h ≠ 1 → l < r)
def fr_Ti (fl tf th tp w : Nat → Int32) (q f i : Nat) : Prop :=
  th (4 * q + i) ≠ 3 → fr_cp (fl (3 * f + fr_n (tf (4 * q + i)))) (th (4 * q + i)) (fr_ov w (tp (4 * q + i)))
def fr_T (kd fl ck tc tf th tp w : Nat → Int32) (q f : Nat) : Prop :=
  kd f = ck q ∧ ∀ i, i < fr_n (tc q) → fr_Ti fl tf th tp w q f i
def fr_Gj (nb po : Nat → Int32) (y j : Nat) : Prop :=
  (j < fr_n (po (y / 216)) → nb (fr_dg y j) ≠ 0) ∧ (fr_n (po (y / 216)) ≤ j → fr_dg y j = 0)
def fr_G (nb po : Nat → Int32) (y : Nat) : Prop := ∀ j, j < 3 → fr_Gj nb po y j
def fr_C (nb kd fl ck cg tc tf th tp w : Nat → Int32) (y i : Nat) : Prop :=
  (cg (5 * (y / 216) + i) = 0 → fr_T kd fl ck tc tf th tp w (5 * (y / 216) + i) (fr_dg y (fr_np cg (y / 216) i))) ∧
  (cg (5 * (y / 216) + i) ≠ 0 → ¬ ∃ f, f < 6 ∧ nb f ≠ 0 ∧ fr_T kd fl ck tc tf th tp w (5 * (y / 216) + i) f)
def fr_M (nb kd fl po ng ck cg tc tf th tp bp bf : Nat → Int32) (y : Nat) : Prop :=
  fr_G nb po y ∧ ∀ i, i < fr_n (po (y / 216)) + fr_n (ng (y / 216)) → fr_C nb kd fl ck cg tc tf th tp (fr_val bp bf fl y) y i
theorem fr_np_m (cg : Nat → Int32) (r i d : Nat) : fr_np cg r i ≤ fr_np cg r (i + d) := by
  induction d with
  | zero => exact Nat.le_refl _
  | succ d ih => exact Nat.le_trans ih (Nat.le_add_right _ _)
theorem fr_np_s {cg : Nat → Int32} {r i : Nat} (h : cg (5 * r + i) = 0) : fr_np cg r (i + 1) = fr_np cg r i + 1 := by
  show fr_np cg r i + (if cg (5 * r + i) = 0 then 1 else 0) = _
  rw [if_pos h]
theorem fr_np_k {cg : Nat → Int32} {r i : Nat} (h : cg (5 * r + i) ≠ 0) : fr_np cg r (i + 1) = fr_np cg r i := by
  show fr_np cg r i + (if cg (5 * r + i) = 0 then 1 else 0) = _
  rw [if_neg h]; rfl
theorem fr_np_lt {cg : Nat → Int32} {r i n : Nat} (hi : i < n) (h : cg (5 * r + i) = 0) : fr_np cg r i < fr_np cg r n := by
  have h1 := fr_np_m cg r (i + 1) (n - (i + 1))
  rw [fr_np_s h, show i + 1 + (n - (i + 1)) = n from by omega] at h1
  omega
theorem fr_np_ex {cg : Nat → Int32} {r j : Nat} : ∀ n, j < fr_np cg r n → ∃ i, i < n ∧ cg (5 * r + i) = 0 ∧ fr_np cg r i = j := by
  intro n
  induction n with
  | zero => intro h; exact absurd h (Nat.not_lt_zero j)
  | succ n ih =>
    intro h
    by_cases hc : cg (5 * r + n) = 0
    · rw [fr_np_s hc] at h
      by_cases e : j = fr_np cg r n
      · exact ⟨n, by omega, hc, e.symm⟩
      · obtain ⟨i, h1, h2, h3⟩ := ih (by omega)
        exact ⟨i, by omega, h2, h3⟩
    · rw [fr_np_k hc] at h
      obtain ⟨i, h1, h2, h3⟩ := ih h
      exact ⟨i, by omega, h2, h3⟩
theorem fr_np_c {cg cg' : Nat → Int32} {r : Nat} : ∀ n, (∀ i, i < n → cg' (5 * r + i) = cg (5 * r + i)) → fr_np cg' r n = fr_np cg r n := by
  intro n
  induction n with
  | zero => intro _; rfl
  | succ n ih =>
    intro h
    show fr_np cg' r n + (if cg' (5 * r + n) = 0 then 1 else 0) = fr_np cg r n + (if cg (5 * r + n) = 0 then 1 else 0)
    rw [ih (fun i hi => h i (by omega)), h n (by omega)]
/-! the reference's way to the same: positive conditions, what is left at 0, negated conditions -/
theorem fr_M_Y {nb kd fl po ng ck cg tc tf th tp bp bf : Nat → Int32} {y : Nat} (h3 : fr_n (po (y / 216)) < 4) (hp : fr_np cg (y / 216) (fr_n (po (y / 216)) + fr_n (ng (y / 216))) = fr_n (po (y / 216))) :
    fr_M nb kd fl po ng ck cg tc tf th tp bp bf y ↔
    (∀ i, i < fr_n (po (y / 216)) + fr_n (ng (y / 216)) → cg (5 * (y / 216) + i) = 0 → nb (fr_dg y (fr_np cg (y / 216) i)) ≠ 0 ∧ fr_T kd fl ck tc tf th tp (fr_val bp bf fl y) (5 * (y / 216) + i) (fr_dg y (fr_np cg (y / 216) i))) ∧
    (∀ j, fr_n (po (y / 216)) ≤ j → j < 3 → fr_dg y j = 0) ∧
    (∀ i, i < fr_n (po (y / 216)) + fr_n (ng (y / 216)) → cg (5 * (y / 216) + i) ≠ 0 → ¬ ∃ f, f < 6 ∧ nb f ≠ 0 ∧ fr_T kd fl ck tc tf th tp (fr_val bp bf fl y) (5 * (y / 216) + i) f) := by
  constructor
  · intro ⟨hG, hC⟩
    refine ⟨fun i hi hc => ⟨?_, (hC i hi).1 hc⟩, fun j h1 h2 => (hG j h2).2 h1, fun i hi hc => (hC i hi).2 hc⟩
    have h1 := fr_np_lt hi hc
    rw [hp] at h1
    exact (hG _ (by omega)).1 h1
  · intro ⟨hA, hB, hN⟩
    refine ⟨fun j hj => ⟨fun h => ?_, fun h => hB j h hj⟩, fun i hi => ⟨fun hc => (hA i hi hc).2, fun hc => hN i hi hc⟩⟩
    obtain ⟨i, h1, h2, h3⟩ := fr_np_ex (cg := cg) (r := y / 216) (j := j) _ (hp.symm ▸ h)
    rw [← h3]
    exact (hA i h1 h2).1
/-! what a choice's match reads of the rules: nothing but its own rule's cells -/
theorem fr_and3 (o : Int32) : fr_n (o &&& 3) < 4 := by
  obtain ⟨j, hj, e⟩ := pk_andE o (m := 3) 2 (by decide)
  rw [fr_ne e (by omega)]
  omega
theorem fr_ov_c {w w' : Nat → Int32} {o : Int32} (h : ∀ x, x < 4 → w' x = w x) : fr_ov w' o = fr_ov w o := by
  unfold fr_ov
  rw [h _ (fr_and3 _)]
theorem fr_Ti_c {fl tf tf' th th' tp tp' w w' : Nat → Int32} {q f i : Nat} (h1 : tf' (4 * q + i) = tf (4 * q + i)) (h2 : th' (4 * q + i) = th (4 * q + i)) (h3 : tp' (4 * q + i) = tp (4 * q + i)) (hw : ∀ x, x < 4 → w' x = w x) :
    fr_Ti fl tf' th' tp' w' q f i = fr_Ti fl tf th tp w q f i := by
  unfold fr_Ti
  rw [h1, h2, h3, fr_ov_c hw]
theorem fr_T_c {kd fl ck ck' tc tc' tf tf' th th' tp tp' w w' : Nat → Int32} {q : Nat} (h0 : ck' q = ck q) (ht : tc' q = tc q)
    (h1 : ∀ i, i < fr_n (tc q) → tf' (4 * q + i) = tf (4 * q + i)) (h2 : ∀ i, i < fr_n (tc q) → th' (4 * q + i) = th (4 * q + i)) (h3 : ∀ i, i < fr_n (tc q) → tp' (4 * q + i) = tp (4 * q + i)) (hw : ∀ x, x < 4 → w' x = w x) (f : Nat) :
    fr_T kd fl ck' tc' tf' th' tp' w' q f = fr_T kd fl ck tc tf th tp w q f := by
  unfold fr_T
  rw [h0, ht]
  apply propext
  constructor
  · intro ⟨a, b⟩
    refine ⟨a, fun i hi => ?_⟩
    rw [← fr_Ti_c (h1 i hi) (h2 i hi) (h3 i hi) hw]
    exact b i hi
  · intro ⟨a, b⟩
    refine ⟨a, fun i hi => ?_⟩
    rw [fr_Ti_c (h1 i hi) (h2 i hi) (h3 i hi) hw]
    exact b i hi
theorem fr_M_c {nb kd fl po ng ck cg tc tf th tp bp bf po' ng' ck' cg' tc' tf' th' tp' bp' bf' : Nat → Int32} {R y : Nat} (hy : y < 216 * R)
    (hn : fr_n (po (y / 216)) + fr_n (ng (y / 216)) ≤ 5) (ht : ∀ i, i < 5 → fr_n (tc (5 * (y / 216) + i)) ≤ 4)
    (e1 : ∀ q, q < R → po' q = po q) (e2 : ∀ q, q < R → ng' q = ng q)
    (e3 : ∀ q, q < 5 * R → ck' q = ck q) (e4 : ∀ q, q < 5 * R → cg' q = cg q) (e5 : ∀ q, q < 5 * R → tc' q = tc q)
    (e6 : ∀ q, q < 20 * R → tf' q = tf q) (e7 : ∀ q, q < 20 * R → th' q = th q) (e8 : ∀ q, q < 20 * R → tp' q = tp q)
    (e9 : ∀ q, q < 4 * R → bp' q = bp q) (e10 : ∀ q, q < 4 * R → bf' q = bf q) :
    fr_M nb kd fl po' ng' ck' cg' tc' tf' th' tp' bp' bf' y ↔ fr_M nb kd fl po ng ck cg tc tf th tp bp bf y := by
  have hr : y / 216 < R := by omega
  have hw : ∀ x, x < 4 → fr_val bp' bf' fl y x = fr_val bp bf fl y x := by
    intro x hx
    unfold fr_val
    rw [e9 _ (by omega), e10 _ (by omega)]
  have hT : ∀ i, i < fr_n (po (y / 216)) + fr_n (ng (y / 216)) → ∀ f, fr_T kd fl ck' tc' tf' th' tp' (fr_val bp' bf' fl y) (5 * (y / 216) + i) f = fr_T kd fl ck tc tf th tp (fr_val bp bf fl y) (5 * (y / 216) + i) f := by
    intro i hi f
    have h4 := ht i (by omega)
    exact fr_T_c (e3 _ (by omega)) (e5 _ (by omega)) (fun j hj => e6 _ (by omega)) (fun j hj => e7 _ (by omega)) (fun j hj => e8 _ (by omega)) hw f
  have hC : ∀ i, i < fr_n (po (y / 216)) + fr_n (ng (y / 216)) → (fr_C nb kd fl ck' cg' tc' tf' th' tp' (fr_val bp' bf' fl y) y i ↔ fr_C nb kd fl ck cg tc tf th tp (fr_val bp bf fl y) y i) := by
    intro i hi
    unfold fr_C
    rw [e4 _ (by omega), fr_np_c (cg := cg) (cg' := cg') i (fun j hj => e4 _ (by omega))]
    simp only [hT i hi]
  unfold fr_M fr_G fr_Gj
  rw [e1 _ hr, e2 _ hr]
  constructor
  · intro ⟨a, b⟩
    exact ⟨a, fun i hi => (hC i hi).mp (b i hi)⟩
  · intro ⟨a, b⟩
    exact ⟨a, fun i hi => (hC i hi).mpr (b i hi)⟩
/-! ===== the order of the agenda ===== -/
def fr_gv (nb po : Nat → Int32) (y j : Nat) : Nat := if fr_n (po (y / 216)) ≤ j then 0 else fr_n (nb (fr_dg y j))
def fr_rk (a b c j : Nat) : Nat :=
  if j = 0 then (if (if b < a then a else b) < c then c else (if b < a then a else b))
  else if j = 1 then (if (if b < a then a else b) < c then (if b < a then a else b) else if c < (if b < a then b else a) then (if b < a then b else a) else c)
  else (if c < (if b < a then b else a) then c else (if b < a then b else a))
def fr_gr (nb po : Nat → Int32) (y j : Nat) : Nat := fr_rk (fr_gv nb po y 0) (fr_gv nb po y 1) (fr_gv nb po y 2) j
def fr_tt (tc : Nat → Int32) (r : Nat) : Nat → Nat
  | 0 => 0
  | i + 1 => fr_tt tc r i + fr_n (tc (5 * r + i))
def fr_K (nb sa po ng tc : Nat → Int32) (y : Nat) : List Int :=
  [(sa (y / 216)).toInt, (fr_gr nb po y 0 : Int), (fr_gr nb po y 1 : Int), (fr_gr nb po y 2 : Int),
   (fr_tt tc (y / 216) (fr_n (po (y / 216)) + fr_n (ng (y / 216))) : Int), -((y / 216 : Nat) : Int),
   (fr_gv nb po y 0 : Int), (fr_gv nb po y 1 : Int), (fr_gv nb po y 2 : Int)]
def fr_B (nb sa po ng tc : Nat → Int32) (a b : Nat) : Prop := fr_lx (fr_K nb sa po ng tc a) (fr_K nb sa po ng tc b)
theorem fr_lx_ne {a b : Int} {s t : List Int} (h : a ≠ b) : fr_lx (a :: s) (b :: t) ↔ b < a :=
  ⟨fun k => k.elim id (fun k => absurd k.1 h), fun k => Or.inl k⟩
theorem fr_lx_eq {a b : Int} {s t : List Int} (h : a = b) : fr_lx (a :: s) (b :: t) ↔ fr_lx s t :=
  ⟨fun k => k.elim (fun k => by omega) (fun k => k.2), fun k => Or.inr ⟨h, k⟩⟩
theorem fr_B_tr {nb sa po ng tc : Nat → Int32} (a b c : Nat) (h : fr_B nb sa po ng tc a b) (k : fr_B nb sa po ng tc b c) : fr_B nb sa po ng tc a c := fr_lx_tr _ _ _ h k
theorem fr_B_as {nb sa po ng tc : Nat → Int32} (a b : Nat) (h : fr_B nb sa po ng tc a b) : ¬ fr_B nb sa po ng tc b a := fun k => fr_lx_ir _ (fr_lx_tr _ _ _ h k)
theorem fr_gv_inj {nb po : Nat → Int32} {y z j : Nat} (hb : ∀ f, f < 6 → nb f = nI (fr_n (nb f)))
    (hd : ∀ f g, f < 6 → g < 6 → nb f ≠ 0 → nb f = nb g → f = g) (hr : y / 216 = z / 216) (hj : j < 3)
    (gy : fr_G nb po y) (gz : fr_G nb po z) (e : fr_gv nb po y j = fr_gv nb po z j) : fr_dg y j = fr_dg z j := by
  have a := gy j hj
  have b := gz j hj
  unfold fr_Gj at a b
  unfold fr_gv at e
  rw [← hr] at e b
  by_cases h : fr_n (po (y / 216)) ≤ j
  · rw [a.2 h, b.2 h]
  · rw [if_neg h, if_neg h] at e
    refine hd _ _ (fr_dg_lt y j) (fr_dg_lt z j) (a.1 (by omega)) ?_
    rw [hb _ (fr_dg_lt y j), hb _ (fr_dg_lt z j), e]
theorem fr_K_inj {nb sa po ng tc : Nat → Int32} {y z : Nat} (hb : ∀ f, f < 6 → nb f = nI (fr_n (nb f)))
    (hd : ∀ f g, f < 6 → g < 6 → nb f ≠ 0 → nb f = nb g → f = g)
    (gy : fr_G nb po y) (gz : fr_G nb po z) (e : fr_K nb sa po ng tc y = fr_K nb sa po ng tc z) : y = z := by
  unfold fr_K at e
  simp only [List.cons.injEq, and_true] at e
  obtain ⟨_, _, _, _, _, e5, e6, e7, e8⟩ := e
  have hr : y / 216 = z / 216 := by omega
  exact fr_dg_ext hr (fr_gv_inj hb hd hr (by omega) gy gz (by omega)) (fr_gv_inj hb hd hr (by omega) gy gz (by omega)) (fr_gv_inj hb hd hr (by omega) gy gz (by omega))
theorem fr_K_len {nb sa po ng tc : Nat → Int32} (y : Nat) : (fr_K nb sa po ng tc y).length = 9 := rfl
theorem fr_B_to {nb sa po ng tc : Nat → Int32} {y z : Nat} (hb : ∀ f, f < 6 → nb f = nI (fr_n (nb f)))
    (hd : ∀ f g, f < 6 → g < 6 → nb f ≠ 0 → nb f = nb g → f = g)
    (gy : fr_G nb po y) (gz : fr_G nb po z) (h : y ≠ z) : fr_B nb sa po ng tc y z ∨ fr_B nb sa po ng tc z y :=
  fr_lx_to _ _ ((fr_K_len y).trans (fr_K_len z).symm) (fun e => h (fr_K_inj hb hd gy gz e))
theorem fr_tt_c {tc tc' : Nat → Int32} {r : Nat} : ∀ n, (∀ i, i < n → tc' (5 * r + i) = tc (5 * r + i)) → fr_tt tc' r n = fr_tt tc r n := by
  intro n
  induction n with
  | zero => intro _; rfl
  | succ n ih =>
    intro h
    show fr_tt tc' r n + fr_n (tc' (5 * r + n)) = fr_tt tc r n + fr_n (tc (5 * r + n))
    rw [ih (fun i hi => h i (by omega)), h n (by omega)]
theorem fr_tt_le {tc : Nat → Int32} {r : Nat} : ∀ n, (∀ i, i < n → fr_n (tc (5 * r + i)) ≤ 4) → fr_tt tc r n ≤ 4 * n := by
  intro n
  induction n with
  | zero => intro _; exact Nat.le_refl 0
  | succ n ih =>
    intro h
    show fr_tt tc r n + fr_n (tc (5 * r + n)) ≤ 4 * (n + 1)
    have := ih (fun i hi => h i (by omega))
    have := h n (by omega)
    omega
/-! ===== what a settling leaves ===== -/
def fr_St (fin : Nat) (M : Nat → Prop) (hd my hd' my' : Nat → Int32) : Prop :=
  ∀ y, y < 864 → (y < 216 * fin → hd' y = fr_b (M y) ∧ (M y → my' y = my y) ∧ (¬ M y → my' y = 0)) ∧
    (216 * fin ≤ y → hd' y = hd y ∧ my' y = my y)
/-- the flags: the component's ex, mx at the turned index, the reference's hd, my; settled as M says -/
def fr_FL (fin : Nat) (M : Nat → Prop) (ex mx hd my : Nat → Int32) : Prop :=
  ∀ y, y < 864 → ex (fr_sg y) = hd y ∧ mx (fr_sg y) = my y ∧ (y < 216 * fin → hd y = fr_b (M y) ∧ (¬ M y → my y = 0)) ∧ (216 * fin ≤ y → hd y = 0)
theorem fr_FL_c {fin : Nat} {M M' : Nat → Prop} {ex mx hd my : Nat → Int32} (h : fr_FL fin M ex mx hd my) (e : ∀ y, y < 216 * fin → (M' y ↔ M y)) : fr_FL fin M' ex mx hd my := by
  intro y hy
  obtain ⟨a, b, c, d⟩ := h y hy
  refine ⟨a, b, fun hf => ?_, d⟩
  rw [fr_bi (e y hf)]
  exact ⟨(c hf).1, fun hm => (c hf).2 (fun hm' => hm ((e y hf).mpr hm'))⟩
/-- both sides settle, after the facts or the number of finished rules changed -/
theorem fr_FL_2 {fin fin' : Nat} {M M' : Nat → Prop} {ex mx hd my ex' mx' hd' my' : Nat → Int32} (h : fr_FL fin M ex mx hd my) (hf : fin ≤ fin')
    (hx : fr_St fin' M' (fun y => ex (fr_sg y)) (fun y => mx (fr_sg y)) (fun y => ex' (fr_sg y)) (fun y => mx' (fr_sg y)))
    (hy : fr_St fin' M' hd my hd' my') : fr_FL fin' M' ex' mx' hd' my' := by
  intro y hy8
  obtain ⟨a, b, c, d⟩ := h y hy8
  have ⟨x1, x2⟩ := hx y hy8
  have ⟨y1, y2⟩ := hy y hy8
  by_cases hlt : y < 216 * fin'
  · have ⟨p1, p2, p3⟩ := x1 hlt
    have ⟨q1, q2, q3⟩ := y1 hlt
    refine ⟨p1.trans q1.symm, ?_, fun _ => ⟨q1, q3⟩, fun h => absurd hlt (by omega)⟩
    by_cases hm : M' y
    · exact (p2 hm).trans (b.trans (q2 hm).symm)
    · exact (p3 hm).trans (q3 hm).symm
  · have ⟨p1, p2⟩ := x2 (by omega)
    have ⟨q1, q2⟩ := y2 (by omega)
    exact ⟨p1.trans (a.trans q1.symm), p2.trans (b.trans q2.symm), fun h => absurd h hlt, fun _ => q1.trans (d (by omega))⟩
/-- the component alone settles, with nothing changed -/
theorem fr_FL_1 {fin : Nat} {M : Nat → Prop} {ex mx hd my ex' mx' : Nat → Int32} (h : fr_FL fin M ex mx hd my)
    (hx : fr_St fin M (fun y => ex (fr_sg y)) (fun y => mx (fr_sg y)) (fun y => ex' (fr_sg y)) (fun y => mx' (fr_sg y))) : fr_FL fin M ex' mx' hd my := by
  intro y hy8
  obtain ⟨a, b, c, d⟩ := h y hy8
  have ⟨x1, x2⟩ := hx y hy8
  by_cases hlt : y < 216 * fin
  · have ⟨p1, p2, p3⟩ := x1 hlt
    refine ⟨p1.trans (c hlt).1.symm, ?_, c, d⟩
    by_cases hm : M y
    · exact (p2 hm).trans b
    · exact (p3 hm).trans ((c hlt).2 hm).symm
  · have ⟨p1, p2⟩ := x2 (by omega)
    exact ⟨p1.trans a, p2.trans b, c, d⟩
/-- a waiting one is marked on both sides -/
theorem fr_FL_m {fin : Nat} {M : Nat → Prop} {ex mx hd my : Nat → Int32} {x : Nat} (h : fr_FL fin M ex mx hd my) (hx : x < 864) (he : hd (fr_sg x) ≠ 0) :
    fr_FL fin M ex (upd mx x 1) hd (upd my (fr_sg x) 1) := by
  intro y hy
  obtain ⟨a, b, c, d⟩ := h y hy
  by_cases e : y = fr_sg x
  · subst e
    refine ⟨a, ?_, fun hl => ⟨(c hl).1, fun hm => absurd ?_ he⟩, d⟩
    · rw [fr_sg_sg, pk_us, pk_us]
    · rw [(c hl).1, fr_bf hm]
  · have e2 : fr_sg y ≠ x := fun h => e (by rw [← h, fr_sg_sg])
    rw [pk_un e2, pk_un e]
    exact ⟨a, b, c, d⟩
theorem fr_lx_st {P : Int32 → Prop} {a b : Int} {s t : List Int} (h : P (fr_b (fr_lx (a :: s) (b :: t)))) : (a = b → P (fr_b (fr_lx s t))) ∧ (a ≠ b → P (fr_b (b < a))) :=
  ⟨fun e => by rw [← fr_bi (fr_lx_eq (s := s) (t := t) e)]; exact h, fun e => by rw [← fr_bi (fr_lx_ne (s := s) (t := t) e)]; exact h⟩
theorem fr_lx_nil {P : Int32 → Prop} (h : P (fr_b (fr_lx [] []))) : P 0 := by
  rw [fr_bf (p := fr_lx [] []) (fun k => (show False from k))] at h
  exact h
theorem fr_np_le (cg : Nat → Int32) (r : Nat) : ∀ i, fr_np cg r i ≤ i
  | 0 => Nat.le_refl 0
  | i + 1 => by
    have := fr_np_le cg r i
    show fr_np cg r i + (if cg (5 * r + i) = 0 then 1 else 0) ≤ i + 1
    split <;> omega
