section
theorem pk_us {f : Nat → Int32} {k : Nat} {x : Int32} : upd f k x k = x := if_pos rfl
theorem pk_un {f : Nat → Int32} {k j : Nat} {x : Int32} (h : j ≠ k) : upd f k x j = f j := if_neg h
theorem pk_sub {a b : Nat} (h : b ≤ a) : nI a - nI b = nI (a - b) := by
  obtain ⟨c, rfl⟩ : ∃ c, a = c + b := ⟨a - b, by omega⟩
  rw [← nI_add, Int32.add_sub_cancel, Nat.add_sub_cancel]
theorem pk_m1 (n : Nat) : nI (n + 1) + (-1) = nI n := by
  rw [← nI_1, Int32.add_assoc, show (1 : Int32) + (-1) = 0 from rfl, Int32.add_zero]
theorem pk_mul (a b : Nat) : nI a * nI b = nI (a * b) := (Int32.ofNat_mul a b).symm
theorem pk_div {a d : Nat} (ha : a < 2 ^ 31) (h0 : 0 < d) (hd : d < 2 ^ 31) : nI a / nI d = nI (a / d) := by
  apply Int32.toInt_inj.mp
  rw [lg_idiv_nonneg (by rw [nI_toInt ha]; omega) (by rw [nI_toInt hd]; omega), nI_toInt ha, nI_toInt hd, nI_toInt (Nat.lt_of_le_of_lt (Nat.div_le_self a d) ha)]
  first | rfl | exact (Int.natCast_ediv _ _).symm
theorem pk_rem {a d : Nat} (ha : a < 2 ^ 31) (h0 : 0 < d) (hd : d < 2 ^ 31) : nI a - nI a / nI d * nI d = nI (a % d) := by
  rw [pk_div ha h0 hd, pk_mul, pk_sub (Nat.div_mul_le_self a d)]
  exact congrArg nI (by have := Nat.div_add_mod' a d; omega)
theorem pk_ix (x : Int32) {n : Nat} (hn : n < 2 ^ 31) : x < 0 ∨ nI n ≤ x ∨ ∃ j : Nat, j < n ∧ x = nI j := by
  by_cases h : x < 0
  · exact Or.inl h
  · obtain ⟨j, hj, rfl⟩ := nI_of h
    by_cases h2 : j < n
    · exact Or.inr (Or.inr ⟨j, h2, rfl⟩)
    · exact Or.inr (Or.inl (nI_le (by omega) hj))
theorem pk_le {x y : Int32} {A B : Prop} (a b : Nat) (f : a ≤ b → A) (g : b < a → B) (hx : x = nI a := by rfl) (hy : y = nI b := by rfl) (ha : a < 2 ^ 31 := by omega) (hb : b < 2 ^ 31 := by omega) : (x ≤ y → A) ∧ (¬ x ≤ y → B) := by
  subst hx hy
  rw [nI_leI ha hb]
  exact ⟨f, fun z => g (by omega)⟩
theorem pk_lt {x y : Int32} {A B : Prop} (a b : Nat) (f : a < b → A) (g : b ≤ a → B) (hx : x = nI a := by rfl) (hy : y = nI b := by rfl) (ha : a < 2 ^ 31 := by omega) (hb : b < 2 ^ 31 := by omega) : (x < y → A) ∧ (¬ x < y → B) := by
  subst hx hy
  rw [nI_ltI ha hb]
  exact ⟨f, fun z => g (by omega)⟩
theorem pk_eq {x y : Int32} {A B : Prop} (a b : Nat) (f : a = b → A) (g : a ≠ b → B) (hx : x = nI a := by rfl) (hy : y = nI b := by rfl) (ha : a < 2 ^ 31 := by omega) (hb : b < 2 ^ 31 := by omega) : (x = y → A) ∧ (¬ x = y → B) := by
  subst hx hy
  rw [nI_eq ha hb]
  exact ⟨f, g⟩
theorem pk_in {x : Int32} (n N : Nat) (h : n < N) (hx : x = nI n := by rfl) (hN : N < 2 ^ 31 := by omega) : vp_in x N := by
  subst hx
  exact vp_in_nI h hN
theorem pk_cl {x : Int32} (n : Nat) (hx : x = nI n := by rfl) (h : n < 2 ^ 31 := by omega) : x.toNatClampNeg = n := by
  subst hx
  exact nI_clamp h
theorem pk_tn {n : Nat} (h : n < 2 ^ 32) : (nI n).toBitVec.toNat = n := Nat.mod_eq_of_lt h
theorem pk_and (x : Int32) {m : Int32} (k : Nat) (hm : m.toBitVec.toNat = 2 ^ k - 1) : x &&& m = nI (x.toBitVec.toNat % 2 ^ k) := by
  apply Int32.toBitVec_inj.mp
  apply BitVec.eq_of_toNat_eq
  rw [Int32.toBitVec_and, BitVec.toNat_and, hm, Nat.and_two_pow_sub_one_eq_mod]
  show _ = (BitVec.ofNat 32 _).toNat
  rw [BitVec.toNat_ofNat]
  exact (Nat.mod_eq_of_lt (Nat.lt_of_le_of_lt (Nat.mod_le _ _) x.toBitVec.isLt)).symm
theorem pk_andN {n : Nat} (h : n < 2 ^ 32) {m : Int32} (k : Nat) (hm : m.toBitVec.toNat = 2 ^ k - 1) : nI n &&& m = nI (n % 2 ^ k) := by
  rw [pk_and _ k hm, pk_tn h]
theorem pk_andE (x : Int32) {m : Int32} (k : Nat) (hm : m.toBitVec.toNat = 2 ^ k - 1) : ∃ j : Nat, j < 2 ^ k ∧ x &&& m = nI j := ⟨_, Nat.mod_lt _ (Nat.two_pow_pos k), pk_and x k hm⟩
theorem pk_andIn (x : Int32) {m : Int32} (k : Nat) (hm : m.toBitVec.toNat = 2 ^ k - 1) (hk : k ≤ 30) : vp_in (x &&& m) (2 ^ k) := by
  obtain ⟨j, hj, e⟩ := pk_andE x k hm
  rw [e]
  exact vp_in_nI hj (Nat.lt_of_le_of_lt (Nat.pow_le_pow_right (by decide) hk) (by decide))
theorem pk_shl (a s : Int32) (k : Nat) (hs : (s.toBitVec.smod 32).toNat = k) : (a <<< s).toBitVec.toNat = a.toBitVec.toNat * 2 ^ k % 2 ^ 32 := by
  show (a.toBitVec <<< (s.toBitVec.smod 32).toNat).toNat = _
  rw [hs, BitVec.toNat_shiftLeft, Nat.shiftLeft_eq]
theorem pk_shlN {n : Nat} (s : Int32) (k : Nat) (hs : (s.toBitVec.smod 32).toNat = k) (h : n * 2 ^ k < 2 ^ 32) : nI n <<< s = nI (n * 2 ^ k) := by
  apply Int32.toBitVec_inj.mp
  apply BitVec.eq_of_toNat_eq
  have hn : n < 2 ^ 32 := Nat.lt_of_le_of_lt (Nat.le_mul_of_pos_right n (Nat.two_pow_pos k)) h
  rw [pk_shl _ _ k hs, pk_tn hn, pk_tn h, Nat.mod_eq_of_lt h]
theorem pk_shr (a s : Int32) (k : Nat) (hs : (s.toBitVec.smod 32).toNat = k) : (a >>> s).toInt = a.toInt >>> k := by
  show (a.toBitVec.sshiftRight (s.toBitVec.smod 32).toNat).toInt = _
  rw [hs, BitVec.toInt_sshiftRight]
  rfl
theorem pk_shrN {n : Nat} (h : n < 2 ^ 31) (s : Int32) (k : Nat) (hs : (s.toBitVec.smod 32).toNat = k) : nI n >>> s = nI (n / 2 ^ k) := by
  apply Int32.toInt_inj.mp
  have h2 : n / 2 ^ k ≤ n := Nat.div_le_self _ _
  rw [pk_shr _ _ k hs, nI_toInt h, nI_toInt (by omega), Int.shiftRight_eq_div_pow]
  rfl
theorem pk_loop {σ : Type} (W : Nat → Nat → σ → Prop) (I : Nat → σ → Prop) (e i0 : Nat) (s : σ) (hi : i0 ≤ e) (h0 : I i0 s) (hx : ∀ n s, I e s → W (n + 1) e s)
    (hs : ∀ n i s, i < e → I i s → (∀ s', I (i + 1) s' → W n (i + 1) s') → W (n + 1) i s) : ∃ n, W n i0 s :=
  ⟨e + 1, loop_i W I e hx hs (e + 1) i0 s hi (by omega) h0⟩
/-! ===== flags, scans ===== -/
noncomputable def fr_b (p : Prop) : Int32 := @ite Int32 p (Classical.propDecidable p) 1 0
theorem fr_bt {p : Prop} (h : p) : fr_b p = 1 := by unfold fr_b; exact if_pos h
theorem fr_bf {p : Prop} (h : ¬ p) : fr_b p = 0 := by unfold fr_b; exact if_neg h
theorem fr_bi {p q : Prop} (h : p ↔ q) : fr_b p = fr_b q := congrArg fr_b (propext h)
theorem fr_b0 {p : Prop} : fr_b p = 0 ↔ ¬ p := by
  by_cases h : p
  · rw [fr_bt h]; exact ⟨fun e => absurd e (by decide), fun e => absurd h e⟩
  · rw [fr_bf h]; exact ⟨fun _ => h, fun _ => rfl⟩
theorem fr_b01 (p : Prop) : fr_b p = 0 ∨ fr_b p = 1 := by
  by_cases h : p
  · exact Or.inr (fr_bt h)
  · exact Or.inl (fr_bf h)
theorem fr_bn (p : Prop) : narrow .boolean (.int (fr_b p)) = .int (fr_b p) := by
  rcases fr_b01 p with h | h <;> rw [h] <;> rfl
theorem fr_bv (p : Prop) : vp_nar .boolean (fr_b p) = fr_b p := by
  unfold vp_nar; rw [fr_bn]
theorem fr_n8 {x : Nat} (h : x < 128) : vp_nar .byte (nI x) = nI x := by
  rw [vp_nar_byte]
  exact (by decide +kernel : ∀ x, x < 128 → (nI x).toInt8.toInt32 = nI x) x h
theorem fr_all (W : Nat → Nat → Prop) (C : Nat → Prop) (P : Int32 → Prop) (e : Nat)
    (hx : P 1 → ∀ n, W (n + 1) e) (hf : ∀ n i, i < e → ¬ C i → P 0 → W (n + 1) i)
    (hs : ∀ n i, i < e → C i → W n (i + 1) → W (n + 1) i)
    (h : P (fr_b (∀ i, i < e → C i))) : W (e + 1) 0 := by
  have key : ∀ d i, i + d = e → P (fr_b (∀ j, i ≤ j → j < e → C j)) → W (d + 1) i := by
    intro d
    induction d with
    | zero =>
      intro i hi hp
      rw [fr_bt (fun j h1 h2 => by omega)] at hp
      have : i = e := by omega
      rw [this]
      exact hx hp 0
    | succ d ih =>
      intro i hi hp
      by_cases hc : C i
      · refine hs (d + 1) i (by omega) hc (ih (i + 1) (by omega) ?_)
        rw [fr_bi (q := ∀ j, i + 1 ≤ j → j < e → C j)] at hp
        · exact hp
        · constructor
          · intro H j h1 h2
            exact H j (by omega) h2
          · intro H j h1 h2
            by_cases hj : j = i
            · rw [hj]; exact hc
            · exact H j (by omega) h2
      · refine hf (d + 1) i (by omega) hc ?_
        rw [fr_bf (fun H => hc (H i (Nat.le_refl i) (by omega)))] at hp
        exact hp
  refine key e 0 (by omega) ?_
  rw [fr_bi (q := ∀ i, i < e → C i)]
  · exact h
  · exact ⟨fun H j h2 => H j (Nat.zero_le j) h2, fun H j _ h2 => H j h2⟩
theorem fr_any (W : Nat → Nat → Prop) (C : Nat → Prop) (P : Int32 → Prop) (e : Nat)
    (hx : P 0 → ∀ n, W (n + 1) e) (hf : ∀ n i, i < e → C i → P 1 → W (n + 1) i)
    (hs : ∀ n i, i < e → ¬ C i → W n (i + 1) → W (n + 1) i)
    (h : P (fr_b (∃ i, i < e ∧ C i))) : W (e + 1) 0 := by
  have key : ∀ d i, i + d = e → P (fr_b (∃ j, i ≤ j ∧ j < e ∧ C j)) → W (d + 1) i := by
    intro d
    induction d with
    | zero =>
      intro i hi hp
      rw [fr_bf (fun ⟨j, h1, h2, _⟩ => by omega)] at hp
      have : i = e := by omega
      rw [this]
      exact hx hp 0
    | succ d ih =>
      intro i hi hp
      by_cases hc : C i
      · refine hf (d + 1) i (by omega) hc ?_
        rw [fr_bt ⟨i, Nat.le_refl i, by omega, hc⟩] at hp
        exact hp
      · refine hs (d + 1) i (by omega) hc (ih (i + 1) (by omega) ?_)
        rw [fr_bi (q := ∃ j, i + 1 ≤ j ∧ j < e ∧ C j)] at hp
        · exact hp
        · constructor
          · intro ⟨j, h1, h2, h3⟩
            refine ⟨j, ?_, h2, h3⟩
            by_cases hj : j = i
            · rw [hj] at h3; exact absurd h3 hc
            · omega
          · intro ⟨j, h1, h2, h3⟩
            exact ⟨j, by omega, h2, h3⟩
  refine key e 0 (by omega) ?_
  rw [fr_bi (q := ∃ i, i < e ∧ C i)]
  · exact h
  · exact ⟨fun ⟨j, _, h2, h3⟩ => ⟨j, h2, h3⟩, fun ⟨j, h2, h3⟩ => ⟨j, Nat.zero_le j, h2, h3⟩⟩
theorem fr_allS {σ : Type} (W : Nat → Nat → σ → Prop) (I : Nat → σ → Prop) (C : Nat → Prop) (P : Int32 → σ → Prop) (e : Nat)
    (hx : ∀ n s, I e s → P 1 s → W (n + 1) e s)
    (hf : ∀ n i s, i < e → I i s → ¬ C i → (∀ s', P 0 s') → W (n + 1) i s)
    (hs : ∀ n i s, i < e → I i s → C i → (∀ s', I (i + 1) s' → W n (i + 1) s') → W (n + 1) i s)
    (h1 : (∀ i, i < e → C i) → ∀ s, I e s → P 1 s) (h0 : ¬ (∀ i, i < e → C i) → ∀ s, P 0 s)
    (s : σ) (hI : I 0 s) : W (e + 1) 0 s := by
  have key : ∀ d i s, i + d = e → (∀ j, j < i → C j) → I i s → W (d + 1) i s := by
    intro d
    induction d with
    | zero =>
      intro i s hi hc hI
      have : i = e := by omega
      subst this
      exact hx 0 s hI (h1 hc s hI)
    | succ d ih =>
      intro i s hi hc hI
      by_cases hci : C i
      · refine hs (d + 1) i s (by omega) hI hci (fun s' h' => ih (i + 1) s' (by omega) ?_ h')
        intro j hj
        by_cases e1 : j = i
        · rw [e1]; exact hci
        · exact hc j (by omega)
      · exact hf (d + 1) i s (by omega) hI hci (fun s' => h0 (fun H => hci (H i (by omega))) s')
  exact key e 0 s (by omega) (fun j hj => absurd hj (Nat.not_lt_zero j)) hI
/-! a loop that never leaves early, its state carried by an invariant -/
theorem fr_run {σ : Type} (W : Nat → Nat → σ → Prop) (I : Nat → σ → Prop) (e : Nat)
    (hx : ∀ n s, I e s → W (n + 1) e s)
    (hs : ∀ n i s, i < e → I i s → (∀ s', I (i + 1) s' → W n (i + 1) s') → W (n + 1) i s)
    (s : σ) (hI : I 0 s) : W (e + 1) 0 s := loop_i W I e hx hs (e + 1) 0 s (by omega) (by omega) hI
/-! ===== digits ===== -/
def fr_dg (y j : Nat) : Nat := if j = 0 then y / 36 % 6 else if j = 1 then y / 6 % 6 else y % 6
def fr_sg (x : Nat) : Nat := 216 * (x / 216) + 36 * (x % 6) + 6 * (x / 6 % 6) + x / 36 % 6
theorem fr_dg0 (y : Nat) : fr_dg y 0 = y / 36 % 6 := rfl
theorem fr_dg1 (y : Nat) : fr_dg y 1 = y / 6 % 6 := rfl
theorem fr_dg2 (y : Nat) : fr_dg y 2 = y % 6 := rfl
theorem fr_dg_lt (y j : Nat) : fr_dg y j < 6 := by
  unfold fr_dg
  split
  · omega
  · split <;> omega
theorem fr_dec (x : Nat) : x = 216 * (x / 216) + 36 * (x / 36 % 6) + 6 * (x / 6 % 6) + x % 6 := by omega
theorem fr_dgs {r a b c : Nat} (ha : a < 6) (hb : b < 6) (hc : c < 6) : (216 * r + 36 * a + 6 * b + c) / 216 = r ∧ (216 * r + 36 * a + 6 * b + c) / 36 % 6 = a ∧ (216 * r + 36 * a + 6 * b + c) / 6 % 6 = b ∧ (216 * r + 36 * a + 6 * b + c) % 6 = c := by
  refine ⟨by omega, by omega, by omega, by omega⟩
theorem fr_sgd (x : Nat) : fr_sg x / 216 = x / 216 ∧ fr_sg x / 36 % 6 = x % 6 ∧ fr_sg x / 6 % 6 = x / 6 % 6 ∧ fr_sg x % 6 = x / 36 % 6 :=
  fr_dgs (r := x / 216) (a := x % 6) (b := x / 6 % 6) (c := x / 36 % 6) (by omega) (by omega) (by omega)
theorem fr_sg_r (x : Nat) : fr_sg x / 216 = x / 216 := (fr_sgd x).1
theorem fr_sg_0 (x : Nat) : fr_dg (fr_sg x) 0 = x % 6 := (fr_sgd x).2.1
theorem fr_sg_1 (x : Nat) : fr_dg (fr_sg x) 1 = x / 6 % 6 := (fr_sgd x).2.2.1
theorem fr_sg_2 (x : Nat) : fr_dg (fr_sg x) 2 = x / 36 % 6 := (fr_sgd x).2.2.2
theorem fr_sg_sg (x : Nat) : fr_sg (fr_sg x) = x := by
  have ⟨h0, h1, h2, h3⟩ := fr_sgd x
  show 216 * (fr_sg x / 216) + 36 * (fr_sg x % 6) + 6 * (fr_sg x / 6 % 6) + fr_sg x / 36 % 6 = x
  rw [h0, h1, h2, h3]
  exact (fr_dec x).symm
theorem fr_sg_lt {x n : Nat} (h : x < 216 * n) : fr_sg x < 216 * n := by
  unfold fr_sg; omega
theorem fr_sg_lti {x n : Nat} : fr_sg x < 216 * n ↔ x < 216 * n :=
  ⟨fun h => by have := fr_sg_lt h; rwa [fr_sg_sg] at this, fr_sg_lt⟩
theorem fr_sg_864 {x : Nat} (h : x < 864) : fr_sg x < 864 := fr_sg_lt (n := 4) h
theorem fr_sg_m (x : Nat) : fr_sg x = 216 * (x / 216) + fr_sg (x % 216) := by
  unfold fr_sg; omega
theorem fr_sg_mdg (x j : Nat) : fr_dg (fr_sg (x % 216)) j = fr_dg (fr_sg x) j := by
  have q1 : x % 216 % 6 = x % 6 := by omega
  have q2 : x % 216 / 6 % 6 = x / 6 % 6 := by omega
  have q3 : x % 216 / 36 % 6 = x / 36 % 6 := by omega
  unfold fr_dg
  have ⟨_, a1, a2, a3⟩ := fr_sgd x
  have ⟨_, b1, b2, b3⟩ := fr_sgd (x % 216)
  rw [a1, a2, a3, b1, b2, b3, q1, q2, q3]
theorem fr_dg_ext {y z : Nat} (hr : y / 216 = z / 216) (h0 : fr_dg y 0 = fr_dg z 0) (h1 : fr_dg y 1 = fr_dg z 1) (h2 : fr_dg y 2 = fr_dg z 2) : y = z := by
  rw [fr_dg0, fr_dg0] at h0
  rw [fr_dg1, fr_dg1] at h1
  rw [fr_dg2, fr_dg2] at h2
  rw [fr_dec y, fr_dec z, hr, h0, h1, h2]
/-! ===== counting ===== -/
def fr_ct (f : Nat → Bool) : Nat → Nat
  | 0 => 0
  | n + 1 => fr_ct f n + (f n).toNat
theorem fr_ct_l (f : Nat → Bool) (n : Nat) : fr_ct f n = (List.range n).countP f := by
  induction n with
  | zero => rfl
  | succ n ih =>
    rw [List.range_succ, List.countP_append, ← ih]
    show fr_ct f n + (f n).toNat = _
    cases h : f n <;> simp [List.countP_cons, h]
theorem fr_ct_le (f : Nat → Bool) (n : Nat) : fr_ct f n ≤ n := by
  induction n with
  | zero => exact Nat.le_refl 0
  | succ n ih =>
    show fr_ct f n + (f n).toNat ≤ n + 1
    cases f n <;> simp <;> omega
theorem fr_ct_c {f g : Nat → Bool} {n : Nat} (h : ∀ i, i < n → f i = g i) : fr_ct f n = fr_ct g n := by
  induction n with
  | zero => rfl
  | succ n ih =>
    show fr_ct f n + (f n).toNat = fr_ct g n + (g n).toNat
    rw [ih (fun i hi => h i (by omega)), h n (by omega)]
theorem fr_perm : List.Perm ((List.range 864).map fr_sg) (List.range 864) := by decide +kernel
theorem fr_ct_sg (f : Nat → Bool) : fr_ct (fun x => f (fr_sg x)) 864 = fr_ct f 864 := by
  rw [fr_ct_l, fr_ct_l, ← List.Perm.countP_eq f fr_perm, List.countP_map]
  rfl
/-! ===== a strict order on lists, greater first ===== -/
def fr_lx : List Int → List Int → Prop
  | [], _ => False
  | _ :: _, [] => False
  | a :: s, b :: t => b < a ∨ (a = b ∧ fr_lx s t)
theorem fr_lx_ir : ∀ s : List Int, ¬ fr_lx s s
  | [] => fun h => h
  | a :: s => fun h => by
    rcases h with h | ⟨_, h⟩
    · omega
    · exact fr_lx_ir s h
theorem fr_lx_tr : ∀ s t u : List Int, fr_lx s t → fr_lx t u → fr_lx s u
  | [], _, _ => fun h => h.elim
  | _ :: _, [], _ => fun h => h.elim
  | _ :: _, _ :: _, [] => fun _ h => h.elim
  | a :: s, b :: t, c :: u => fun h k => by
    rcases h with h | ⟨h, h'⟩
    · rcases k with k | ⟨k, _⟩
      · exact Or.inl (by omega)
      · exact Or.inl (by omega)
    · rcases k with k | ⟨k, k'⟩
      · exact Or.inl (by omega)
      · exact Or.inr ⟨by omega, fr_lx_tr s t u h' k'⟩
theorem fr_lx_to : ∀ s t : List Int, s.length = t.length → s ≠ t → fr_lx s t ∨ fr_lx t s
  | [], [] => fun _ h => absurd rfl h
  | [], _ :: _ => fun h => by simp at h
  | _ :: _, [] => fun h => by simp at h
  | a :: s, b :: t => fun hl hn => by
    by_cases e : a = b
    · have hn' : s ≠ t := fun h => hn (by rw [e, h])
      have hl' : s.length = t.length := by simpa using hl
      rcases fr_lx_to s t hl' hn' with h | h
      · exact Or.inl (Or.inr ⟨e, h⟩)
      · exact Or.inr (Or.inr ⟨e.symm, h⟩)
    · by_cases l : b < a
      · exact Or.inl (Or.inl l)
      · exact Or.inr (Or.inl (by omega))
/-! ===== the first one of those that a predicate names ===== -/
def fr_Nx (B : Nat → Nat → Prop) (P : Nat → Prop) (n : Nat) (r : Int32) : Prop :=
  (r = -1 ∧ ∀ c, c < n → ¬ P c) ∨ ∃ c, c < n ∧ r = nI c ∧ P c ∧ ∀ d, d < n → P d → d ≠ c → B c d
theorem fr_Nx_0 (B : Nat → Nat → Prop) (P : Nat → Prop) : fr_Nx B P 0 (-1) := Or.inl ⟨rfl, fun c h => absurd h (Nat.not_lt_zero c)⟩
theorem fr_Nx_no {B : Nat → Nat → Prop} {P : Nat → Prop} {n : Nat} {r : Int32} (h : fr_Nx B P n r) (hn : ¬ P n) : fr_Nx B P (n + 1) r := by
  rcases h with ⟨e, h⟩ | ⟨c, hc, e, hp, h⟩
  · refine Or.inl ⟨e, fun c hc => ?_⟩
    by_cases e1 : c = n
    · rw [e1]; exact hn
    · exact h c (by omega)
  · refine Or.inr ⟨c, by omega, e, hp, fun d hd hpd hne => ?_⟩
    by_cases e1 : d = n
    · rw [e1] at hpd; exact absurd hpd hn
    · exact h d (by omega) hpd hne
theorem fr_Nx_new {B : Nat → Nat → Prop} {P : Nat → Prop} {n : Nat} (h : fr_Nx B P n (-1)) (hn31 : n < 2 ^ 31) (hn : P n) : fr_Nx B P (n + 1) (nI n) := by
  rcases h with ⟨_, h⟩ | ⟨c, hc, e, _, _⟩
  · refine Or.inr ⟨n, by omega, rfl, hn, fun d hd hpd hne => absurd hpd (h d (by omega))⟩
  · have h1 := nI_pos (n := c) (by omega)
    rw [← e] at h1
    exact absurd (by decide) h1
theorem fr_Nx_less {B : Nat → Nat → Prop} {P : Nat → Prop} {n c : Nat} (tr : ∀ a b d, B a b → B b d → B a d) (hc31 : c < 2 ^ 31) (hn31 : n < 2 ^ 31) (h : fr_Nx B P n (nI c)) (hn : P n) (hb : B n c) : fr_Nx B P (n + 1) (nI n) := by
  rcases h with ⟨e, _⟩ | ⟨c', hc, e, _, h⟩
  · have h1 := nI_pos (n := c) hc31
    rw [e] at h1
    exact absurd (by decide) h1
  · have : c = c' := (nI_eq hc31 (by omega)).mp e
    subst this
    refine Or.inr ⟨n, by omega, rfl, hn, fun d hd hpd hne => ?_⟩
    by_cases e1 : d = c
    · rw [e1]; exact hb
    · exact tr _ _ _ hb (h d (by omega) hpd e1)
theorem fr_Nx_keep {B : Nat → Nat → Prop} {P : Nat → Prop} {n c : Nat} (to : ∀ a b, a < n + 1 → b < n + 1 → P a → P b → a ≠ b → B a b ∨ B b a) (hc31 : c < 2 ^ 31) (hn31 : n < 2 ^ 31) (h : fr_Nx B P n (nI c)) (hn : P n) (hb : ¬ B n c) : fr_Nx B P (n + 1) (nI c) := by
  rcases h with ⟨e, _⟩ | ⟨c', hc, e, hp, h⟩
  · have h1 := nI_pos (n := c) hc31
    rw [e] at h1
    exact absurd (by decide) h1
  · have : c = c' := (nI_eq hc31 (by omega)).mp e
    subst this
    refine Or.inr ⟨c, by omega, rfl, hp, fun d hd hpd hne => ?_⟩
    by_cases e1 : d = n
    · rw [e1]
      rcases to n c (by omega) (by omega) hn hp (by omega) with h1 | h1
      · exact absurd h1 hb
      · exact h1
    · exact h d (by omega) hpd hne
theorem fr_Nx_in {B : Nat → Nat → Prop} {P : Nat → Prop} {n : Nat} {r : Int32} (h : fr_Nx B P n r) : r = -1 ∨ ∃ c, c < n ∧ r = nI c ∧ P c := by
  rcases h with ⟨e, _⟩ | ⟨c, hc, e, hp, _⟩
  · exact Or.inl e
  · exact Or.inr ⟨c, hc, e, hp⟩
theorem fr_Nx_sg {B : Nat → Nat → Prop} {P : Nat → Prop} (as : ∀ a b, B a b → ¬ B b a) {r q : Int32}
    (hr : fr_Nx (fun a b => B (fr_sg a) (fr_sg b)) (fun a => P (fr_sg a)) 864 r) (hq : fr_Nx B P 864 q) :
    (r = -1 ∧ q = -1) ∨ ∃ c, c < 864 ∧ r = nI c ∧ q = nI (fr_sg c) ∧ P (fr_sg c) := by
  rcases hr with ⟨er, hr⟩ | ⟨c, hc, er, hp, hr⟩
  · rcases hq with ⟨eq, hq⟩ | ⟨d, hd, eq, hp, hq⟩
    · exact Or.inl ⟨er, eq⟩
    · have h1 : ¬ P (fr_sg (fr_sg d)) := hr (fr_sg d) (fr_sg_864 hd)
      rw [fr_sg_sg] at h1
      exact absurd hp h1
  · rcases hq with ⟨eq, hq⟩ | ⟨d, hd, eq, hpd, hq⟩
    · exact absurd hp (hq (fr_sg c) (fr_sg_864 hc))
    · refine Or.inr ⟨c, hc, er, ?_, hp⟩
      by_cases e1 : d = fr_sg c
      · rw [eq, e1]
      · have h1 := hq (fr_sg c) (fr_sg_864 hc) hp (fun h => e1 h.symm)
        have hpd' : P (fr_sg (fr_sg d)) := by rw [fr_sg_sg]; exact hpd
        have h2 : B (fr_sg c) (fr_sg (fr_sg d)) := hr (fr_sg d) (fr_sg_864 hd) hpd' (fun h => e1 (by rw [← h, fr_sg_sg]))
        rw [fr_sg_sg] at h2
        exact absurd h1 (as _ _ h2)
/-! ===== reading and storing ===== -/
abbrev fr_n (x : Int32) : Nat := x.toNatClampNeg
theorem fr_nn {n : Nat} (h : n < 2 ^ 31 := by omega) : fr_n (nI n) = n := nI_clamp h
theorem fr_ne {x : Int32} {n : Nat} (e : x = nI n) (h : n < 2 ^ 31 := by omega) : fr_n x = n := by rw [e]; exact nI_clamp h
theorem fr_rd {a : Nat → Int32} {x y : Int32} {i : Nat} (hx : x = nI i) (h : a i = y) (hi : i < 2 ^ 31 := by omega) : a x.toNatClampNeg = y := by
  rw [hx, nI_clamp hi, h]
/-- the value is a number below b -/
def fr_Lt (x : Int32) (b : Nat) : Prop := fr_n x < b ∧ x = nI (fr_n x)
theorem fr_Lt_of {x : Int32} {b n : Nat} (e : x = nI n) (h : n < b) (hb : b ≤ 2 ^ 31) : fr_Lt x b := by
  have : fr_n x = n := fr_ne e (by omega)
  unfold fr_Lt
  rw [this]
  exact ⟨h, e⟩
theorem fr_Lt_n {b n : Nat} (h : n < b) (hb : b ≤ 2 ^ 31) : fr_Lt (nI n) b := fr_Lt_of rfl h hb
theorem fr_Lt_0 {b : Nat} (h : 0 < b) (hb : b ≤ 2 ^ 31) : fr_Lt 0 b := fr_Lt_of (n := 0) rfl h hb
theorem fr_Lt_ex {x : Int32} {b : Nat} (h : fr_Lt x b) : ∃ n, n < b ∧ x = nI n ∧ fr_n x = n := ⟨fr_n x, h.1, h.2, rfl⟩
theorem fr_us {a : Nat → Int32} {k : Nat} {x : Int32} (h : a k = x) : upd a k x = a := by
  funext j
  by_cases e : j = k
  · rw [e, pk_us, h]
  · rw [pk_un e]
theorem fr_upto (W : Nat → Nat → Prop) (f : Nat) (hx : ∀ n, W (n + 1) f) (hs : ∀ n i, i < f → W n (i + 1) → W (n + 1) i) : W (f + 1) 0 :=
  loop_i (σ := Unit) (fun n i _ => W n i) (fun _ _ => True) f (fun n _ _ => hx n) (fun n i _ hi _ hk => hs n i hi (hk () trivial)) (f + 1) 0 () (by omega) (by omega) trivial
theorem fr_fst (P : Nat → Prop) (n : Nat) : (∃ f, f < n ∧ P f ∧ ∀ g, g < f → ¬ P g) ∨ ∀ f, f < n → ¬ P f := by
  induction n with
  | zero => exact Or.inr (fun f h => absurd h (Nat.not_lt_zero f))
  | succ n ih =>
    rcases ih with ⟨f, h1, h2, h3⟩ | h
    · exact Or.inl ⟨f, by omega, h2, h3⟩
    · by_cases hp : P n
      · exact Or.inl ⟨n, by omega, hp, h⟩
      · refine Or.inr (fun f hf => ?_)
        by_cases e : f = n
        · rw [e]; exact hp
        · exact h f (by omega)
theorem fr_ct_on {g g' : Nat → Bool} {k : Nat} (hk : g k = false) (hk' : g' k = true) (ho : ∀ j, j ≠ k → g' j = g j) : ∀ n, k < n → fr_ct g' n = fr_ct g n + 1 := by
  intro n
  induction n with
  | zero => intro h; exact absurd h (Nat.not_lt_zero k)
  | succ n ih =>
    intro h
    show fr_ct g' n + (g' n).toNat = fr_ct g n + (g n).toNat + 1
    by_cases e : n = k
    · subst e
      rw [fr_ct_c (f := g') (g := g) (fun i hi => ho i (by omega)), hk, hk']
      rfl
    · rw [ih (by omega), ho n e]
      omega
/-! loops that end in some state, whatever is asked behind them -/
theorem fr_exl {σ Q : Type} (W : Q → Nat → Nat → σ → Prop) (I : Nat → σ → Prop) (e : Nat)
    (hs : ∀ i s, i < e → I i s → ∃ s', I (i + 1) s' ∧ ∀ P n, W P n (i + 1) s' → W P (n + 1) i s) :
    ∀ s, I 0 s → ∃ s', I e s' ∧ ∀ P n, W P n e s' → W P (n + e) 0 s := by
  have key : ∀ d i s, i + d = e → I i s → ∃ s', I e s' ∧ ∀ P n, W P n e s' → W P (n + d) i s := by
    intro d
    induction d with
    | zero =>
      intro i s h hI
      have : i = e := by omega
      subst this
      exact ⟨s, hI, fun P n h => h⟩
    | succ d ih =>
      intro i s h hI
      obtain ⟨s1, h1, h2⟩ := hs i s (by omega) hI
      obtain ⟨s2, h3, h4⟩ := ih (i + 1) s1 (by omega) h1
      exact ⟨s2, h3, fun P n h => h2 P (n + d) (h4 P n h)⟩
  intro s hI
  exact key e 0 s (by omega) hI
theorem fr_exr {σ Q ρ : Type} (W : Q → Nat → Nat → σ → Prop) (I : Nat → σ → Prop) (F : Q → ρ → Prop) (G : ρ → Prop) (e : Nat)
    (hs : ∀ i s, i < e → I i s → (∃ s', I (i + 1) s' ∧ ∀ P n, W P n (i + 1) s' → W P (n + 1) i s) ∨ (∃ q, G q ∧ ∀ P n, F P q → W P (n + 1) i s)) :
    ∀ s, I 0 s → (∃ s', I e s' ∧ ∀ P n, W P n e s' → W P (n + e) 0 s) ∨ (∃ q, G q ∧ ∀ P n, F P q → W P (n + e) 0 s) := by
  have key : ∀ d i s, i + d = e → I i s → (∃ s', I e s' ∧ ∀ P n, W P n e s' → W P (n + d) i s) ∨ (∃ q, G q ∧ ∀ P n, F P q → W P (n + d) i s) := by
    intro d
    induction d with
    | zero =>
      intro i s h hI
      have : i = e := by omega
      subst this
      exact Or.inl ⟨s, hI, fun P n h => h⟩
    | succ d ih =>
      intro i s h hI
      rcases hs i s (by omega) hI with ⟨s1, h1, h2⟩ | ⟨q, hG, h2⟩
      · rcases ih (i + 1) s1 (by omega) h1 with ⟨s2, h3, h4⟩ | ⟨q, h3, h4⟩
        · exact Or.inl ⟨s2, h3, fun P n h => h2 P (n + d) (h4 P n h)⟩
        · exact Or.inr ⟨q, h3, fun P n h => h2 P (n + d) (h4 P n h)⟩
      · exact Or.inr ⟨q, hG, fun P n h => h2 P (n + d) h⟩
  intro s hI
  exact key e 0 s (by omega) hI
theorem fr_Nx_c {B : Nat → Nat → Prop} {P P' : Nat → Prop} {n : Nat} {r : Int32} (h : fr_Nx B P n r) (e : ∀ c, c < n → (P c ↔ P' c)) : fr_Nx B P' n r := by
  rcases h with ⟨e1, h⟩ | ⟨c, hc, e1, hp, h⟩
  · exact Or.inl ⟨e1, fun c hc k => h c hc ((e c hc).mpr k)⟩
  · exact Or.inr ⟨c, hc, e1, (e c hc).mp hp, fun d hd hpd hne => h d hd ((e d hd).mpr hpd) hne⟩
theorem fr_m1 {n : Nat} (h : n < 2 ^ 31) : nI n ≠ -1 := fun e => by
  have h1 := nI_pos h
  rw [e] at h1
  exact absurd (by decide) h1
end
section
/-! ===== what an instantiation is: facts nb kd fl, rules po ng ck cg tc tf th tp bp bf, a choice y ===== -/
def fr_np (cg : Nat → Int32) (r : Nat) : Nat → Nat
  | 0 => 0
  | i + 1 => fr_np cg r i + (if cg (5 * r + i) = 0 then 1 else 0)
def fr_val (bp bf fl : Nat → Int32) (y x : Nat) : Int32 :=
  fl (3 * fr_dg y (fr_n (bp (4 * (y / 216) + x))) + fr_n (bf (4 * (y / 216) + x)))
def fr_ov (w : Nat → Int32) (o : Int32) : Int32 :=
  if o &&& 1 = 0 then o >>> ((1 : Int32) &&& 31) else w (fr_n ((o >>> ((1 : Int32) &&& 31)) &&& 3))
def fr_cp (l h r : Int32) : Prop := (h = 0 → l = r) ∧ (h = 1 → l ≠ r) ∧ (h ≠ 0 → h ≠ 1 → l < r)
def fr_Ti (fl tf th tp w : Nat → Int32) (q f i : Nat) : Prop :=
  th (4 * q + i) ≠ 3 → fr_cp (fl (3 * f + fr_n (tf (4 * q + i)))) (th (4 * q + i)) (fr_ov w (tp (4 * q + i)))
def fr_T (kd fl ck tc tf th tp w : Nat → Int32) (q f : Nat) : Prop :=
  kd f = ck q ∧ ∀ i, i < fr_n (tc q) → fr_Ti fl tf th tp w q f i
def fr_Gj (nb po : Nat → Int32) (y j : Nat) : Prop :=
  (j < fr_n (po (y / 216)) → nb (fr_dg y j) ≠ 0) ∧ (fr_n (po (y / 216)) ≤ j → fr_dg y j = 0)
def fr_G (nb po : Nat → Int32) (y : Nat) : Prop := ∀ j, j < 3 → fr_Gj nb po y j
def fr_C (nb kd fl ck cg tc tf th tp w : Nat → Int32) (y i : Nat) : Prop :=
  (cg (5 * (y / 216) + i) = 0 → fr_T kd fl ck tc tf th tp w (5 * (y / 216) + i) (fr_dg y (fr_np cg (y / 216) i))) ∧
  (cg (5 * (y / 216) + i) ≠ 0 → ¬ ∃ f, f < 6 ∧ nb f ≠ 0 ∧ fr_T kd fl ck tc tf th tp w (5 * (y / 216) + i) f)
def fr_M (nb kd fl po ng ck cg tc tf th tp bp bf : Nat → Int32) (y : Nat) : Prop :=
  fr_G nb po y ∧ ∀ i, i < fr_n (po (y / 216)) + fr_n (ng (y / 216)) → fr_C nb kd fl ck cg tc tf th tp (fr_val bp bf fl y) y i
theorem fr_np_m (cg : Nat → Int32) (r i d : Nat) : fr_np cg r i ≤ fr_np cg r (i + d) := by
  induction d with
  | zero => exact Nat.le_refl _
  | succ d ih => exact Nat.le_trans ih (Nat.le_add_right _ _)
theorem fr_np_s {cg : Nat → Int32} {r i : Nat} (h : cg (5 * r + i) = 0) : fr_np cg r (i + 1) = fr_np cg r i + 1 := by
  show fr_np cg r i + (if cg (5 * r + i) = 0 then 1 else 0) = _
  rw [if_pos h]
theorem fr_np_k {cg : Nat → Int32} {r i : Nat} (h : cg (5 * r + i) ≠ 0) : fr_np cg r (i + 1) = fr_np cg r i := by
  show fr_np cg r i + (if cg (5 * r + i) = 0 then 1 else 0) = _
  rw [if_neg h]; rfl
theorem fr_np_lt {cg : Nat → Int32} {r i n : Nat} (hi : i < n) (h : cg (5 * r + i) = 0) : fr_np cg r i < fr_np cg r n := by
  have h1 := fr_np_m cg r (i + 1) (n - (i + 1))
  rw [fr_np_s h, show i + 1 + (n - (i + 1)) = n from by omega] at h1
  omega
theorem fr_np_ex {cg : Nat → Int32} {r j : Nat} : ∀ n, j < fr_np cg r n → ∃ i, i < n ∧ cg (5 * r + i) = 0 ∧ fr_np cg r i = j := by
  intro n
  induction n with
  | zero => intro h; exact absurd h (Nat.not_lt_zero j)
  | succ n ih =>
    intro h
    by_cases hc : cg (5 * r + n) = 0
    · rw [fr_np_s hc] at h
      by_cases e : j = fr_np cg r n
      · exact ⟨n, by omega, hc, e.symm⟩
      · obtain ⟨i, h1, h2, h3⟩ := ih (by omega)
        exact ⟨i, by omega, h2, h3⟩
    · rw [fr_np_k hc] at h
      obtain ⟨i, h1, h2, h3⟩ := ih h
      exact ⟨i, by omega, h2, h3⟩
theorem fr_np_c {cg cg' : Nat → Int32} {r : Nat} : ∀ n, (∀ i, i < n → cg' (5 * r + i) = cg (5 * r + i)) → fr_np cg' r n = fr_np cg r n := by
  intro n
  induction n with
  | zero => intro _; rfl
  | succ n ih =>
    intro h
    show fr_np cg' r n + (if cg' (5 * r + n) = 0 then 1 else 0) = fr_np cg r n + (if cg (5 * r + n) = 0 then 1 else 0)
    rw [ih (fun i hi => h i (by omega)), h n (by omega)]
/-! the reference's way to the same: positive conditions, what is left at 0, negated conditions -/
theorem fr_M_Y {nb kd fl po ng ck cg tc tf th tp bp bf : Nat → Int32} {y : Nat} (h3 : fr_n (po (y / 216)) < 4) (hp : fr_np cg (y / 216) (fr_n (po (y / 216)) + fr_n (ng (y / 216))) = fr_n (po (y / 216))) :
    fr_M nb kd fl po ng ck cg tc tf th tp bp bf y ↔
    (∀ i, i < fr_n (po (y / 216)) + fr_n (ng (y / 216)) → cg (5 * (y / 216) + i) = 0 → nb (fr_dg y (fr_np cg (y / 216) i)) ≠ 0 ∧ fr_T kd fl ck tc tf th tp (fr_val bp bf fl y) (5 * (y / 216) + i) (fr_dg y (fr_np cg (y / 216) i))) ∧
    (∀ j, fr_n (po (y / 216)) ≤ j → j < 3 → fr_dg y j = 0) ∧
    (∀ i, i < fr_n (po (y / 216)) + fr_n (ng (y / 216)) → cg (5 * (y / 216) + i) ≠ 0 → ¬ ∃ f, f < 6 ∧ nb f ≠ 0 ∧ fr_T kd fl ck tc tf th tp (fr_val bp bf fl y) (5 * (y / 216) + i) f) := by
  constructor
  · intro ⟨hG, hC⟩
    refine ⟨fun i hi hc => ⟨?_, (hC i hi).1 hc⟩, fun j h1 h2 => (hG j h2).2 h1, fun i hi hc => (hC i hi).2 hc⟩
    have h1 := fr_np_lt hi hc
    rw [hp] at h1
    exact (hG _ (by omega)).1 h1
  · intro ⟨hA, hB, hN⟩
    refine ⟨fun j hj => ⟨fun h => ?_, fun h => hB j h hj⟩, fun i hi => ⟨fun hc => (hA i hi hc).2, fun hc => hN i hi hc⟩⟩
    obtain ⟨i, h1, h2, h3⟩ := fr_np_ex (cg := cg) (r := y / 216) (j := j) _ (hp.symm ▸ h)
    rw [← h3]
    exact (hA i h1 h2).1
/-! what a choice's match reads of the rules: nothing but its own rule's cells -/
theorem fr_and3 (o : Int32) : fr_n (o &&& 3) < 4 := by
  obtain ⟨j, hj, e⟩ := pk_andE o (m := 3) 2 (by decide)
  rw [fr_ne e (by omega)]
  omega
theorem fr_ov_c {w w' : Nat → Int32} {o : Int32} (h : ∀ x, x < 4 → w' x = w x) : fr_ov w' o = fr_ov w o := by
  unfold fr_ov
  rw [h _ (fr_and3 _)]
theorem fr_Ti_c {fl tf tf' th th' tp tp' w w' : Nat → Int32} {q f i : Nat} (h1 : tf' (4 * q + i) = tf (4 * q + i)) (h2 : th' (4 * q + i) = th (4 * q + i)) (h3 : tp' (4 * q + i) = tp (4 * q + i)) (hw : ∀ x, x < 4 → w' x = w x) :
    fr_Ti fl tf' th' tp' w' q f i = fr_Ti fl tf th tp w q f i := by
  unfold fr_Ti
  rw [h1, h2, h3, fr_ov_c hw]
theorem fr_T_c {kd fl ck ck' tc tc' tf tf' th th' tp tp' w w' : Nat → Int32} {q : Nat} (h0 : ck' q = ck q) (ht : tc' q = tc q)
    (h1 : ∀ i, i < fr_n (tc q) → tf' (4 * q + i) = tf (4 * q + i)) (h2 : ∀ i, i < fr_n (tc q) → th' (4 * q + i) = th (4 * q + i)) (h3 : ∀ i, i < fr_n (tc q) → tp' (4 * q + i) = tp (4 * q + i)) (hw : ∀ x, x < 4 → w' x = w x) (f : Nat) :
    fr_T kd fl ck' tc' tf' th' tp' w' q f = fr_T kd fl ck tc tf th tp w q f := by
  unfold fr_T
  rw [h0, ht]
  apply propext
  constructor
  · intro ⟨a, b⟩
    refine ⟨a, fun i hi => ?_⟩
    rw [← fr_Ti_c (h1 i hi) (h2 i hi) (h3 i hi) hw]
    exact b i hi
  · intro ⟨a, b⟩
    refine ⟨a, fun i hi => ?_⟩
    rw [fr_Ti_c (h1 i hi) (h2 i hi) (h3 i hi) hw]
    exact b i hi
theorem fr_M_c {nb kd fl po ng ck cg tc tf th tp bp bf po' ng' ck' cg' tc' tf' th' tp' bp' bf' : Nat → Int32} {R y : Nat} (hy : y < 216 * R)
    (hn : fr_n (po (y / 216)) + fr_n (ng (y / 216)) ≤ 5) (ht : ∀ i, i < 5 → fr_n (tc (5 * (y / 216) + i)) ≤ 4)
    (e1 : ∀ q, q < R → po' q = po q) (e2 : ∀ q, q < R → ng' q = ng q)
    (e3 : ∀ q, q < 5 * R → ck' q = ck q) (e4 : ∀ q, q < 5 * R → cg' q = cg q) (e5 : ∀ q, q < 5 * R → tc' q = tc q)
    (e6 : ∀ q, q < 20 * R → tf' q = tf q) (e7 : ∀ q, q < 20 * R → th' q = th q) (e8 : ∀ q, q < 20 * R → tp' q = tp q)
    (e9 : ∀ q, q < 4 * R → bp' q = bp q) (e10 : ∀ q, q < 4 * R → bf' q = bf q) :
    fr_M nb kd fl po' ng' ck' cg' tc' tf' th' tp' bp' bf' y ↔ fr_M nb kd fl po ng ck cg tc tf th tp bp bf y := by
  have hr : y / 216 < R := by omega
  have hw : ∀ x, x < 4 → fr_val bp' bf' fl y x = fr_val bp bf fl y x := by
    intro x hx
    unfold fr_val
    rw [e9 _ (by omega), e10 _ (by omega)]
  have hT : ∀ i, i < fr_n (po (y / 216)) + fr_n (ng (y / 216)) → ∀ f, fr_T kd fl ck' tc' tf' th' tp' (fr_val bp' bf' fl y) (5 * (y / 216) + i) f = fr_T kd fl ck tc tf th tp (fr_val bp bf fl y) (5 * (y / 216) + i) f := by
    intro i hi f
    have h4 := ht i (by omega)
    exact fr_T_c (e3 _ (by omega)) (e5 _ (by omega)) (fun j hj => e6 _ (by omega)) (fun j hj => e7 _ (by omega)) (fun j hj => e8 _ (by omega)) hw f
  have hC : ∀ i, i < fr_n (po (y / 216)) + fr_n (ng (y / 216)) → (fr_C nb kd fl ck' cg' tc' tf' th' tp' (fr_val bp' bf' fl y) y i ↔ fr_C nb kd fl ck cg tc tf th tp (fr_val bp bf fl y) y i) := by
    intro i hi
    unfold fr_C
    rw [e4 _ (by omega), fr_np_c (cg := cg) (cg' := cg') i (fun j hj => e4 _ (by omega))]
    simp only [hT i hi]
  unfold fr_M fr_G fr_Gj
  rw [e1 _ hr, e2 _ hr]
  constructor
  · intro ⟨a, b⟩
    exact ⟨a, fun i hi => (hC i hi).mp (b i hi)⟩
  · intro ⟨a, b⟩
    exact ⟨a, fun i hi => (hC i hi).mpr (b i hi)⟩
/-! ===== the order of the agenda ===== -/
def fr_gv (nb po : Nat → Int32) (y j : Nat) : Nat := if fr_n (po (y / 216)) ≤ j then 0 else fr_n (nb (fr_dg y j))
def fr_rk (a b c j : Nat) : Nat :=
  if j = 0 then (if (if b < a then a else b) < c then c else (if b < a then a else b))
  else if j = 1 then (if (if b < a then a else b) < c then (if b < a then a else b) else if c < (if b < a then b else a) then (if b < a then b else a) else c)
  else (if c < (if b < a then b else a) then c else (if b < a then b else a))
def fr_gr (nb po : Nat → Int32) (y j : Nat) : Nat := fr_rk (fr_gv nb po y 0) (fr_gv nb po y 1) (fr_gv nb po y 2) j
def fr_tt (tc : Nat → Int32) (r : Nat) : Nat → Nat
  | 0 => 0
  | i + 1 => fr_tt tc r i + fr_n (tc (5 * r + i))
def fr_K (nb sa po ng tc : Nat → Int32) (y : Nat) : List Int :=
  [(sa (y / 216)).toInt, (fr_gr nb po y 0 : Int), (fr_gr nb po y 1 : Int), (fr_gr nb po y 2 : Int),
   (fr_tt tc (y / 216) (fr_n (po (y / 216)) + fr_n (ng (y / 216))) : Int), -((y / 216 : Nat) : Int),
   (fr_gv nb po y 0 : Int), (fr_gv nb po y 1 : Int), (fr_gv nb po y 2 : Int)]
def fr_B (nb sa po ng tc : Nat → Int32) (a b : Nat) : Prop := fr_lx (fr_K nb sa po ng tc a) (fr_K nb sa po ng tc b)
theorem fr_lx_ne {a b : Int} {s t : List Int} (h : a ≠ b) : fr_lx (a :: s) (b :: t) ↔ b < a :=
  ⟨fun k => k.elim id (fun k => absurd k.1 h), fun k => Or.inl k⟩
theorem fr_lx_eq {a b : Int} {s t : List Int} (h : a = b) : fr_lx (a :: s) (b :: t) ↔ fr_lx s t :=
  ⟨fun k => k.elim (fun k => by omega) (fun k => k.2), fun k => Or.inr ⟨h, k⟩⟩
theorem fr_B_tr {nb sa po ng tc : Nat → Int32} (a b c : Nat) (h : fr_B nb sa po ng tc a b) (k : fr_B nb sa po ng tc b c) : fr_B nb sa po ng tc a c := fr_lx_tr _ _ _ h k
theorem fr_B_as {nb sa po ng tc : Nat → Int32} (a b : Nat) (h : fr_B nb sa po ng tc a b) : ¬ fr_B nb sa po ng tc b a := fun k => fr_lx_ir _ (fr_lx_tr _ _ _ h k)
theorem fr_gv_inj {nb po : Nat → Int32} {y z j : Nat} (hb : ∀ f, f < 6 → nb f = nI (fr_n (nb f)))
    (hd : ∀ f g, f < 6 → g < 6 → nb f ≠ 0 → nb f = nb g → f = g) (hr : y / 216 = z / 216) (hj : j < 3)
    (gy : fr_G nb po y) (gz : fr_G nb po z) (e : fr_gv nb po y j = fr_gv nb po z j) : fr_dg y j = fr_dg z j := by
  have a := gy j hj
  have b := gz j hj
  unfold fr_Gj at a b
  unfold fr_gv at e
  rw [← hr] at e b
  by_cases h : fr_n (po (y / 216)) ≤ j
  · rw [a.2 h, b.2 h]
  · rw [if_neg h, if_neg h] at e
    refine hd _ _ (fr_dg_lt y j) (fr_dg_lt z j) (a.1 (by omega)) ?_
    rw [hb _ (fr_dg_lt y j), hb _ (fr_dg_lt z j), e]
theorem fr_K_inj {nb sa po ng tc : Nat → Int32} {y z : Nat} (hb : ∀ f, f < 6 → nb f = nI (fr_n (nb f)))
    (hd : ∀ f g, f < 6 → g < 6 → nb f ≠ 0 → nb f = nb g → f = g)
    (gy : fr_G nb po y) (gz : fr_G nb po z) (e : fr_K nb sa po ng tc y = fr_K nb sa po ng tc z) : y = z := by
  unfold fr_K at e
  simp only [List.cons.injEq, and_true] at e
  obtain ⟨_, _, _, _, _, e5, e6, e7, e8⟩ := e
  have hr : y / 216 = z / 216 := by omega
  exact fr_dg_ext hr (fr_gv_inj hb hd hr (by omega) gy gz (by omega)) (fr_gv_inj hb hd hr (by omega) gy gz (by omega)) (fr_gv_inj hb hd hr (by omega) gy gz (by omega))
theorem fr_K_len {nb sa po ng tc : Nat → Int32} (y : Nat) : (fr_K nb sa po ng tc y).length = 9 := rfl
theorem fr_B_to {nb sa po ng tc : Nat → Int32} {y z : Nat} (hb : ∀ f, f < 6 → nb f = nI (fr_n (nb f)))
    (hd : ∀ f g, f < 6 → g < 6 → nb f ≠ 0 → nb f = nb g → f = g)
    (gy : fr_G nb po y) (gz : fr_G nb po z) (h : y ≠ z) : fr_B nb sa po ng tc y z ∨ fr_B nb sa po ng tc z y :=
  fr_lx_to _ _ ((fr_K_len y).trans (fr_K_len z).symm) (fun e => h (fr_K_inj hb hd gy gz e))
theorem fr_tt_c {tc tc' : Nat → Int32} {r : Nat} : ∀ n, (∀ i, i < n → tc' (5 * r + i) = tc (5 * r + i)) → fr_tt tc' r n = fr_tt tc r n := by
  intro n
  induction n with
  | zero => intro _; rfl
  | succ n ih =>
    intro h
    show fr_tt tc' r n + fr_n (tc' (5 * r + n)) = fr_tt tc r n + fr_n (tc (5 * r + n))
    rw [ih (fun i hi => h i (by omega)), h n (by omega)]
theorem fr_tt_le {tc : Nat → Int32} {r : Nat} : ∀ n, (∀ i, i < n → fr_n (tc (5 * r + i)) ≤ 4) → fr_tt tc r n ≤ 4 * n := by
  intro n
  induction n with
  | zero => intro _; exact Nat.le_refl 0
  | succ n ih =>
    intro h
    show fr_tt tc r n + fr_n (tc (5 * r + n)) ≤ 4 * (n + 1)
    have := ih (fun i hi => h i (by omega))
    have := h n (by omega)
    omega
/-! ===== what a settling leaves ===== -/
def fr_St (fin : Nat) (M : Nat → Prop) (hd my hd' my' : Nat → Int32) : Prop :=
  ∀ y, y < 864 → (y < 216 * fin → hd' y = fr_b (M y) ∧ (M y → my' y = my y) ∧ (¬ M y → my' y = 0)) ∧
    (216 * fin ≤ y → hd' y = hd y ∧ my' y = my y)
/-- the flags: the component's ex, mx at the turned index, the reference's hd, my; settled as M says -/
def fr_FL (fin : Nat) (M : Nat → Prop) (ex mx hd my : Nat → Int32) : Prop :=
  ∀ y, y < 864 → ex (fr_sg y) = hd y ∧ mx (fr_sg y) = my y ∧ (y < 216 * fin → hd y = fr_b (M y) ∧ (¬ M y → my y = 0)) ∧ (216 * fin ≤ y → hd y = 0)
theorem fr_FL_c {fin : Nat} {M M' : Nat → Prop} {ex mx hd my : Nat → Int32} (h : fr_FL fin M ex mx hd my) (e : ∀ y, y < 216 * fin → (M' y ↔ M y)) : fr_FL fin M' ex mx hd my := by
  intro y hy
  obtain ⟨a, b, c, d⟩ := h y hy
  refine ⟨a, b, fun hf => ?_, d⟩
  rw [fr_bi (e y hf)]
  exact ⟨(c hf).1, fun hm => (c hf).2 (fun hm' => hm ((e y hf).mpr hm'))⟩
/-- both sides settle, after the facts or the number of finished rules changed -/
theorem fr_FL_2 {fin fin' : Nat} {M M' : Nat → Prop} {ex mx hd my ex' mx' hd' my' : Nat → Int32} (h : fr_FL fin M ex mx hd my) (hf : fin ≤ fin')
    (hx : fr_St fin' M' (fun y => ex (fr_sg y)) (fun y => mx (fr_sg y)) (fun y => ex' (fr_sg y)) (fun y => mx' (fr_sg y)))
    (hy : fr_St fin' M' hd my hd' my') : fr_FL fin' M' ex' mx' hd' my' := by
  intro y hy8
  obtain ⟨a, b, c, d⟩ := h y hy8
  have ⟨x1, x2⟩ := hx y hy8
  have ⟨y1, y2⟩ := hy y hy8
  by_cases hlt : y < 216 * fin'
  · have ⟨p1, p2, p3⟩ := x1 hlt
    have ⟨q1, q2, q3⟩ := y1 hlt
    refine ⟨p1.trans q1.symm, ?_, fun _ => ⟨q1, q3⟩, fun h => absurd hlt (by omega)⟩
    by_cases hm : M' y
    · exact (p2 hm).trans (b.trans (q2 hm).symm)
    · exact (p3 hm).trans (q3 hm).symm
  · have ⟨p1, p2⟩ := x2 (by omega)
    have ⟨q1, q2⟩ := y2 (by omega)
    exact ⟨p1.trans (a.trans q1.symm), p2.trans (b.trans q2.symm), fun h => absurd h hlt, fun _ => q1.trans (d (by omega))⟩
/-- the component alone settles, with nothing changed -/
theorem fr_FL_1 {fin : Nat} {M : Nat → Prop} {ex mx hd my ex' mx' : Nat → Int32} (h : fr_FL fin M ex mx hd my)
    (hx : fr_St fin M (fun y => ex (fr_sg y)) (fun y => mx (fr_sg y)) (fun y => ex' (fr_sg y)) (fun y => mx' (fr_sg y))) : fr_FL fin M ex' mx' hd my := by
  intro y hy8
  obtain ⟨a, b, c, d⟩ := h y hy8
  have ⟨x1, x2⟩ := hx y hy8
  by_cases hlt : y < 216 * fin
  · have ⟨p1, p2, p3⟩ := x1 hlt
    refine ⟨p1.trans (c hlt).1.symm, ?_, c, d⟩
    by_cases hm : M y
    · exact (p2 hm).trans b
    · exact (p3 hm).trans ((c hlt).2 hm).symm
  · have ⟨p1, p2⟩ := x2 (by omega)
    exact ⟨p1.trans a, p2.trans b, c, d⟩
/-- a waiting one is marked on both sides -/
theorem fr_FL_m {fin : Nat} {M : Nat → Prop} {ex mx hd my : Nat → Int32} {x : Nat} (h : fr_FL fin M ex mx hd my) (hx : x < 864) (he : hd (fr_sg x) ≠ 0) :
    fr_FL fin M ex (upd mx x 1) hd (upd my (fr_sg x) 1) := by
  intro y hy
  obtain ⟨a, b, c, d⟩ := h y hy
  by_cases e : y = fr_sg x
  · subst e
    refine ⟨a, ?_, fun hl => ⟨(c hl).1, fun hm => absurd ?_ he⟩, d⟩
    · rw [fr_sg_sg, pk_us, pk_us]
    · rw [(c hl).1, fr_bf hm]
  · have e2 : fr_sg y ≠ x := fun h => e (by rw [← h, fr_sg_sg])
    rw [pk_un e2, pk_un e]
    exact ⟨a, b, c, d⟩
theorem fr_lx_st {P : Int32 → Prop} {a b : Int} {s t : List Int} (h : P (fr_b (fr_lx (a :: s) (b :: t)))) : (a = b → P (fr_b (fr_lx s t))) ∧ (a ≠ b → P (fr_b (b < a))) :=
  ⟨fun e => by rw [← fr_bi (fr_lx_eq (s := s) (t := t) e)]; exact h, fun e => by rw [← fr_bi (fr_lx_ne (s := s) (t := t) e)]; exact h⟩
theorem fr_lx_nil {P : Int32 → Prop} (h : P (fr_b (fr_lx [] []))) : P 0 := by
  rw [fr_bf (p := fr_lx [] []) (fun k => (show False from k))] at h
  exact h
theorem fr_np_le (cg : Nat → Int32) (r : Nat) : ∀ i, fr_np cg r i ≤ i
  | 0 => Nat.le_refl 0
  | i + 1 => by
    have := fr_np_le cg r i
    show fr_np cg r i + (if cg (5 * r + i) = 0 then 1 else 0) ≤ i + 1
    split <;> omega
end
section
/-! ===== what holds of the rules while they are built ===== -/
def fr_R2 (R : Nat) (po ng cn ac cg : Nat → Int32) : Prop :=
  ∀ r, r < 4 → fr_Lt (po r) 4 ∧ fr_Lt (ng r) 3 ∧ cn r = nI (fr_n (po r) + fr_n (ng r)) ∧ fr_Lt (ac r) 5 ∧
    fr_np cg r (fr_n (po r) + fr_n (ng r)) = fr_n (po r) ∧ (R ≤ r → po r = 0 ∧ ng r = 0 ∧ ac r = 0)
def fr_R3 (po ng tc tt : Nat → Int32) : Prop :=
  ∀ r, r < 4 → (∀ i, i < 5 → fr_Lt (tc (5 * r + i)) 5 ∧ (fr_n (po r) + fr_n (ng r) ≤ i → tc (5 * r + i) = 0)) ∧
    tt r = nI (fr_tt tc r (fr_n (po r) + fr_n (ng r)))
def fr_Bd (tc th tp : Nat → Int32) (r x m : Nat) : Prop :=
  ∃ i s, 4 * i + s < m ∧ i < 5 ∧ s < fr_n (tc (5 * r + i)) ∧ th (4 * (5 * r + i) + s) = 3 ∧ tp (4 * (5 * r + i) + s) = nI x
def fr_Tw (cg tc tf th tp bd bp bf : Nat → Int32) (r i s : Nat) : Prop :=
  fr_Lt (tf (4 * (5 * r + i) + s)) 3 ∧ fr_Lt (th (4 * (5 * r + i) + s)) 4 ∧
  (th (4 * (5 * r + i) + s) = 3 → cg (5 * r + i) = 0 ∧ ∃ x, x < 4 ∧ tp (4 * (5 * r + i) + s) = nI x ∧ bd (4 * r + x) ≠ 0 ∧
    bp (4 * r + x) = nI (fr_np cg r i) ∧ bf (4 * r + x) = tf (4 * (5 * r + i) + s)) ∧
  (th (4 * (5 * r + i) + s) ≠ 3 → tp (4 * (5 * r + i) + s) &&& 1 ≠ 0 →
    ∃ x, x < 4 ∧ tp (4 * (5 * r + i) + s) >>> ((1 : Int32) &&& 31) = nI x ∧ bd (4 * r + x) ≠ 0 ∧ fr_Bd tc th tp r x (4 * i + s))
def fr_R4 (cg tc tf th tp bd bp bf : Nat → Int32) : Prop :=
  ∀ r i s, r < 4 → i < 5 → s < fr_n (tc (5 * r + i)) → fr_Tw cg tc tf th tp bd bp bf r i s
def fr_R5 (R : Nat) (tc th tp bd bp bf bm : Nat → Int32) : Prop :=
  ∀ r, r < 4 → fr_Lt (bm r) 16 ∧ (R ≤ r → bm r = 0) ∧ ∀ x, x < 4 →
    (fr_n (bm r) / 2 ^ x % 2 = 1 ↔ bd (4 * r + x) ≠ 0) ∧
    ((bd (4 * r + x) = 0 ∨ bd (4 * r + x) = 1) ∧ (bd (4 * r + x) ≠ 0 → fr_Bd tc th tp r x 20 ∧ fr_Lt (bp (4 * r + x)) 3 ∧ fr_Lt (bf (4 * r + x)) 3))
def fr_Us (bd : Nat → Int32) (r : Nat) (o : Int32) : Prop :=
  o &&& 1 ≠ 0 → ∃ x, x < 4 ∧ o >>> ((1 : Int32) &&& 31) = nI x ∧ bd (4 * r + x) ≠ 0
def fr_Aw (po bd aw ak ao ds wx wy wz : Nat → Int32) (r s : Nat) : Prop :=
  (ds (4 * r + s) = 0 ∧ aw (4 * r + s) = 0 ∧ ao (3 * (4 * r + s)) = wx (4 * r + s) ∧ ∃ o, o < fr_n (po r) ∧ wx (4 * r + s) = nI o) ∨
  (ds (4 * r + s) = 1 ∧ aw (4 * r + s) = 1 ∧ ao (3 * (4 * r + s)) = wx (4 * r + s) ∧ fr_Us bd r (wx (4 * r + s))) ∨
  (ds (4 * r + s) = 2 ∧ aw (4 * r + s) = 2) ∨
  (∃ k, k < 4 ∧ ds (4 * r + s) = nI (10 + k) ∧ aw (4 * r + s) = 3 ∧ ak (4 * r + s) = nI k ∧
    ao (3 * (4 * r + s)) = wx (4 * r + s) ∧ ao (3 * (4 * r + s) + 1) = wy (4 * r + s) ∧ ao (3 * (4 * r + s) + 2) = wz (4 * r + s) ∧
    fr_Us bd r (wx (4 * r + s)) ∧ fr_Us bd r (wy (4 * r + s)) ∧ fr_Us bd r (wz (4 * r + s)))
def fr_R6 (po ac bd aw ak ao ds wx wy wz : Nat → Int32) : Prop :=
  ∀ r s, r < 4 → s < fr_n (ac r) → fr_Aw po bd aw ak ao ds wx wy wz r s
def fr_R7 (ac ha ds : Nat → Int32) : Prop :=
  ∀ r, r < 4 → (ha r ≠ 0 ↔ ∃ s, s < fr_n (ac r) ∧ ds (4 * r + s) = 2)
def fr_RB (R : Nat) (po ng cn ac tt ha bd bp bf bm cg tc tf th tp aw ak ao ds wx wy wz : Nat → Int32) : Prop :=
  fr_R2 R po ng cn ac cg ∧ fr_R3 po ng tc tt ∧ fr_R4 cg tc tf th tp bd bp bf ∧ fr_R5 R tc th tp bd bp bf bm ∧
  fr_R6 po ac bd aw ak ao ds wx wy wz ∧ fr_R7 ac ha ds
def fr_CS (cs : Nat → Int32) : Prop := ∀ m j, m < 216 → j < 3 → cs (3 * m + j) = nI (fr_dg (fr_sg m) j)
/-- the facts: numbers of 1 to made, each once; their count -/
def fr_FB (b : Nat) (fc md : Int32) (nb : Nat → Int32) : Prop :=
  (∃ m, m ≤ b ∧ md = nI m ∧ ∀ f, f < 6 → fr_Lt (nb f) (m + 1)) ∧ (∀ f g, f < 6 → g < 6 → nb f ≠ 0 → nb f = nb g → f = g) ∧
  fc = nI (fr_ct (fun f => decide (nb f ≠ 0)) 6)
/-! a rule begun -/
theorem fr_rule {R : Nat} {po ng cn ac tt ha bd bp bf bm cg tc tf th tp aw ak ao ds wx wy wz : Nat → Int32}
    (h : fr_RB R po ng cn ac tt ha bd bp bf bm cg tc tf th tp aw ak ao ds wx wy wz) :
    fr_RB (R + 1) po ng cn ac tt ha bd bp bf bm cg tc tf th tp aw ak ao ds wx wy wz := by
  obtain ⟨h2, h3, h4, h5, h6, h7⟩ := h
  refine ⟨fun r hr => ?_, h3, h4, fun r hr => ?_, h6, h7⟩
  · have ⟨a, b, c, d, e, f⟩ := h2 r hr
    exact ⟨a, b, c, d, e, fun h => f (by omega)⟩
  · have ⟨a, b, c⟩ := h5 r hr
    exact ⟨a, fun h => b (by omega), c⟩
/-! a condition put behind the others -/
theorem fr_cond {R r p m p' m' : Nat} {g : Int32} {po ng cn ac tt ha bd bp bf bm cg tc tf th tp aw ak ao ds wx wy wz po' ng' cn' : Nat → Int32}
    (h : fr_RB R po ng cn ac tt ha bd bp bf bm cg tc tf th tp aw ak ao ds wx wy wz)
    (hR : R = r + 1) (hr : r < 4) (hp : fr_n (po r) = p) (hm : fr_n (ng r) = m) (hp' : p' ≤ 3) (hm' : m' ≤ 2) (hpm : p' + m' = p + m + 1)
    (hg : p' = p + (if g = 0 then 1 else 0))
    (e1 : po' r = nI p') (e2 : ng' r = nI m') (e3 : cn' r = nI (p' + m'))
    (o1 : ∀ r', r' ≠ r → po' r' = po r') (o2 : ∀ r', r' ≠ r → ng' r' = ng r') (o3 : ∀ r', r' ≠ r → cn' r' = cn r') :
    fr_RB R po' ng' cn' ac tt ha bd bp bf bm (upd cg (5 * r + (p + m)) g) tc tf th tp aw ak ao ds wx wy wz := by
  obtain ⟨h2, h3, h4, h5, h6, h7⟩ := h
  have n1 : fr_n (po' r) = p' := fr_ne e1
  have n2 : fr_n (ng' r) = m' := fr_ne e2
  refine ⟨fun r' hr' => ?_, fun r' hr' => ?_, fun r' i s hr' hi hs => ?_, h5, fun r' s hr' hs => ?_, h7⟩
  · have ⟨a, b, c, d, e, f⟩ := h2 r' hr'
    by_cases hrr : r' = r
    · subst hrr
      rw [hp, hm] at e
      rw [n1, n2, hpm]
      refine ⟨fr_Lt_of e1 (by omega) (by omega), fr_Lt_of e2 (by omega) (by omega), by rw [e3, hpm], d, ?_, fun h => by omega⟩
      rw [hg]
      show fr_np _ r' (p + m) + (if upd cg (5 * r' + (p + m)) g (5 * r' + (p + m)) = 0 then 1 else 0) = _
      rw [pk_us, fr_np_c (cg := cg) (p + m) (fun i hi => pk_un (by omega)), e]
    · rw [o1 _ hrr, o2 _ hrr, o3 _ hrr]
      refine ⟨a, b, c, d, ?_, f⟩
      have := a.1
      have := b.1
      rw [fr_np_c (cg := cg) _ (fun i hi => pk_un (by omega)), e]
  · have ⟨a, b⟩ := h3 r' hr'
    by_cases hrr : r' = r
    · subst hrr
      rw [hp, hm] at a b
      rw [n1, n2, hpm]
      refine ⟨fun i hi => ⟨(a i hi).1, fun hl => (a i hi).2 (by omega)⟩, ?_⟩
      rw [b]
      show _ = nI (fr_tt tc r' (p + m) + fr_n (tc (5 * r' + (p + m))))
      rw [(a (p + m) (by omega)).2 (Nat.le_refl _)]
      rfl
    · rw [o1 _ hrr, o2 _ hrr]
      exact ⟨a, b⟩
  · have ht := h4 r' i s hr' hi hs
    have hne : ∀ j, j ≤ i → upd cg (5 * r + (p + m)) g (5 * r' + j) = cg (5 * r' + j) := by
      intro j hj
      refine pk_un ?_
      by_cases hrr : r' = r
      · subst hrr
        have ⟨a, _⟩ := h3 r' hr'
        rw [hp, hm] at a
        have a2 := (a i hi).2
        intro hq
        have h0 := a2 (by omega)
        rw [h0] at hs
        exact absurd hs (Nat.not_lt_zero s)
      · omega
    unfold fr_Tw at ht ⊢
    rw [hne i (Nat.le_refl i), fr_np_c (cg := cg) i (fun j hj => hne j (by omega))]
    exact ht
  · have ha := h6 r' s hr' hs
    have hle : fr_n (po r') ≤ fr_n (po' r') := by
      by_cases hrr : r' = r
      · subst hrr
        rw [n1, hp, hg]
        exact Nat.le_add_right _ _
      · rw [o1 _ hrr]
        exact Nat.le_refl _
    rcases ha with ⟨a1, a2, a3, o, a4, a5⟩ | ha
    · exact Or.inl ⟨a1, a2, a3, o, by omega, a5⟩
    · exact Or.inr ha
/-! a test put behind the others -/
theorem fr_tt_up {tc : Nat → Int32} {r i s : Nat} (h : fr_n (tc (5 * r + i)) = s) (hs : s < 2 ^ 30) : ∀ n, i < n → fr_tt (upd tc (5 * r + i) (nI (s + 1))) r n = fr_tt tc r n + 1 := by
  intro n
  induction n with
  | zero => intro hn; exact absurd hn (Nat.not_lt_zero i)
  | succ n ih =>
    intro hn
    show fr_tt (upd tc (5 * r + i) (nI (s + 1))) r n + fr_n (upd tc (5 * r + i) (nI (s + 1)) (5 * r + n)) = fr_tt tc r n + fr_n (tc (5 * r + n)) + 1
    by_cases e : n = i
    · subst e
      rw [pk_us, fr_nn (by omega), fr_tt_c (tc := tc) n (fun j hj => pk_un (by omega)), h]
      omega
    · rw [pk_un (by omega), ih (by omega)]
      omega
theorem fr_Bd_up {tc th tp : Nat → Int32} {r i s : Nat} {H o : Int32} (hs : fr_n (tc (5 * r + i)) = s) (hs4 : s < 4) (hall : ∀ r' i', r' < 4 → i' < 5 → fr_n (tc (5 * r' + i')) ≤ 4) (hi : i < 5) {r' x m : Nat} (hr' : r' < 4)
    (h : fr_Bd tc th tp r' x m) : fr_Bd (upd tc (5 * r + i) (nI (s + 1))) (upd th (4 * (5 * r + i) + s) H) (upd tp (4 * (5 * r + i) + s) o) r' x m := by
  obtain ⟨i', s', h1, h2, h3, h4, h5⟩ := h
  have h6 := hall r' i' hr' h2
  by_cases e : 5 * r' + i' = 5 * r + i
  · rw [e] at h3 h4 h5
    refine ⟨i', s', h1, h2, ?_, ?_, ?_⟩
    · rw [e, pk_us, fr_nn (by omega)]; omega
    · rw [e, pk_un (by omega)]; exact h4
    · rw [e, pk_un (by omega)]; exact h5
  · refine ⟨i', s', h1, h2, ?_, ?_, ?_⟩
    · rw [pk_un e]; exact h3
    · rw [pk_un (by omega)]; exact h4
    · rw [pk_un (by omega)]; exact h5
theorem fr_test {R r i s : Nat} {F H o : Int32} {po ng cn ac tt ha bd bp bf bm cg tc tf th tp aw ak ao ds wx wy wz bd' bp' bf' bm' : Nat → Int32}
    (h : fr_RB R po ng cn ac tt ha bd bp bf bm cg tc tf th tp aw ak ao ds wx wy wz)
    (hR : R = r + 1) (hr : r < 4) (hi : i + 1 = fr_n (po r) + fr_n (ng r)) (hs : fr_n (tc (5 * r + i)) = s) (hs4 : s < 4)
    (hbd : ∀ r' x, r' < 4 → x < 4 → bd (4 * r' + x) ≠ 0 → bd' (4 * r' + x) ≠ 0 ∧ bp' (4 * r' + x) = bp (4 * r' + x) ∧ bf' (4 * r' + x) = bf (4 * r' + x))
    (hnew : fr_Tw cg (upd tc (5 * r + i) (nI (s + 1))) (upd tf (4 * (5 * r + i) + s) F) (upd th (4 * (5 * r + i) + s) H) (upd tp (4 * (5 * r + i) + s) o) bd' bp' bf' r i s)
    (h5' : fr_R5 R (upd tc (5 * r + i) (nI (s + 1))) (upd th (4 * (5 * r + i) + s) H) (upd tp (4 * (5 * r + i) + s) o) bd' bp' bf' bm') :
    fr_RB R po ng cn ac (upd tt r (nI (fr_tt tc r (fr_n (po r) + fr_n (ng r)) + 1))) ha bd' bp' bf' bm' cg (upd tc (5 * r + i) (nI (s + 1))) (upd tf (4 * (5 * r + i) + s) F) (upd th (4 * (5 * r + i) + s) H) (upd tp (4 * (5 * r + i) + s) o) aw ak ao ds wx wy wz := by
  obtain ⟨h2, h3, h4, h5, h6, h7⟩ := h
  have ⟨p4, m3, _⟩ := h2 r hr
  have hi5 : i < 5 := by have := p4.1; have := m3.1; omega
  have hall : ∀ r' i', r' < 4 → i' < 5 → fr_n (tc (5 * r' + i')) ≤ 4 := fun r' i' a b => by
    have := ((h3 r' a).1 i' b).1.1
    omega
  refine ⟨h2, fun r' hr' => ?_, fun r' i' s' hr' hi' hs' => ?_, h5', fun r' s' hr' hs' => ?_, h7⟩
  · have ⟨a, b⟩ := h3 r' hr'
    have ⟨p4', m3', _⟩ := h2 r' hr'
    have := p4'.1
    have := m3'.1
    by_cases hrr : r' = r
    · subst hrr
      refine ⟨fun j hj => ?_, ?_⟩
      · by_cases e : j = i
        · subst e
          rw [pk_us]
          exact ⟨fr_Lt_n (by omega) (by omega), fun hl => by omega⟩
        · rw [pk_un (by omega)]
          exact a j hj
      · rw [pk_us, fr_tt_up hs (by omega) _ (by omega)]
    · rw [pk_un hrr]
      refine ⟨fun j hj => ?_, ?_⟩
      · rw [pk_un (by omega)]
        exact a j hj
      · rw [b, fr_tt_c (tc := tc) _ (fun j hj => pk_un (by omega))]
  · by_cases e : r' = r ∧ i' = i ∧ s' = s
    · obtain ⟨e1, e2, e3⟩ := e
      subst e1 e2 e3
      exact hnew
    · have hs1 : s' < fr_n (tc (5 * r' + i')) := by
        by_cases e1 : 5 * r' + i' = 5 * r + i
        · rw [e1, pk_us, fr_nn (by omega)] at hs'
          rw [e1, hs]
          omega
        · rw [pk_un e1] at hs'
          exact hs'
      have hle := hall r' i' hr' hi'
      have hz : 4 * (5 * r' + i') + s' ≠ 4 * (5 * r + i) + s := by omega
      obtain ⟨a, b, c, d⟩ := h4 r' i' s' hr' hi' hs1
      unfold fr_Tw
      rw [pk_un hz, pk_un hz, pk_un hz]
      refine ⟨a, b, fun hh => ?_, fun hh ho => ?_⟩
      · obtain ⟨c1, x, c2, c3, c4, c5, c6⟩ := c hh
        have ⟨d1, d2, d3⟩ := hbd r' x hr' c2 c4
        exact ⟨c1, x, c2, c3, d1, d2.trans c5, d3.trans c6⟩
      · obtain ⟨x, c2, c3, c4, c5⟩ := d hh ho
        exact ⟨x, c2, c3, (hbd r' x hr' c2 c4).1, fr_Bd_up hs hs4 hall hi5 hr' c5⟩
  · have hu : ∀ o, fr_Us bd r' o → fr_Us bd' r' o := by
      intro o hu h1
      obtain ⟨x, a, b, c⟩ := hu h1
      exact ⟨x, a, b, (hbd r' x hr' a c).1⟩
    rcases h6 r' s' hr' hs' with ha | ⟨a1, a2, a3, a4⟩ | ha | ⟨k, a1, a2, a3, a4, a5, a6, a7, a8, a9, a10⟩
    · exact Or.inl ha
    · exact Or.inr (Or.inl ⟨a1, a2, a3, hu _ a4⟩)
    · exact Or.inr (Or.inr (Or.inl ha))
    · exact Or.inr (Or.inr (Or.inr ⟨k, a1, a2, a3, a4, a5, a6, a7, hu _ a8, hu _ a9, hu _ a10⟩))
/-! an action put behind the others -/
theorem fr_acts {R r a : Nat} {W K X Y Z D : Int32} {po ng cn ac tt ha bd bp bf bm cg tc tf th tp aw ak ao ds wx wy wz wx' wy' wz' ao' ha' : Nat → Int32}
    (h : fr_RB R po ng cn ac tt ha bd bp bf bm cg tc tf th tp aw ak ao ds wx wy wz)
    (hR : R = r + 1) (hr : r < 4) (ha4 : fr_n (ac r) = a) (hal : a < 4)
    (ox : ∀ z, z ≠ 4 * r + a → wx' z = wx z) (oy : ∀ z, z ≠ 4 * r + a → wy' z = wy z) (oz : ∀ z, z ≠ 4 * r + a → wz' z = wz z)
    (oa : ∀ z, z < 3 * (4 * r + a) ∨ 3 * (4 * r + a) + 2 < z → ao' z = ao z) (oh : ∀ q, q ≠ r → ha' q = ha q)
    (hh : ha' r ≠ 0 ↔ ha r ≠ 0 ∨ D = 2)
    (hnew : fr_Aw po bd (upd aw (4 * r + a) W) (upd ak (4 * r + a) K) ao' (upd ds (4 * r + a) D) wx' wy' wz' r a) :
    fr_RB R po ng cn (upd ac r (nI (a + 1))) tt ha' bd bp bf bm cg tc tf th tp (upd aw (4 * r + a) W) (upd ak (4 * r + a) K) ao' (upd ds (4 * r + a) D) wx' wy' wz' := by
  obtain ⟨h2, h3, h4, h5, h6, h7⟩ := h
  refine ⟨fun r' hr' => ?_, h3, h4, h5, fun r' s hr' hs => ?_, fun r' hr' => ?_⟩
  · have ⟨b1, b2, b3, b4, b5, b6⟩ := h2 r' hr'
    by_cases e : r' = r
    · subst e
      rw [pk_us]
      exact ⟨b1, b2, b3, fr_Lt_n (by omega) (by omega), b5, fun h => by omega⟩
    · rw [pk_un e]
      exact ⟨b1, b2, b3, b4, b5, b6⟩
  · by_cases e : r' = r ∧ s = a
    · obtain ⟨e1, e2⟩ := e
      subst e1 e2
      exact hnew
    · have hs1 : s < fr_n (ac r') := by
        by_cases e1 : r' = r
        · subst e1
          rw [pk_us, fr_nn (by omega)] at hs
          omega
        · rw [pk_un e1] at hs
          exact hs
      have h4' := (h2 r' hr').2.2.2.1.1
      have hz : 4 * r' + s ≠ 4 * r + a := by omega
      have hw := h6 r' s hr' hs1
      unfold fr_Aw at hw ⊢
      rw [pk_un hz, pk_un hz, pk_un hz, ox _ hz, oy _ hz, oz _ hz, oa _ (by omega), oa _ (by omega), oa _ (by omega)]
      exact hw
  · have h4' := (h2 r' hr').2.2.2.1.1
    by_cases e : r' = r
    · subst e
      rw [hh, h7 r' hr', pk_us, fr_nn (by omega), ha4]
      constructor
      · intro hq
        rcases hq with ⟨s, h1, h2⟩ | hq
        · exact ⟨s, by omega, by rw [pk_un (by omega)]; exact h2⟩
        · exact ⟨a, by omega, by rw [pk_us]; exact hq⟩
      · intro ⟨s, h1, h2⟩
        by_cases e1 : s = a
        · subst e1
          rw [pk_us] at h2
          exact Or.inr h2
        · rw [pk_un (by omega)] at h2
          exact Or.inl ⟨s, by omega, h2⟩
    · rw [oh _ e, h7 r' hr', pk_un e]
      constructor
      · intro ⟨s, h1, h2⟩
        exact ⟨s, h1, by rw [pk_un (by omega)]; exact h2⟩
      · intro ⟨s, h1, h2⟩
        rw [pk_un (by omega)] at h2
        exact ⟨s, h1, h2⟩
/-! ===== what a usable operand is; variables bound ===== -/
theorem fr_16a : ∀ w, w < 16 → ∀ x, x < 4 → vp_nar .byte (nI w ||| ((1 : Int32) <<< (nI x &&& 31))) = nI (w ||| 2 ^ x) := by
  intro w hw x hx
  rw [vp_nar_byte]
  exact (by decide +kernel : ∀ w, w < 16 → ∀ x, x < 4 → (nI w ||| ((1 : Int32) <<< (nI x &&& 31))).toInt8.toInt32 = nI (w ||| 2 ^ x)) w hw x hx
theorem fr_16b : ∀ w, w < 16 → ∀ x, x < 4 → (w ||| 2 ^ x) < 16 ∧ (w ||| 2 ^ x) / 2 ^ x % 2 = 1 ∧ ∀ x', x' < 4 → x' ≠ x → (w ||| 2 ^ x) / 2 ^ x' % 2 = w / 2 ^ x' % 2 := by
  decide +kernel
theorem fr_16c : ∀ w, w < 16 → ∀ x, x < 4 → (nI w >>> (nI x &&& 31)) &&& 1 = nI (w / 2 ^ x % 2) := by
  decide +kernel
theorem fr_R5_n {R r i s : Nat} {H o : Int32} {tc th tp bd bp bf bm : Nat → Int32} (h5 : fr_R5 R tc th tp bd bp bf bm)
    (hs : fr_n (tc (5 * r + i)) = s) (hs4 : s < 4) (hall : ∀ r' i', r' < 4 → i' < 5 → fr_n (tc (5 * r' + i')) ≤ 4) (hi : i < 5) :
    fr_R5 R (upd tc (5 * r + i) (nI (s + 1))) (upd th (4 * (5 * r + i) + s) H) (upd tp (4 * (5 * r + i) + s) o) bd bp bf bm := by
  intro r' hr'
  obtain ⟨a, b, c⟩ := h5 r' hr'
  refine ⟨a, b, fun x hx => ⟨(c x hx).1, (c x hx).2.1, fun hb => ?_⟩⟩
  obtain ⟨d1, d2, d3⟩ := (c x hx).2.2 hb
  exact ⟨fr_Bd_up hs hs4 hall hi hr' d1, d2, d3⟩
theorem fr_R5_b {R r i s x P : Nat} {F : Int32} {tc th tp bd bp bf bm : Nat → Int32} (h5 : fr_R5 R tc th tp bd bp bf bm)
    (hR : R = r + 1) (hr : r < 4) (hx : x < 4)
    (hs : fr_n (tc (5 * r + i)) = s) (hs4 : s < 4) (hall : ∀ r' i', r' < 4 → i' < 5 → fr_n (tc (5 * r' + i')) ≤ 4) (hi : i < 5) (hP : P < 3) (hF : fr_Lt F 3) :
    fr_R5 R (upd tc (5 * r + i) (nI (s + 1))) (upd th (4 * (5 * r + i) + s) 3) (upd tp (4 * (5 * r + i) + s) (nI x)) (upd bd (4 * r + x) 1) (upd bp (4 * r + x) (nI P)) (upd bf (4 * r + x) F) (upd bm r (nI (fr_n (bm r) ||| 2 ^ x))) := by
  intro r' hr'
  obtain ⟨a, b, c⟩ := h5 r' hr'
  by_cases e : r' = r
  · subst e
    have ⟨q1, q2, q3⟩ := fr_16b (fr_n (bm r')) a.1 x hx
    rw [pk_us]
    refine ⟨fr_Lt_n q1 (by omega), fun h => by omega, fun x' hx' => ?_⟩
    rw [fr_nn (by omega)]
    by_cases e1 : x' = x
    · subst e1
      rw [pk_us, pk_us, pk_us]
      refine ⟨⟨fun _ => by decide, fun _ => q2⟩, Or.inr rfl, fun _ => ⟨⟨i, s, by omega, hi, ?_, pk_us, pk_us⟩, fr_Lt_n hP (by omega), hF⟩⟩
      rw [pk_us, fr_nn (by omega)]
      omega
    · rw [pk_un (by omega), pk_un (by omega), pk_un (by omega), q3 x' hx' e1]
      refine ⟨(c x' hx').1, (c x' hx').2.1, fun hb => ?_⟩
      obtain ⟨d1, d2, d3⟩ := (c x' hx').2.2 hb
      exact ⟨fr_Bd_up hs hs4 hall hi hr' d1, d2, d3⟩
  · rw [pk_un e]
    refine ⟨a, b, fun x' hx' => ?_⟩
    rw [pk_un (by omega), pk_un (by omega), pk_un (by omega)]
    refine ⟨(c x' hx').1, (c x' hx').2.1, fun hb => ?_⟩
    obtain ⟨d1, d2, d3⟩ := (c x' hx').2.2 hb
    exact ⟨fr_Bd_up hs hs4 hall hi hr' d1, d2, d3⟩
/-! the new test, binding -/
theorem fr_test_b {R r i s x : Nat} {F : Int32} {po ng cn ac tt ha bd bp bf bm cg tc tf th tp aw ak ao ds wx wy wz : Nat → Int32}
    (h : fr_RB R po ng cn ac tt ha bd bp bf bm cg tc tf th tp aw ak ao ds wx wy wz)
    (hR : R = r + 1) (hr : r < 4) (hi : i + 1 = fr_n (po r) + fr_n (ng r)) (hs : fr_n (tc (5 * r + i)) = s) (hs4 : s < 4)
    (hx : x < 4) (hb : bd (4 * r + x) = 0) (hc : cg (5 * r + i) = 0) (hF : fr_Lt F 3) :
    fr_RB R po ng cn ac (upd tt r (nI (fr_tt tc r (fr_n (po r) + fr_n (ng r)) + 1))) ha (upd bd (4 * r + x) 1) (upd bp (4 * r + x) (nI (fr_n (po r) - 1))) (upd bf (4 * r + x) F) (upd bm r (nI (fr_n (bm r) ||| 2 ^ x))) cg (upd tc (5 * r + i) (nI (s + 1))) (upd tf (4 * (5 * r + i) + s) F) (upd th (4 * (5 * r + i) + s) 3) (upd tp (4 * (5 * r + i) + s) (nI x)) aw ak ao ds wx wy wz := by
  have h' := h
  obtain ⟨h2, h3, h4, h5, h6, h7⟩ := h'
  have ⟨p4, m3, _, _, hnp, _⟩ := h2 r hr
  have p4' := p4.1
  have m3' := m3.1
  have hi5 : i < 5 := by omega
  have hall : ∀ r' i', r' < 4 → i' < 5 → fr_n (tc (5 * r' + i')) ≤ 4 := fun r' i' a b => by
    have := ((h3 r' a).1 i' b).1.1
    omega
  have hnp' : fr_np cg r i + 1 = fr_n (po r) := by rw [← fr_np_s hc, hi, hnp]
  refine fr_test h hR hr hi hs hs4 ?_ ?_ (fr_R5_b h5 hR hr hx hs hs4 hall hi5 (by omega) hF)
  · intro r' x' hr' hx' hb'
    have hne : 4 * r' + x' ≠ 4 * r + x := fun e => hb' (by rw [e]; exact hb)
    rw [pk_un hne, pk_un hne, pk_un hne]
    exact ⟨hb', rfl, rfl⟩
  · unfold fr_Tw
    rw [pk_us, pk_us, pk_us]
    refine ⟨hF, fr_Lt_of (n := 3) rfl (by omega) (by omega), fun _ => ⟨hc, x, hx, rfl, ?_, ?_, ?_⟩, fun hh => absurd rfl hh⟩
    · rw [pk_us]; decide
    · rw [pk_us, show fr_n (po r) - 1 = fr_np cg r i from by omega]
    · rw [pk_us]
/-! the new test, comparing -/
theorem fr_test_n {R r i s H : Nat} {F o : Int32} {po ng cn ac tt ha bd bp bf bm cg tc tf th tp aw ak ao ds wx wy wz : Nat → Int32}
    (h : fr_RB R po ng cn ac tt ha bd bp bf bm cg tc tf th tp aw ak ao ds wx wy wz)
    (hR : R = r + 1) (hr : r < 4) (hi : i + 1 = fr_n (po r) + fr_n (ng r)) (hs : fr_n (tc (5 * r + i)) = s) (hs4 : s < 4)
    (hH : H < 3) (ho : fr_Us bd r o) (hF : fr_Lt F 3) :
    fr_RB R po ng cn ac (upd tt r (nI (fr_tt tc r (fr_n (po r) + fr_n (ng r)) + 1))) ha bd bp bf bm cg (upd tc (5 * r + i) (nI (s + 1))) (upd tf (4 * (5 * r + i) + s) F) (upd th (4 * (5 * r + i) + s) (nI H)) (upd tp (4 * (5 * r + i) + s) o) aw ak ao ds wx wy wz := by
  have h' := h
  obtain ⟨h2, h3, h4, h5, h6, h7⟩ := h'
  have ⟨p4, m3, _, _, hnp, _⟩ := h2 r hr
  have p4' := p4.1
  have m3' := m3.1
  have hi5 : i < 5 := by omega
  have hall : ∀ r' i', r' < 4 → i' < 5 → fr_n (tc (5 * r' + i')) ≤ 4 := fun r' i' a b => by
    have := ((h3 r' a).1 i' b).1.1
    omega
  have hH3 : nI H ≠ 3 := fun e => by
    have := (nI_eq (a := H) (b := 3) (by omega) (by omega)).mp e
    omega
  refine fr_test h hR hr hi hs hs4 (fun _ _ _ _ hb => ⟨hb, rfl, rfl⟩) ?_ (fr_R5_n h5 hs hs4 hall hi5)
  unfold fr_Tw
  rw [pk_us, pk_us, pk_us]
  refine ⟨hF, fr_Lt_n (by omega) (by omega), fun hh => absurd hh hH3, fun _ hodd => ?_⟩
  obtain ⟨x, q1, q2, q3⟩ := ho hodd
  obtain ⟨⟨i', s', b1, b2, b3, b4, b5⟩, _, _⟩ := ((h5 r hr).2.2 x q1).2.2 q3
  refine ⟨x, q1, q2, q3, fr_Bd_up hs hs4 hall hi5 hr ⟨i', s', ?_, b2, b3, b4, b5⟩⟩
  have := hall r i' hr b2
  have h0 := ((h3 r hr).1 i' b2).2
  by_cases e : i' = i
  · subst e
    omega
  · by_cases l : i' < i
    · omega
    · rw [h0 (by omega)] at b3
      exact absurd b3 (Nat.not_lt_zero s')
/-! ===== facts put in and taken out ===== -/
theorem fr_FB_up {b b' : Nat} {fc md : Int32} {nb : Nat → Int32} (h : fr_FB b fc md nb) (hb : b ≤ b') : fr_FB b' fc md nb := by
  obtain ⟨⟨m, h1, h2, h3⟩, h4, h5⟩ := h
  exact ⟨⟨m, by omega, h2, h3⟩, h4, h5⟩
theorem fr_FB_n {b : Nat} {fc md : Int32} {nb : Nat → Int32} (h : fr_FB b fc md nb) : ∀ f, f < 6 → nb f = nI (fr_n (nb f)) := by
  obtain ⟨⟨m, h1, h2, h3⟩, h4, h5⟩ := h
  exact fun f hf => (h3 f hf).2
theorem fr_FB_add {b f : Nat} {fc md : Int32} {nb : Nat → Int32} (h : fr_FB b fc md nb) (hb : b + 2 < 2 ^ 31) (hf : f < 6) (h0 : nb f = 0) :
    fr_FB (b + 1) (fc + 1) (md + 1) (upd nb f (md + 1)) ∧ md + 1 ≠ 0 := by
  obtain ⟨⟨m, h1, h2, h3⟩, h4, h5⟩ := h
  have e1 : md + 1 = nI (m + 1) := by rw [h2, nI_1]
  have hne : md + 1 ≠ 0 := by rw [e1]; exact nI_ne0 (by omega) (by omega)
  have hlt : ∀ g, g < 6 → nb g ≠ md + 1 := by
    intro g hg e
    have := (h3 g hg).1
    rw [e, e1, fr_nn (by omega)] at this
    omega
  refine ⟨⟨⟨m + 1, by omega, e1, fun g hg => ?_⟩, fun g g' hg hg' hn he => ?_, ?_⟩, hne⟩
  · by_cases e : g = f
    · rw [e, pk_us, e1]
      exact fr_Lt_n (by omega) (by omega)
    · rw [pk_un e]
      have := h3 g hg
      exact ⟨by have := this.1; omega, this.2⟩
  · by_cases e : g = f
    · by_cases e' : g' = f
      · rw [e, e']
      · rw [e, pk_us, pk_un e'] at he
        exact absurd he.symm (hlt g' hg')
    · by_cases e' : g' = f
      · rw [e', pk_us, pk_un e] at he
        exact absurd he (hlt g hg)
      · rw [pk_un e, pk_un e'] at he
        rw [pk_un e] at hn
        exact h4 g g' hg hg' hn he
  · rw [h5, nI_1]
    refine congrArg nI (fr_ct_on (k := f) ?_ ?_ ?_ 6 hf).symm
    · rw [h0]; decide
    · rw [pk_us]; exact decide_eq_true hne
    · intro j hj
      rw [pk_un hj]
theorem fr_FB_del {b f : Nat} {fc md : Int32} {nb : Nat → Int32} (h : fr_FB b fc md nb) (hf : f < 6) (h0 : nb f ≠ 0) (hb : b + 2 < 2 ^ 31) :
    fr_FB b (fc - 1) md (upd nb f 0) := by
  obtain ⟨⟨m, h1, h2, h3⟩, h4, h5⟩ := h
  refine ⟨⟨m, h1, h2, fun g hg => ?_⟩, fun g g' hg hg' hn he => ?_, ?_⟩
  · by_cases e : g = f
    · rw [e, pk_us]
      exact fr_Lt_0 (by omega) (by omega)
    · rw [pk_un e]
      exact h3 g hg
  · by_cases e : g = f
    · rw [e, pk_us] at hn
      exact absurd rfl hn
    · by_cases e' : g' = f
      · rw [e', pk_us] at he
        exact absurd he hn
      · rw [pk_un e, pk_un e'] at he
        rw [pk_un e] at hn
        exact h4 g g' hg hg' hn he
  · have := fr_ct_on (g := fun g => decide (upd nb f 0 g ≠ 0)) (g' := fun g => decide (nb g ≠ 0)) (k := f) (by rw [pk_us]; decide) (decide_eq_true h0) (fun j hj => by rw [pk_un hj]) 6 hf
    rw [h5, this]
    exact nI_pred _
/-! ===== the variables that a test reads ===== -/
theorem fr_n4 {x : Nat} (hx : x < 4) : nI x &&& 3 = nI x := by
  rw [pk_andN (by omega) 2 (by decide), Nat.mod_eq_of_lt (by omega)]
theorem fr_ov_e {w : Nat → Int32} {o : Int32} (h : o &&& 1 = 0) : fr_ov w o = o >>> ((1 : Int32) &&& 31) := by
  unfold fr_ov; rw [if_pos h]
theorem fr_ov_o {w : Nat → Int32} {o : Int32} {x : Nat} (h : o &&& 1 ≠ 0) (hx : x < 4) (e : o >>> ((1 : Int32) &&& 31) = nI x) : fr_ov w o = w x := by
  unfold fr_ov; rw [if_neg h, e, fr_n4 hx, fr_nn (by omega)]
theorem fr_Ti_v {cg tc tf th tp bd bp bf fl w w' : Nat → Int32} {r i s f : Nat} (hT : fr_Tw cg tc tf th tp bd bp bf r i s)
    (hw : ∀ x, x < 4 → bd (4 * r + x) ≠ 0 → fr_Bd tc th tp r x (4 * i + s) → w x = w' x) :
    fr_Ti fl tf th tp w (5 * r + i) f s = fr_Ti fl tf th tp w' (5 * r + i) f s := by
  obtain ⟨_, _, _, h4⟩ := hT
  unfold fr_Ti
  by_cases h3 : th (4 * (5 * r + i) + s) = 3
  · apply propext
    exact ⟨fun _ h => absurd h3 h, fun _ h => absurd h3 h⟩
  · by_cases ho : tp (4 * (5 * r + i) + s) &&& 1 = 0
    · rw [fr_ov_e ho, fr_ov_e ho]
    · obtain ⟨x, h5, h6, h7, h8⟩ := h4 h3 ho
      rw [fr_ov_o ho h5 h6, fr_ov_o ho h5 h6, hw x h5 h7 h8]
theorem fr_T_v {cg tc tf th tp bd bp bf kd fl ck w w' : Nat → Int32} {r i f : Nat} (h4 : fr_R4 cg tc tf th tp bd bp bf) (hr : r < 4) (hi : i < 5)
    (hw : ∀ x, x < 4 → bd (4 * r + x) ≠ 0 → w x = w' x) :
    fr_T kd fl ck tc tf th tp w (5 * r + i) f = fr_T kd fl ck tc tf th tp w' (5 * r + i) f := by
  unfold fr_T
  apply propext
  constructor
  · intro ⟨a, b⟩
    refine ⟨a, fun s hs => ?_⟩
    rw [← fr_Ti_v (h4 r i s hr hi hs) (fun x h1 h2 _ => hw x h1 h2)]
    exact b s hs
  · intro ⟨a, b⟩
    refine ⟨a, fun s hs => ?_⟩
    rw [fr_Ti_v (h4 r i s hr hi hs) (fun x h1 h2 _ => hw x h1 h2)]
    exact b s hs
end
section
/-! ===== numbers as they are printed ===== -/
theorem fr_d216 {a : Nat} (h : a < 2 ^ 31) : nI a / 216 = nI (a / 216) := pk_div (d := 216) h (by decide) (by decide)
theorem fr_r216 {a : Nat} (h : a < 2 ^ 31) : nI a - nI a / 216 * 216 = nI (a % 216) := pk_rem (d := 216) h (by decide) (by decide)
theorem fr_d36 {a : Nat} (h : a < 2 ^ 31) : nI a / 36 = nI (a / 36) := pk_div (d := 36) h (by decide) (by decide)
theorem fr_d6 {a : Nat} (h : a < 2 ^ 31) : nI a / 6 = nI (a / 6) := pk_div (d := 6) h (by decide) (by decide)
theorem fr_r6 {a : Nat} (h : a < 2 ^ 31) : nI a - nI a / 6 * 6 = nI (a % 6) := pk_rem (d := 6) h (by decide) (by decide)
theorem fr_5m (a : Nat) : (5 : Int32) * nI a = nI (5 * a) := pk_mul 5 a
theorem fr_4m (a : Nat) : (4 : Int32) * nI a = nI (4 * a) := pk_mul 4 a
theorem fr_3m (a : Nat) : (3 : Int32) * nI a = nI (3 * a) := pk_mul 3 a
theorem fr_m5 (a : Nat) : nI a * 5 = nI (5 * a) := by rw [Nat.mul_comm]; exact pk_mul a 5
theorem fr_m4 (a : Nat) : nI a * 4 = nI (4 * a) := by rw [Nat.mul_comm]; exact pk_mul a 4
theorem fr_m3 (a : Nat) : nI a * 3 = nI (3 * a) := by rw [Nat.mul_comm]; exact pk_mul a 3
theorem fr_Lt_add {x : Int32} {a b : Nat} (h : fr_Lt x b) : nI a + x = nI (a + fr_n x) := (congrArg (fun z => nI a + z) h.2).trans (nI_add _ _)
theorem fr_cmp {P : Int32 → Prop} {a b : Nat} (ha : a < 2 ^ 31) (hb : b < 2 ^ 31) (h : P (fr_b ((b : Int) < (a : Int)))) : (nI a ≤ nI b → P 0) ∧ (¬ nI a ≤ nI b → P 1) :=
  pk_le a b (fun hl => by rw [fr_bf (by omega)] at h; exact h) (fun hl => by rw [fr_bt (by omega)] at h; exact h) rfl rfl ha hb
theorem fr_cmp2 {P : Int32 → Prop} {A : Prop} {a b : Nat} (ha : a < 2 ^ 31) (hb : b < 2 ^ 31) (h : ((a : Int) = (b : Int) → A) ∧ ((a : Int) ≠ (b : Int) → P (fr_b ((b : Int) < (a : Int))))) :
    (nI a = nI b → A) ∧ (¬ nI a = nI b → (nI a ≤ nI b → P 0) ∧ (¬ nI a ≤ nI b → P 1)) :=
  pk_eq a b (fun e => h.1 (by omega)) (fun e => fr_cmp ha hb (h.2 (by omega))) rfl rfl ha hb
theorem fr_cmp3 {P : Int32 → Prop} {A : Prop} {a b : Int32} (h : (a.toInt = b.toInt → A) ∧ (a.toInt ≠ b.toInt → P (fr_b (b.toInt < a.toInt)))) :
    (a = b → A) ∧ (¬ a = b → (a ≤ b → P 0) ∧ (¬ a ≤ b → P 1)) := by
  refine br_c (fun e => h.1 (by rw [e])) (fun e => ?_)
  have h' := h.2 (fun k => e (Int32.toInt_inj.mp k))
  refine br_c (fun l => ?_) (fun l => ?_)
  · rw [fr_bf (by rw [Int32.le_iff_toInt_le] at l; omega)] at h'; exact h'
  · rw [fr_bt (by rw [Int32.le_iff_toInt_le] at l; omega)] at h'; exact h'
section
variable {fc md rl bl pc ht : Int32} {nb kd fl sa po ng tt ac ha bd bp bf ck cg tc tf th tp aw ak ao cs ex mx va ff fv pr cn bm ds wx wy wz hd my vs : Nat → Int32} {R : Nat}
/-! ===== the reference's readers ===== -/
theorem fy_place {post : Int32 → Prop} {y j : Nat} (hy : y < 864) (hj : j < 3) (h : post (nI (fr_dg y j))) : wpY_place post (nI y) (nI j) := by
  unfold wpY_place
  match j, hj, h with
  | 0, _, h =>
    refine br_t nI_0 ⟨by decide, by decide, ?_⟩
    rw [fr_d36 (by omega), fr_r6 (by omega)]
    exact h
  | 1, _, h =>
    refine br_f (by decide) (br_t rfl ⟨by decide, by decide, ?_⟩)
    rw [fr_d6 (by omega), fr_r6 (by omega)]
    exact h
  | 2, _, h =>
    refine br_f (by decide) (br_f (by decide) ⟨by decide, ?_⟩)
    rw [fr_r6 (by omega)]
    exact h
theorem fy_value {post : Int32 → Prop} {o : Int32} (hu : o &&& 1 ≠ 0 → ∃ x, x < 4 ∧ o >>> ((1 : Int32) &&& 31) = nI x) (h : post (fr_ov vs o)) : wpY_value post (rl, bl, md, pc, ht, sa, cn, po, ac, bm, ck, cg, tc, tf, th, tp, ds, wx, wy, wz, nb, kd, fl, hd, my, vs, pr) o := by
  by_cases h0 : o &&& 1 = 0
  · rw [fr_ov_e h0] at h
    exact br_t h0 h
  · obtain ⟨x, hx, e⟩ := hu h0
    rw [fr_ov_o h0 hx e] at h
    refine br_f h0 ⟨?_, ?_⟩
    · rw [e]; exact vp_in_nI hx (by omega)
    · rw [e, nI_clamp (by omega)]; exact h
theorem fy_number {post : Int32 → Prop} {y j : Nat} (hp : ∀ r, r < 4 → fr_Lt (po r) 4) (hb : ∀ f, f < 6 → nb f = nI (fr_n (nb f))) (hy : y < 864) (hj : j < 3)
    (h : post (nI (fr_gv nb po y j))) : wpY_number post (rl, bl, md, pc, ht, sa, cn, po, ac, bm, ck, cg, tc, tf, th, tp, ds, wx, wy, wz, nb, kd, fl, hd, my, vs, pr) (nI y) (nI j) := by
  have e : nI y / 216 = nI (y / 216) := fr_d216 (by omega)
  have hp4 := hp (y / 216) (by omega)
  have h4 := hp4.1
  have e2 : po (nI y / 216).toNatClampNeg = nI (fr_n (po (y / 216))) := by
    rw [e, nI_clamp (by omega)]; exact hp4.2
  refine ⟨by decide, by rw [e]; exact vp_in_nI (by omega) (by omega), ?_⟩
  refine pk_lt j (fr_n (po (y / 216))) (fun hl => ?_) (fun hl => ?_) rfl e2 (by omega) (by omega)
  · refine fy_place hy hj ⟨vp_in_nI (fr_dg_lt y j) (by omega), ?_⟩
    have hd := fr_dg_lt y j
    rw [nI_clamp (by omega), hb _ hd]
    unfold fr_gv at h
    rw [if_neg (by omega)] at h
    exact h
  · unfold fr_gv at h
    rw [if_pos hl] at h
    exact h
theorem fr_gv_lt {m y j : Nat} (hb : ∀ f, f < 6 → fr_n (nb f) < m) (hm : 0 < m) : fr_gv nb po y j < m := by
  unfold fr_gv
  split
  · exact hm
  · exact hb _ (fr_dg_lt y j)
theorem fr_rk_lt {a b c j m : Nat} (ha : a < m) (hb : b < m) (hc : c < m) : fr_rk a b c j < m := by
  unfold fr_rk
  (repeat' split) <;> assumption
theorem fr_gr_lt {m y j : Nat} (hb : ∀ f, f < 6 → fr_n (nb f) < m) (hm : 0 < m) : fr_gr nb po y j < m :=
  fr_rk_lt (fr_gv_lt hb hm) (fr_gv_lt hb hm) (fr_gv_lt hb hm)
theorem fy_gr49 {post : Int32 → Prop} {c hi lo j : Nat} (hc : c < 2 ^ 31) (hh : hi < 2 ^ 31) (hl : lo < 2 ^ 31) (hj : j < 3)
    (h : post (nI (if j = 0 then (if hi < c then c else hi) else if j = 1 then (if hi < c then hi else if c < lo then lo else c) else (if c < lo then c else lo)))) :
    wY_greatest_49 post (nI j) (nI c) (nI hi) (nI lo) rl bl md pc ht sa cn po ac bm ck cg tc tf th tp ds wx wy wz nb kd fl hd my vs pr := by
  match j, hj, h with
  | 0, _, h =>
    refine br_t nI_0 (pk_le hi c (fun l => ?_) (fun l => ?_) rfl rfl hh hc)
    · rw [if_pos rfl, show (if hi < c then c else hi) = c from by split <;> omega] at h
      exact h
    · rw [if_pos rfl, if_neg (by omega)] at h
      exact h
  | 1, _, h =>
    rw [if_neg (by decide), if_pos rfl] at h
    refine br_f (by decide) (br_f (by decide) (pk_le c hi (fun l => pk_le lo c (fun l2 => ?_) (fun l2 => ?_) rfl rfl hl hc) (fun l => ?_) rfl rfl hc hh))
    · rw [if_neg (by omega), if_neg (by omega)] at h
      exact h
    · rw [if_neg (by omega), if_pos (by omega)] at h
      exact h
    · rw [if_pos (by omega)] at h
      exact h
  | 2, _, h =>
    rw [if_neg (by decide), if_neg (by decide)] at h
    refine br_f (by decide) (br_t rfl (pk_le c lo (fun l => ?_) (fun l => ?_) rfl rfl hc hl))
    · rw [show (if c < lo then c else lo) = c from by split <;> omega] at h
      exact h
    · rw [if_neg (by omega)] at h
      exact h
theorem fy_greatest {post : Int32 → Prop} {y j : Nat} (hp : ∀ r, r < 4 → fr_Lt (po r) 4) (hb : ∀ f, f < 6 → nb f = nI (fr_n (nb f))) (hn : ∀ f, f < 6 → fr_n (nb f) < 2 ^ 31) (hy : y < 864) (hj : j < 3)
    (h : post (nI (fr_gr nb po y j))) : wpY_greatest post (rl, bl, md, pc, ht, sa, cn, po, ac, bm, ck, cg, tc, tf, th, tp, ds, wx, wy, wz, nb, kd, fl, hd, my, vs, pr) (nI y) (nI j) := by
  have a := fr_gv_lt (nb := nb) (po := po) (y := y) (j := 0) hn (by decide)
  have b := fr_gv_lt (nb := nb) (po := po) (y := y) (j := 1) hn (by decide)
  have c := fr_gv_lt (nb := nb) (po := po) (y := y) (j := 2) hn (by decide)
  unfold fr_gr fr_rk at h
  unfold wpY_greatest
  refine fy_number (j := 0) hp hb hy (by omega) ?_
  refine fy_number (j := 1) hp hb hy (by omega) ?_
  refine fy_number (j := 2) hp hb hy (by omega) ?_
  refine pk_le (fr_gv nb po y 0) (fr_gv nb po y 1) (fun l => br_t (nI_le l b) ?_) (fun l => br_f (nI_ge l a) ?_) rfl rfl a b
  · refine fy_gr49 c b a hj ?_
    have hn : ¬ fr_gv nb po y 1 < fr_gv nb po y 0 := by omega
    simp only [if_neg hn] at h
    exact h
  · refine fy_gr49 c a b hj ?_
    simp only [if_pos l] at h
    exact h
theorem fy_testCount {post : Int32 → Prop} {r n : Nat} (hr : r < 4) (hc : cn r = nI n) (hn : n ≤ 5) (htc : ∀ i, i < 5 → tc (5 * r + i) = nI (fr_n (tc (5 * r + i))))
    (h : post (nI (fr_tt tc r n))) : wpY_testCount post (rl, bl, md, pc, ht, sa, cn, po, ac, bm, ck, cg, tc, tf, th, tp, ds, wx, wy, wz, nb, kd, fl, hd, my, vs, pr) (nI r) := by
  have ec : cn (nI r).toNatClampNeg = nI n := by rw [nI_clamp (by omega)]; exact hc
  refine nm_r (fr_5m r) ⟨n + 1, ?_⟩
  refine fr_upto (fun k i => wY_testCount_6 post (nI r) rl bl md pc ht sa cn po ac bm ck cg tc tf th tp ds wx wy wz nb kd fl hd my vs pr k (nI (fr_tt tc r i)) (nI (5 * r + i))) n ?_ ?_
  · intro k
    refine ⟨vp_in_nI hr (by omega), br_t ?_ h⟩
    rw [ec, fr_5m, nI_add]
    exact Int32.le_refl _
  · intro k i hi hk
    refine ⟨vp_in_nI hr (by omega), br_f ?_ ⟨vp_in_nI (by omega) (by omega), nm_r (e' := nI (fr_tt tc r (i + 1))) ?_ (nm_r (e' := nI (5 * r + (i + 1))) (nI_1 _) hk)⟩⟩
    · rw [ec, fr_5m, nI_add]
      exact nI_ge (by omega) (by omega)
    · rw [nI_clamp (by omega), htc i (by omega), nI_add]
      rfl
/-! the order: the component of a choice by its rule, then the ranked numbers, then the numbers of tests, the rule, the numbers -/
theorem fy_b160 {post : Int32 → Prop} {a b j k : Nat} (hp : ∀ r, r < 4 → fr_Lt (po r) 4) (hb : ∀ f, f < 6 → nb f = nI (fr_n (nb f))) (hn : ∀ f, f < 6 → fr_n (nb f) < 2 ^ 31) (ha : a < 864) (hb8 : b < 864) (hj : j < 3)
    (h : ((fr_gv nb po a j : Int) = (fr_gv nb po b j : Int) → wY_before_160 post (nI a) (nI b) rl bl md pc ht sa cn po ac bm ck cg tc tf th tp ds wx wy wz nb kd fl hd my vs pr k (nI (j + 1))) ∧ ((fr_gv nb po a j : Int) ≠ (fr_gv nb po b j : Int) → post (fr_b ((fr_gv nb po b j : Int) < (fr_gv nb po a j : Int))))) :
    wY_before_160 post (nI a) (nI b) rl bl md pc ht sa cn po ac bm ck cg tc tf th tp ds wx wy wz nb kd fl hd my vs pr (k + 1) (nI j) := by
  refine br_f (nI_ge (b := 3) hj (by decide)) (fy_number hp hb ha hj (fy_number hp hb hb8 hj ?_))
  exact fr_cmp2 (fr_gv_lt hn (by decide)) (fr_gv_lt hn (by decide)) ⟨fun e => nm_r (nI_1 j) (h.1 e), h.2⟩
theorem fy_b54 {post : Int32 → Prop} {a b j k : Nat} {x3 x4 : Int32} (hp : ∀ r, r < 4 → fr_Lt (po r) 4) (hb : ∀ f, f < 6 → nb f = nI (fr_n (nb f))) (hn : ∀ f, f < 6 → fr_n (nb f) < 2 ^ 31) (ha : a < 864) (hb8 : b < 864) (hj : j < 3)
    (h : ((fr_gr nb po a j : Int) = (fr_gr nb po b j : Int) → wY_before_54 post (nI a) (nI b) x3 x4 rl bl md pc ht sa cn po ac bm ck cg tc tf th tp ds wx wy wz nb kd fl hd my vs pr k (nI (j + 1))) ∧ ((fr_gr nb po a j : Int) ≠ (fr_gr nb po b j : Int) → post (fr_b ((fr_gr nb po b j : Int) < (fr_gr nb po a j : Int))))) :
    wY_before_54 post (nI a) (nI b) x3 x4 rl bl md pc ht sa cn po ac bm ck cg tc tf th tp ds wx wy wz nb kd fl hd my vs pr (k + 1) (nI j) := by
  refine br_f (nI_ge (b := 3) hj (by decide)) (fy_greatest hp hb hn ha hj (fy_greatest hp hb hn hb8 hj ?_))
  exact fr_cmp2 (fr_gr_lt hn (by decide)) (fr_gr_lt hn (by decide)) ⟨fun e => nm_r (nI_1 j) (h.1 e), h.2⟩
theorem fy_before {post : Int32 → Prop} {a b : Nat} (h2 : fr_R2 R po ng cn ac cg) (h3 : fr_R3 po ng tc tt) (hb : ∀ f, f < 6 → nb f = nI (fr_n (nb f))) (hn : ∀ f, f < 6 → fr_n (nb f) < 2 ^ 31) (ha : a < 864) (hb8 : b < 864)
    (h : post (fr_b (fr_B nb sa po ng tc a b))) : wpY_before post (rl, bl, md, pc, ht, sa, cn, po, ac, bm, ck, cg, tc, tf, th, tp, ds, wx, wy, wz, nb, kd, fl, hd, my, vs, pr) (nI a) (nI b) := by
  have hp : ∀ r, r < 4 → fr_Lt (po r) 4 := fun r hr => (h2 r hr).1
  have ra : a / 216 < 4 := by omega
  have rb : b / 216 < 4 := by omega
  have qa := h2 _ ra
  have qb := h2 _ rb
  have na : fr_n (po (a / 216)) + fr_n (ng (a / 216)) ≤ 5 := by have := qa.1.1; have := qa.2.1.1; omega
  have nb' : fr_n (po (b / 216)) + fr_n (ng (b / 216)) ≤ 5 := by have := qb.1.1; have := qb.2.1.1; omega
  have ta : fr_tt tc (a / 216) (fr_n (po (a / 216)) + fr_n (ng (a / 216))) ≤ 20 := by
    have := fr_tt_le (tc := tc) (r := a / 216) (fr_n (po (a / 216)) + fr_n (ng (a / 216))) (fun i hi => by have := ((h3 _ ra).1 i (by omega)).1.1; omega)
    omega
  have tb : fr_tt tc (b / 216) (fr_n (po (b / 216)) + fr_n (ng (b / 216))) ≤ 20 := by
    have := fr_tt_le (tc := tc) (r := b / 216) (fr_n (po (b / 216)) + fr_n (ng (b / 216))) (fun i hi => by have := ((h3 _ rb).1 i (by omega)).1.1; omega)
    omega
  unfold fr_B fr_K at h
  have s0 := fr_lx_st h
  refine ⟨by decide, nm_r (fr_d216 (by omega)) ⟨by decide, nm_r (fr_d216 (by omega)) ⟨vp_in_nI ra (by omega), vp_in_nI rb (by omega), ?_⟩⟩⟩
  rw [nI_clamp (by omega), nI_clamp (by omega)]
  refine br_c (fun e => ?_) (fun e => ⟨vp_in_nI ra (by omega), vp_in_nI rb (by omega), ?_⟩)
  · have s1 := fr_lx_st (s0.1 (by rw [e]))
    refine ⟨4, fy_b54 (j := 0) hp hb hn ha hb8 (by omega) ⟨fun e1 => ?_, s1.2⟩⟩
    have s2 := fr_lx_st (s1.1 e1)
    refine fy_b54 (j := 1) hp hb hn ha hb8 (by omega) ⟨fun e2 => ?_, s2.2⟩
    have s3 := fr_lx_st (s2.1 e2)
    refine fy_b54 (j := 2) hp hb hn ha hb8 (by omega) ⟨fun e3 => ?_, s3.2⟩
    have s4 := fr_lx_st (s3.1 e3)
    refine br_t (nI_le (a := 3) (b := 3) (by omega) (by decide)) ?_
    refine fy_testCount ra qa.2.2.1 na (fun i hi => ((h3 _ ra).1 i hi).1.2) ?_
    refine fy_testCount rb qb.2.2.1 nb' (fun i hi => ((h3 _ rb).1 i hi).1.2) ?_
    refine fr_cmp2 (by omega) (by omega) ⟨fun e4 => ?_, s4.2⟩
    have s5 := fr_lx_st (s4.1 e4)
    refine pk_eq (a / 216) (b / 216) (fun e5 => ?_) (fun e5 => ?_) rfl rfl (by omega) (by omega)
    · have s6 := fr_lx_st (s5.1 (by omega))
      refine ⟨4, fy_b160 (j := 0) hp hb hn ha hb8 (by omega) ⟨fun e6 => ?_, s6.2⟩⟩
      have s7 := fr_lx_st (s6.1 e6)
      refine fy_b160 (j := 1) hp hb hn ha hb8 (by omega) ⟨fun e7 => ?_, s7.2⟩
      have s8 := fr_lx_st (s7.1 e7)
      refine fy_b160 (j := 2) hp hb hn ha hb8 (by omega) ⟨fun e8 => ?_, s8.2⟩
      exact br_t (nI_le (a := 3) (b := 3) (by omega) (by decide)) (fr_lx_nil (s8.1 e8))
    · have s6 := s5.2 (by omega)
      refine pk_le (b / 216) (a / 216) (fun l => ?_) (fun l => ?_) rfl rfl (by omega) (by omega)
      · rw [fr_bf (by omega)] at s6; exact s6
      · rw [fr_bt (by omega)] at s6; exact s6
  · have h' := s0.2 (fun k => e (Int32.toInt_inj.mp k))
    refine br_c (fun l => ?_) (fun l => ?_)
    · rw [fr_bf (by rw [Int32.le_iff_toInt_le] at l; omega)] at h'; exact h'
    · rw [fr_bt (by rw [Int32.le_iff_toInt_le] at l; omega)] at h'; exact h'
/-! the first one behind another -/
def fr_P (B : Nat → Nat → Prop) (ex mx : Nat → Int32) (prev : Int32) (c : Nat) : Prop := ex c ≠ 0 ∧ mx c = 0 ∧ ∀ p, p < 864 → prev = nI p → B p c
theorem fy_next45 {P : Nat → Prop} {x1 best : Int32} {c : Nat} (h2 : fr_R2 R po ng cn ac cg) (h3 : fr_R3 po ng tc tt) (hb : ∀ f, f < 6 → nb f = nI (fr_n (nb f))) (hn : ∀ f, f < 6 → fr_n (nb f) < 2 ^ 31) (hc : c < 864)
    (hto : ∀ a b, a < c + 1 → b < c + 1 → P a → P b → a ≠ b → fr_B nb sa po ng tc a b ∨ fr_B nb sa po ng tc b a)
    (hI : fr_Nx (fr_B nb sa po ng tc) P c best) (hP : P c) :
    ∃ best', fr_Nx (fr_B nb sa po ng tc) P (c + 1) best' ∧ ∀ (post : Int32 → Prop) (J : Int32 → Int32 → Prop), J best' (nI (c + 1)) → wY_next_45 post J x1 best (nI c) rl bl md pc ht sa cn po ac bm ck cg tc tf th tp ds wx wy wz nb kd fl hd my vs pr := by
  rcases fr_Nx_in hI with e | ⟨d, hd8, e, _⟩
  · subst e
    exact ⟨_, fr_Nx_new hI (by omega) hP, fun post J hJ => br_t (by decide) (nm_r (nI_1 c) hJ)⟩
  · subst e
    by_cases hB : fr_B nb sa po ng tc c d
    · refine ⟨_, fr_Nx_less fr_B_tr (by omega) (by omega) hI hP hB, fun post J hJ => br_f (nI_pos (by omega)) (fy_before h2 h3 hb hn hc (by omega) ?_)⟩
      rw [fr_bt hB]
      exact br_f (by decide) (nm_r (nI_1 c) hJ)
    · refine ⟨_, fr_Nx_keep hto (by omega) (by omega) hI hP hB, fun post J hJ => br_f (nI_pos (by omega)) (fy_before h2 h3 hb hn hc (by omega) ?_)⟩
      rw [fr_bf hB]
      exact br_t rfl (nm_r (nI_1 c) hJ)
theorem fy_next {prev : Int32} (h2 : fr_R2 R po ng cn ac cg) (h3 : fr_R3 po ng tc tt) (hb : ∀ f, f < 6 → nb f = nI (fr_n (nb f))) (hn : ∀ f, f < 6 → fr_n (nb f) < 2 ^ 31)
    (hdis : ∀ f g, f < 6 → g < 6 → nb f ≠ 0 → nb f = nb g → f = g) (hG : ∀ y, y < 864 → hd y ≠ 0 → fr_G nb po y) (hpv : prev = -1 ∨ ∃ p, p < 864 ∧ prev = nI p) :
    ∃ q, fr_Nx (fr_B nb sa po ng tc) (fr_P (fr_B nb sa po ng tc) hd my prev) 864 q ∧ ∀ post : Int32 → Prop, post q → wpY_next post (rl, bl, md, pc, ht, sa, cn, po, ac, bm, ck, cg, tc, tf, th, tp, ds, wx, wy, wz, nb, kd, fl, hd, my, vs, pr) prev := by
  have hto : ∀ a b, a < 864 → b < 864 → fr_P (fr_B nb sa po ng tc) hd my prev a → fr_P (fr_B nb sa po ng tc) hd my prev b → a ≠ b → fr_B nb sa po ng tc a b ∨ fr_B nb sa po ng tc b a :=
    fun a b la lb pa pb hne => fr_B_to hb hdis (hG a la pa.1) (hG b lb pb.1) hne
  have key : ∀ c best, c < 864 → fr_Nx (fr_B nb sa po ng tc) (fr_P (fr_B nb sa po ng tc) hd my prev) c best → ∃ best', fr_Nx (fr_B nb sa po ng tc) (fr_P (fr_B nb sa po ng tc) hd my prev) (c + 1) best' ∧ ∀ (post : Int32 → Prop) n, wY_next_4 post prev rl bl md pc ht sa cn po ac bm ck cg tc tf th tp ds wx wy wz nb kd fl hd my vs pr n best' (nI (c + 1)) → wY_next_4 post prev rl bl md pc ht sa cn po ac bm ck cg tc tf th tp ds wx wy wz nb kd fl hd my vs pr (n + 1) best (nI c) := by
    intro c best hc hI
    have hge : ¬ (864 : Int32) ≤ nI c := nI_ge (b := 864) hc (by decide)
    have hin : vp_in (nI c) 864 := vp_in_nI hc (by decide)
    have hcl : (nI c).toNatClampNeg = c := nI_clamp (by omega)
    by_cases he : hd c = 0
    · exact ⟨best, fr_Nx_no hI (fun h => h.1 he), fun post n hk => br_f hge ⟨hin, br_t (by rw [hcl]; exact he) (nm_r (nI_1 c) hk)⟩⟩
    · by_cases hm : my c = 0
      · by_cases hpb : ∀ p, p < 864 → prev = nI p → fr_B nb sa po ng tc p c
        · have hP : fr_P (fr_B nb sa po ng tc) hd my prev c := ⟨he, hm, hpb⟩
          obtain ⟨best', hN, hW⟩ := fy_next45 (rl := rl) (bl := bl) (md := md) (pc := pc) (ht := ht) (sa := sa) (cn := cn) (po := po) (ac := ac) (bm := bm) (ck := ck) (cg := cg) (tc := tc) (tf := tf) (th := th) (tp := tp) (ds := ds) (wx := wx) (wy := wy) (wz := wz) (nb := nb) (kd := kd) (fl := fl) (hd := hd) (my := my) (vs := vs) (pr := pr) (x1 := prev) h2 h3 hb hn hc (fun a b la lb => hto a b (by omega) (by omega)) hI hP
          refine ⟨best', hN, fun post n hk => br_f hge ⟨hin, br_f (by rw [hcl]; exact he) ⟨hin, br_t (by rw [hcl]; exact hm) ?_⟩⟩⟩
          rcases hpv with e | ⟨p, hp, e⟩
          · exact br_t (by rw [e]; decide) (hW post _ hk)
          · refine br_f (by rw [e]; exact nI_pos (by omega)) ?_
            rw [e]
            refine fy_before h2 h3 hb hn hp hc ?_
            rw [fr_bt (hpb p hp e)]
            refine br_f (by decide) ?_
            rw [← e]
            exact hW post _ hk
        · refine ⟨best, fr_Nx_no hI (fun h => hpb h.2.2), fun post n hk => br_f hge ⟨hin, br_f (by rw [hcl]; exact he) ⟨hin, br_t (by rw [hcl]; exact hm) ?_⟩⟩⟩
          rcases hpv with e | ⟨p, hp, e⟩
          · exact absurd (fun p hp e2 => absurd (e2.symm.trans e) (fr_m1 (by omega))) hpb
          · refine br_f (by rw [e]; exact nI_pos (by omega)) ?_
            have hnb : ¬ fr_B nb sa po ng tc p c := fun hB => hpb (fun p' hp' e2 => by
              have : p = p' := (nI_eq (by omega) (by omega)).mp (e.symm.trans e2)
              rw [← this]; exact hB)
            rw [e]
            refine fy_before h2 h3 hb hn hp hc ?_
            rw [fr_bf hnb]
            refine br_t rfl (nm_r (nI_1 c) ?_)
            rw [← e]
            exact hk
      · exact ⟨best, fr_Nx_no hI (fun h => hm h.2.1), fun post n hk => br_f hge ⟨hin, br_f (by rw [hcl]; exact he) ⟨hin, br_f (by rw [hcl]; exact hm) (nm_r (nI_1 c) hk)⟩⟩⟩
  obtain ⟨q, hq, hw⟩ := fr_exl (σ := Int32) (Q := Int32 → Prop) (fun post n c best => wY_next_4 post prev rl bl md pc ht sa cn po ac bm ck cg tc tf th tp ds wx wy wz nb kd fl hd my vs pr n best (nI c)) (fun c best => fr_Nx (fr_B nb sa po ng tc) (fr_P (fr_B nb sa po ng tc) hd my prev) c best) 864 key (-1) (fr_Nx_0 _ _)
  refine ⟨q, hq, fun post hp => ⟨1 + 864, hw post 1 ?_⟩⟩
  exact br_t (nI_le (a := 864) (b := 864) (by omega) (by decide)) hp
end
end
section
section
variable {fc md rl bl pc ht : Int32} {nb kd fl sa po ng tt ac ha bd bp bf ck cg tc tf th tp aw ak ao cs ex mx va ff fv pr cn bm ds wx wy wz hd my vs : Nat → Int32} {R : Nat}
/-! ===== the component's readers: candidate x is choice (fr_sg x) ===== -/
theorem fx_given {post : Int32 → Prop} {x j : Nat} (hcs : fr_CS cs) (hp : ∀ r, r < 4 → fr_Lt (po r) 4) (hb : ∀ f, f < 6 → nb f = nI (fr_n (nb f))) (hx : x < 864) (hj : j < 3)
    (h : post (nI (fr_gv nb po (fr_sg x) j))) : wpX_givenFact post (fc, md, rl, bl, pc, nb, kd, fl, sa, po, ng, tt, ac, ha, bd, bp, bf, ck, cg, tc, tf, th, tp, aw, ak, ao, cs, ex, mx, va, ff, fv, pr) (nI x) (nI j) := by
  have e : nI x / 216 = nI (x / 216) := fr_d216 (by omega)
  have hp4 := hp (x / 216) (by omega)
  have h4 := hp4.1
  have e2 : po (nI x / 216).toNatClampNeg = nI (fr_n (po (x / 216))) := by
    rw [e, nI_clamp (by omega)]; exact hp4.2
  have e3 : (nI x - nI x / 216 * 216) * 3 + nI j = nI (3 * (x % 216) + j) := by
    rw [fr_r216 (by omega), fr_m3, nI_add]
  have hdg := fr_dg_lt (fr_sg x) j
  have e4 : cs ((nI x - nI x / 216 * 216) * 3 + nI j).toNatClampNeg = nI (fr_dg (fr_sg x) j) := by
    rw [e3, nI_clamp (by omega), hcs _ _ (by omega) hj, fr_sg_mdg]
  unfold fr_gv at h
  rw [fr_sg_r] at h
  refine ⟨by decide, by rw [e]; exact vp_in_nI (by omega) (by omega), ?_⟩
  refine pk_lt j (fr_n (po (x / 216))) (fun hl => ⟨by decide, ?_, ?_, ?_⟩) (fun hl => ?_) rfl e2 (by omega) (by omega)
  · rw [e3]; exact vp_in_nI (by omega) (by omega)
  · rw [e4]; exact vp_in_nI hdg (by omega)
  · rw [e4, nI_clamp (by omega), hb _ hdg]
    rw [if_neg (by omega)] at h
    exact h
  · rw [if_pos hl] at h
    exact h
theorem fx_rk49 {post : Int32 → Prop} {c hi lo j : Nat} (hc : c < 2 ^ 31) (hh : hi < 2 ^ 31) (hl : lo < 2 ^ 31) (hj : j < 3)
    (h : post (nI (if j = 0 then (if hi < c then c else hi) else if j = 1 then (if hi < c then hi else if c < lo then lo else c) else (if c < lo then c else lo)))) :
    wX_rankedFact_49 post (nI j) (nI c) (nI hi) (nI lo) fc md rl bl pc nb kd fl sa po ng tt ac ha bd bp bf ck cg tc tf th tp aw ak ao cs ex mx va ff fv pr := by
  match j, hj, h with
  | 0, _, h =>
    refine br_t nI_0 (pk_le c hi (fun l => ?_) (fun l => ?_) rfl rfl hc hh)
    · rw [if_pos rfl, if_neg (by omega)] at h
      exact h
    · rw [if_pos rfl, if_pos (by omega)] at h
      exact h
  | 1, _, h =>
    rw [if_neg (by decide), if_pos rfl] at h
    refine br_f (by decide) (br_f (by decide) (pk_le c hi (fun l => pk_le lo c (fun l2 => ?_) (fun l2 => ?_) rfl rfl hl hc) (fun l => ?_) rfl rfl hc hh))
    · rw [if_neg (by omega), if_neg (by omega)] at h
      exact h
    · rw [if_neg (by omega), if_pos (by omega)] at h
      exact h
    · rw [if_pos (by omega)] at h
      exact h
  | 2, _, h =>
    rw [if_neg (by decide), if_neg (by decide)] at h
    refine br_f (by decide) (br_t rfl (pk_le lo c (fun l => ?_) (fun l => ?_) rfl rfl hl hc))
    · rw [if_neg (by omega)] at h
      exact h
    · rw [if_pos (by omega)] at h
      exact h
theorem fx_ranked {post : Int32 → Prop} {x j : Nat} (hcs : fr_CS cs) (hp : ∀ r, r < 4 → fr_Lt (po r) 4) (hb : ∀ f, f < 6 → nb f = nI (fr_n (nb f))) (hn : ∀ f, f < 6 → fr_n (nb f) < 2 ^ 31) (hx : x < 864) (hj : j < 3)
    (h : post (nI (fr_gr nb po (fr_sg x) j))) : wpX_rankedFact post (fc, md, rl, bl, pc, nb, kd, fl, sa, po, ng, tt, ac, ha, bd, bp, bf, ck, cg, tc, tf, th, tp, aw, ak, ao, cs, ex, mx, va, ff, fv, pr) (nI x) (nI j) := by
  have a := fr_gv_lt (nb := nb) (po := po) (y := fr_sg x) (j := 0) hn (by decide)
  have b := fr_gv_lt (nb := nb) (po := po) (y := fr_sg x) (j := 1) hn (by decide)
  have c := fr_gv_lt (nb := nb) (po := po) (y := fr_sg x) (j := 2) hn (by decide)
  unfold fr_gr fr_rk at h
  unfold wpX_rankedFact
  refine fx_given (j := 0) hcs hp hb hx (by omega) ?_
  refine fx_given (j := 1) hcs hp hb hx (by omega) ?_
  refine fx_given (j := 2) hcs hp hb hx (by omega) ?_
  refine pk_le (fr_gv nb po (fr_sg x) 0) (fr_gv nb po (fr_sg x) 1) (fun l => br_t (nI_le l b) ?_) (fun l => br_f (nI_ge l a) ?_) rfl rfl a b
  · refine fx_rk49 c b a hj ?_
    have hn : ¬ fr_gv nb po (fr_sg x) 1 < fr_gv nb po (fr_sg x) 0 := by omega
    simp only [if_neg hn] at h
    exact h
  · refine fx_rk49 c a b hj ?_
    simp only [if_pos l] at h
    exact h
theorem fx_p163 {post : Int32 → Prop} {a b j k : Nat} (hcs : fr_CS cs) (hp : ∀ r, r < 4 → fr_Lt (po r) 4) (hb : ∀ f, f < 6 → nb f = nI (fr_n (nb f))) (hn : ∀ f, f < 6 → fr_n (nb f) < 2 ^ 31) (hqa : a < 864) (hb8 : b < 864) (hj : j < 3)
    (h : ((fr_gv nb po (fr_sg a) j : Int) = (fr_gv nb po (fr_sg b) j : Int) → wX_precedes_163 post (nI a) (nI b) fc md rl bl pc nb kd fl sa po ng tt ac ha bd bp bf ck cg tc tf th tp aw ak ao cs ex mx va ff fv pr k (nI (j + 1))) ∧ ((fr_gv nb po (fr_sg a) j : Int) ≠ (fr_gv nb po (fr_sg b) j : Int) → post (fr_b ((fr_gv nb po (fr_sg b) j : Int) < (fr_gv nb po (fr_sg a) j : Int))))) :
    wX_precedes_163 post (nI a) (nI b) fc md rl bl pc nb kd fl sa po ng tt ac ha bd bp bf ck cg tc tf th tp aw ak ao cs ex mx va ff fv pr (k + 1) (nI j) := by
  refine br_f (nI_ge (b := 3) hj (by decide)) (fx_given hcs hp hb hqa hj (fx_given hcs hp hb hb8 hj ?_))
  exact fr_cmp2 (fr_gv_lt hn (by decide)) (fr_gv_lt hn (by decide)) ⟨fun e => nm_r (nI_1 j) (h.1 e), h.2⟩
theorem fx_p54 {post : Int32 → Prop} {a b j k : Nat} {x3 x4 : Int32} (hcs : fr_CS cs) (hp : ∀ r, r < 4 → fr_Lt (po r) 4) (hb : ∀ f, f < 6 → nb f = nI (fr_n (nb f))) (hn : ∀ f, f < 6 → fr_n (nb f) < 2 ^ 31) (hqa : a < 864) (hb8 : b < 864) (hj : j < 3)
    (h : ((fr_gr nb po (fr_sg a) j : Int) = (fr_gr nb po (fr_sg b) j : Int) → wX_precedes_54 post (nI a) (nI b) x3 x4 fc md rl bl pc nb kd fl sa po ng tt ac ha bd bp bf ck cg tc tf th tp aw ak ao cs ex mx va ff fv pr k (nI (j + 1))) ∧ ((fr_gr nb po (fr_sg a) j : Int) ≠ (fr_gr nb po (fr_sg b) j : Int) → post (fr_b ((fr_gr nb po (fr_sg b) j : Int) < (fr_gr nb po (fr_sg a) j : Int))))) :
    wX_precedes_54 post (nI a) (nI b) x3 x4 fc md rl bl pc nb kd fl sa po ng tt ac ha bd bp bf ck cg tc tf th tp aw ak ao cs ex mx va ff fv pr (k + 1) (nI j) := by
  refine br_f (nI_ge (b := 3) hj (by decide)) (fx_ranked hcs hp hb hn hqa hj (fx_ranked hcs hp hb hn hb8 hj ?_))
  exact fr_cmp2 (fr_gr_lt hn (by decide)) (fr_gr_lt hn (by decide)) ⟨fun e => nm_r (nI_1 j) (h.1 e), h.2⟩
theorem fx_precedes {post : Int32 → Prop} {a b : Nat} (hcs : fr_CS cs) (h2 : fr_R2 R po ng cn ac cg) (h3 : fr_R3 po ng tc tt) (hb : ∀ f, f < 6 → nb f = nI (fr_n (nb f))) (hn : ∀ f, f < 6 → fr_n (nb f) < 2 ^ 31) (hqa : a < 864) (hb8 : b < 864)
    (h : post (fr_b (fr_B nb sa po ng tc (fr_sg a) (fr_sg b)))) : wpX_precedes post (fc, md, rl, bl, pc, nb, kd, fl, sa, po, ng, tt, ac, ha, bd, bp, bf, ck, cg, tc, tf, th, tp, aw, ak, ao, cs, ex, mx, va, ff, fv, pr) (nI a) (nI b) := by
  have hp : ∀ r, r < 4 → fr_Lt (po r) 4 := fun r hr => (h2 r hr).1
  have ra : a / 216 < 4 := by omega
  have rb : b / 216 < 4 := by omega
  have qa := h2 _ ra
  have qb := h2 _ rb
  have na : fr_n (po (a / 216)) + fr_n (ng (a / 216)) ≤ 5 := by have := qa.1.1; have := qa.2.1.1; omega
  have nb' : fr_n (po (b / 216)) + fr_n (ng (b / 216)) ≤ 5 := by have := qb.1.1; have := qb.2.1.1; omega
  have ta : fr_tt tc (a / 216) (fr_n (po (a / 216)) + fr_n (ng (a / 216))) ≤ 20 := by
    have := fr_tt_le (tc := tc) (r := a / 216) (fr_n (po (a / 216)) + fr_n (ng (a / 216))) (fun i hi => by have := ((h3 _ ra).1 i (by omega)).1.1; omega)
    omega
  have tb : fr_tt tc (b / 216) (fr_n (po (b / 216)) + fr_n (ng (b / 216))) ≤ 20 := by
    have := fr_tt_le (tc := tc) (r := b / 216) (fr_n (po (b / 216)) + fr_n (ng (b / 216))) (fun i hi => by have := ((h3 _ rb).1 i (by omega)).1.1; omega)
    omega
  unfold fr_B fr_K at h
  rw [fr_sg_r a, fr_sg_r b] at h
  have s0 := fr_lx_st h
  refine ⟨by decide, nm_r (fr_d216 (by omega)) ⟨by decide, nm_r (fr_d216 (by omega)) ⟨vp_in_nI ra (by omega), vp_in_nI rb (by omega), ?_⟩⟩⟩
  rw [nI_clamp (by omega), nI_clamp (by omega)]
  refine br_c (fun e => ?_) (fun e => ⟨vp_in_nI ra (by omega), vp_in_nI rb (by omega), ?_⟩)
  · have s1 := fr_lx_st (s0.1 (by rw [e]))
    refine ⟨4, fx_p54 (j := 0) hcs hp hb hn hqa hb8 (by omega) ⟨fun e1 => ?_, s1.2⟩⟩
    have s2 := fr_lx_st (s1.1 e1)
    refine fx_p54 (j := 1) hcs hp hb hn hqa hb8 (by omega) ⟨fun e2 => ?_, s2.2⟩
    have s3 := fr_lx_st (s2.1 e2)
    refine fx_p54 (j := 2) hcs hp hb hn hqa hb8 (by omega) ⟨fun e3 => ?_, s3.2⟩
    have s4 := fr_lx_st (s3.1 e3)
    refine br_t (nI_le (a := 3) (b := 3) (by omega) (by decide)) ⟨vp_in_nI ra (by omega), vp_in_nI rb (by omega), ?_⟩
    rw [nI_clamp (by omega), nI_clamp (by omega), (h3 _ ra).2, (h3 _ rb).2]
    refine pk_eq _ _ (fun e4 => ?_) (fun e4 => ⟨vp_in_nI ra (by omega), vp_in_nI rb (by omega), fr_cmp (by omega) (by omega) (s4.2 (by omega))⟩) rfl rfl (by omega) (by omega)
    have s5 := fr_lx_st (s4.1 (by omega))
    refine pk_eq (a / 216) (b / 216) (fun e5 => ?_) (fun e5 => ?_) rfl rfl (by omega) (by omega)
    · have s6 := fr_lx_st (s5.1 (by omega))
      refine ⟨4, fx_p163 (j := 0) hcs hp hb hn hqa hb8 (by omega) ⟨fun e6 => ?_, s6.2⟩⟩
      have s7 := fr_lx_st (s6.1 e6)
      refine fx_p163 (j := 1) hcs hp hb hn hqa hb8 (by omega) ⟨fun e7 => ?_, s7.2⟩
      have s8 := fr_lx_st (s7.1 e7)
      refine fx_p163 (j := 2) hcs hp hb hn hqa hb8 (by omega) ⟨fun e8 => ?_, s8.2⟩
      exact br_t (nI_le (a := 3) (b := 3) (by omega) (by decide)) (fr_lx_nil (s8.1 e8))
    · have s6 := s5.2 (by omega)
      refine pk_le (b / 216) (a / 216) (fun l => ?_) (fun l => ?_) rfl rfl (by omega) (by omega)
      · rw [fr_bf (by omega)] at s6; exact s6
      · rw [fr_bt (by omega)] at s6; exact s6
  · have h' := s0.2 (fun k => e (Int32.toInt_inj.mp k))
    refine br_c (fun l => ?_) (fun l => ?_)
    · rw [fr_bf (by rw [Int32.le_iff_toInt_le] at l; omega)] at h'; exact h'
    · rw [fr_bt (by rw [Int32.le_iff_toInt_le] at l; omega)] at h'; exact h'
theorem fx_waiting {post : Int32 → Prop} {x : Nat} (hx : x < 864) (h : post (fr_b (ex x ≠ 0 ∧ mx x = 0))) : wpX_isWaiting post (fc, md, rl, bl, pc, nb, kd, fl, sa, po, ng, tt, ac, ha, bd, bp, bf, ck, cg, tc, tf, th, tp, aw, ak, ao, cs, ex, mx, va, ff, fv, pr) (nI x) := by
  have hin : vp_in (nI x) 864 := vp_in_nI hx (by decide)
  have hcl : (nI x).toNatClampNeg = x := nI_clamp (by omega)
  refine ⟨hin, ?_⟩
  rw [hcl]
  by_cases he : ex x = 0
  · rw [fr_bf (fun k => k.1 he)] at h
    exact br_t he h
  · refine br_f he ⟨hin, ?_⟩
    by_cases hm : mx x = 0
    · rw [fr_bt ⟨he, hm⟩] at h
      exact br_t hm h
    · rw [fr_bf (fun k => hm k.2)] at h
      exact br_f hm h
theorem fx_first36 {P : Nat → Prop} {x1 best : Int32} {c : Nat} (hcs : fr_CS cs) (h2 : fr_R2 R po ng cn ac cg) (h3 : fr_R3 po ng tc tt) (hb : ∀ f, f < 6 → nb f = nI (fr_n (nb f))) (hn : ∀ f, f < 6 → fr_n (nb f) < 2 ^ 31) (hc : c < 864)
    (hto : ∀ a b, a < c + 1 → b < c + 1 → P a → P b → a ≠ b → fr_B nb sa po ng tc (fr_sg a) (fr_sg b) ∨ fr_B nb sa po ng tc (fr_sg b) (fr_sg a))
    (hI : fr_Nx (fun a b => fr_B nb sa po ng tc (fr_sg a) (fr_sg b)) P c best) (hP : P c) :
    ∃ best', fr_Nx (fun a b => fr_B nb sa po ng tc (fr_sg a) (fr_sg b)) P (c + 1) best' ∧ ∀ (post : Int32 → Prop) (J : Int32 → Int32 → Prop), J best' (nI (c + 1)) → wX_firstAfter_36 post J x1 best (nI c) fc md rl bl pc nb kd fl sa po ng tt ac ha bd bp bf ck cg tc tf th tp aw ak ao cs ex mx va ff fv pr := by
  rcases fr_Nx_in hI with e | ⟨d, hd8, e, _⟩
  · subst e
    exact ⟨_, fr_Nx_new hI (by omega) hP, fun post J hJ => br_t rfl (nm_r (nI_1 c) hJ)⟩
  · subst e
    by_cases hB : fr_B nb sa po ng tc (fr_sg c) (fr_sg d)
    · refine ⟨_, fr_Nx_less (fun a b d => fr_B_tr _ _ _) (by omega) (by omega) hI hP hB, fun post J hJ => br_f (fr_m1 (by omega)) (fx_precedes hcs h2 h3 hb hn hc (by omega) ?_)⟩
      rw [fr_bt hB]
      exact br_f (by decide) (nm_r (nI_1 c) hJ)
    · refine ⟨_, fr_Nx_keep hto (by omega) (by omega) hI hP hB, fun post J hJ => br_f (fr_m1 (by omega)) (fx_precedes hcs h2 h3 hb hn hc (by omega) ?_)⟩
      rw [fr_bf hB]
      exact br_t rfl (nm_r (nI_1 c) hJ)
theorem fx_first {prev : Int32} (hcs : fr_CS cs) (h2 : fr_R2 R po ng cn ac cg) (h3 : fr_R3 po ng tc tt) (hb : ∀ f, f < 6 → nb f = nI (fr_n (nb f))) (hn : ∀ f, f < 6 → fr_n (nb f) < 2 ^ 31)
    (hdis : ∀ f g, f < 6 → g < 6 → nb f ≠ 0 → nb f = nb g → f = g) (hG : ∀ x, x < 864 → ex x ≠ 0 → fr_G nb po (fr_sg x)) (hpv : prev = -1 ∨ ∃ p, p < 864 ∧ prev = nI p) :
    ∃ q, fr_Nx (fun a b => fr_B nb sa po ng tc (fr_sg a) (fr_sg b)) (fr_P (fun a b => fr_B nb sa po ng tc (fr_sg a) (fr_sg b)) ex mx prev) 864 q ∧ ∀ post : Int32 → Prop, post q → wpX_firstAfter post (fc, md, rl, bl, pc, nb, kd, fl, sa, po, ng, tt, ac, ha, bd, bp, bf, ck, cg, tc, tf, th, tp, aw, ak, ao, cs, ex, mx, va, ff, fv, pr) prev := by
  have hto : ∀ a b, a < 864 → b < 864 → fr_P (fun a b => fr_B nb sa po ng tc (fr_sg a) (fr_sg b)) ex mx prev a → fr_P (fun a b => fr_B nb sa po ng tc (fr_sg a) (fr_sg b)) ex mx prev b → a ≠ b → fr_B nb sa po ng tc (fr_sg a) (fr_sg b) ∨ fr_B nb sa po ng tc (fr_sg b) (fr_sg a) :=
    fun a b la lb pa pb hne => fr_B_to hb hdis (hG a la pa.1) (hG b lb pb.1) (fun e => hne (by rw [← fr_sg_sg a, e, fr_sg_sg]))
  have key : ∀ c best, c < 864 → fr_Nx (fun a b => fr_B nb sa po ng tc (fr_sg a) (fr_sg b)) (fr_P (fun a b => fr_B nb sa po ng tc (fr_sg a) (fr_sg b)) ex mx prev) c best → ∃ best', fr_Nx (fun a b => fr_B nb sa po ng tc (fr_sg a) (fr_sg b)) (fr_P (fun a b => fr_B nb sa po ng tc (fr_sg a) (fr_sg b)) ex mx prev) (c + 1) best' ∧ ∀ (post : Int32 → Prop) n, wX_firstAfter_4 post prev fc md rl bl pc nb kd fl sa po ng tt ac ha bd bp bf ck cg tc tf th tp aw ak ao cs ex mx va ff fv pr n best' (nI (c + 1)) → wX_firstAfter_4 post prev fc md rl bl pc nb kd fl sa po ng tt ac ha bd bp bf ck cg tc tf th tp aw ak ao cs ex mx va ff fv pr (n + 1) best (nI c) := by
    intro c best hc hI
    have hge : ¬ (864 : Int32) ≤ nI c := nI_ge (b := 864) hc (by decide)
    by_cases hw : ex c ≠ 0 ∧ mx c = 0
    · by_cases hpb : ∀ p, p < 864 → prev = nI p → fr_B nb sa po ng tc (fr_sg p) (fr_sg c)
      · have hP : fr_P (fun a b => fr_B nb sa po ng tc (fr_sg a) (fr_sg b)) ex mx prev c := ⟨hw.1, hw.2, hpb⟩
        obtain ⟨best', hN, hW⟩ := fx_first36 (fc := fc) (md := md) (rl := rl) (bl := bl) (pc := pc) (nb := nb) (kd := kd) (fl := fl) (sa := sa) (po := po) (ng := ng) (tt := tt) (ac := ac) (ha := ha) (bd := bd) (bp := bp) (bf := bf) (ck := ck) (cg := cg) (tc := tc) (tf := tf) (th := th) (tp := tp) (aw := aw) (ak := ak) (ao := ao) (cs := cs) (ex := ex) (mx := mx) (va := va) (ff := ff) (fv := fv) (pr := pr) (x1 := prev) hcs h2 h3 hb hn hc (fun a b la lb => hto a b (by omega) (by omega)) hI hP
        refine ⟨best', hN, fun post n hk => br_f hge (fx_waiting hc ?_)⟩
        rw [fr_bt hw]
        refine br_f (by decide) ?_
        rcases hpv with e | ⟨p, hp, e⟩
        · exact br_t e (hW post _ hk)
        · refine br_f (by rw [e]; exact fr_m1 (by omega)) ?_
          rw [e]
          refine fx_precedes hcs h2 h3 hb hn hp hc ?_
          rw [fr_bt (hpb p hp e)]
          refine br_f (by decide) ?_
          rw [← e]
          exact hW post _ hk
      · refine ⟨best, fr_Nx_no hI (fun h => hpb h.2.2), fun post n hk => br_f hge (fx_waiting hc ?_)⟩
        rw [fr_bt hw]
        refine br_f (by decide) ?_
        rcases hpv with e | ⟨p, hp, e⟩
        · exact absurd (fun p hp e2 => absurd (e2.symm.trans e) (fr_m1 (by omega))) hpb
        · refine br_f (by rw [e]; exact fr_m1 (by omega)) ?_
          have hnb : ¬ fr_B nb sa po ng tc (fr_sg p) (fr_sg c) := fun hB => hpb (fun p' hp' e2 => by
            have : p = p' := (nI_eq (by omega) (by omega)).mp (e.symm.trans e2)
            rw [← this]; exact hB)
          rw [e]
          refine fx_precedes hcs h2 h3 hb hn hp hc ?_
          rw [fr_bf hnb]
          refine br_t rfl (nm_r (nI_1 c) ?_)
          rw [← e]
          exact hk
    · refine ⟨best, fr_Nx_no hI (fun h => hw ⟨h.1, h.2.1⟩), fun post n hk => br_f hge (fx_waiting hc ?_)⟩
      rw [fr_bf hw]
      exact br_t rfl (nm_r (nI_1 c) hk)
  obtain ⟨q, hq, hw⟩ := fr_exl (σ := Int32) (Q := Int32 → Prop) (fun post n c best => wX_firstAfter_4 post prev fc md rl bl pc nb kd fl sa po ng tt ac ha bd bp bf ck cg tc tf th tp aw ak ao cs ex mx va ff fv pr n best (nI c)) (fun c best => fr_Nx (fun a b => fr_B nb sa po ng tc (fr_sg a) (fr_sg b)) (fr_P (fun a b => fr_B nb sa po ng tc (fr_sg a) (fr_sg b)) ex mx prev) c best) 864 key (-1) (fr_Nx_0 _ _)
  refine ⟨q, hq, fun post hp => ⟨1 + 864, hw post 1 ?_⟩⟩
  exact br_t (nI_le (a := 864) (b := 864) (by omega) (by decide)) hp
end
end
section
section
variable {fc md rl bl pc ht : Int32} {nb kd fl sa po ng tt ac ha bd bp bf ck cg tc tf th tp aw ak ao cs ex mx va ff fv pr cn bm ds wx wy wz hd my vs : Nat → Int32} {R : Nat}
/-! ===== variables bound so far ===== -/
theorem fr_Bd_up1 {r x m m' : Nat} (h : fr_Bd tc th tp r x m) (hm : m ≤ m') : fr_Bd tc th tp r x m' := by
  obtain ⟨i, s, h1, h2⟩ := h
  exact ⟨i, s, by omega, h2⟩
theorem fr_Bd_s {r x i s : Nat} (hr : r < 4) (h3 : fr_R3 po ng tc tt) (hs : s < 4) (h : fr_Bd tc th tp r x (4 * i + s + 1)) :
    fr_Bd tc th tp r x (4 * i + s) ∨ (th (4 * (5 * r + i) + s) = 3 ∧ tp (4 * (5 * r + i) + s) = nI x) := by
  obtain ⟨i1, s1, h1, h2, h4, h5, h6⟩ := h
  have h7 := ((h3 r hr).1 i1 h2).1.1
  by_cases e : 4 * i1 + s1 < 4 * i + s
  · exact Or.inl ⟨i1, s1, e, h2, h4, h5, h6⟩
  · have e1 : i1 = i := by omega
    have e2 : s1 = s := by omega
    subst e1 e2
    exact Or.inr ⟨h5, h6⟩
/-- behind a condition's last test stands the next condition -/
theorem fr_Bd_e {r x i : Nat} (hr : r < 4) (h3 : fr_R3 po ng tc tt) (h : fr_Bd tc th tp r x (4 * (i + 1))) : fr_Bd tc th tp r x (4 * i + fr_n (tc (5 * r + i))) := by
  obtain ⟨i1, s1, h1, h2, h4, h5, h6⟩ := h
  have h7 := ((h3 r hr).1 i1 h2).1.1
  by_cases e : i1 = i
  · subst e
    exact ⟨i1, s1, by omega, h2, h4, h5, h6⟩
  · exact ⟨i1, s1, by omega, h2, h4, h5, h6⟩
/-- a negated condition binds nothing -/
theorem fr_Bd_n {r x i : Nat} (hr : r < 4) (h3 : fr_R3 po ng tc tt) (h4 : fr_R4 cg tc tf th tp bd bp bf) (hc : cg (5 * r + i) ≠ 0) (h : fr_Bd tc th tp r x (4 * (i + 1))) : fr_Bd tc th tp r x (4 * i) := by
  obtain ⟨i1, s1, h1, h2, h5, h6, h7⟩ := h
  have h8 := ((h3 r hr).1 i1 h2).1.1
  by_cases e : i1 = i
  · subst e
    exact absurd ((h4 r i1 s1 hr h2 h5).2.2.1 h6).1 hc
  · exact ⟨i1, s1, by omega, h2, h5, h6, h7⟩
theorem fr_Bd_20 {r x n : Nat} (hr : r < 4) (h3 : fr_R3 po ng tc tt) (hn : fr_n (po r) + fr_n (ng r) = n) (h : fr_Bd tc th tp r x 20) : fr_Bd tc th tp r x (4 * n) := by
  obtain ⟨i1, s1, h1, h2, h5, h6, h7⟩ := h
  have ⟨h8, h9⟩ := (h3 r hr).1 i1 h2
  have h10 := h8.1
  by_cases e : n ≤ i1
  · rw [h9 (by omega)] at h5
    exact absurd h5 (Nat.not_lt_zero s1)
  · exact ⟨i1, s1, by omega, h2, h5, h6, h7⟩
/-! ===== the reference's fits, some, match ===== -/
theorem fy_fits {y r i f m0 : Nat} (h3 : fr_R3 po ng tc tt) (h4 : fr_R4 cg tc tf th tp bd bp bf) (hr : r < 4) (hy : y / 216 = r) (hi : i < 5) (hf : f < 6)
    (hpos : cg (5 * r + i) = 0 → f = fr_dg y (fr_np cg r i)) (hm : 4 * i ≤ m0)
    (hvs : ∀ x, x < 4 → fr_Bd tc th tp r x m0 → vs x = fr_val bp bf fl y x) :
    ∃ w : Nat → Int32, (∀ x, x < 4 → fr_Bd tc th tp r x m0 → w x = fr_val bp bf fl y x) ∧
      (fr_T kd fl ck tc tf th tp (fr_val bp bf fl y) (5 * r + i) f → ∀ x, x < 4 → fr_Bd tc th tp r x (4 * i + fr_n (tc (5 * r + i))) → w x = fr_val bp bf fl y x) ∧
      ∀ post : Int32 → SY → Prop, post (fr_b (fr_T kd fl ck tc tf th tp (fr_val bp bf fl y) (5 * r + i) f)) (rl, bl, md, pc, ht, sa, cn, po, ac, bm, ck, cg, tc, tf, th, tp, ds, wx, wy, wz, nb, kd, fl, hd, my, w, pr) → wpY_fits post (rl, bl, md, pc, ht, sa, cn, po, ac, bm, ck, cg, tc, tf, th, tp, ds, wx, wy, wz, nb, kd, fl, hd, my, vs, pr) (nI (5 * r + i)) (nI f) := by
  have hq : 5 * r + i < 20 := by omega
  have ⟨ht5, _⟩ := (h3 r hr).1 i hi
  have htl := ht5.1
  have hte : tc (nI (5 * r + i)).toNatClampNeg = nI (fr_n (tc (5 * r + i))) := by rw [nI_clamp (by omega)]; exact ht5.2
  by_cases hk : kd f = ck (5 * r + i)
  · have step : ∀ s w, s < fr_n (tc (5 * r + i)) → ((∀ x, x < 4 → (fr_Bd tc th tp r x m0 ∨ fr_Bd tc th tp r x (4 * i + s)) → w x = fr_val bp bf fl y x) ∧ ∀ s', s' < s → fr_Ti fl tf th tp (fr_val bp bf fl y) (5 * r + i) f s') →
        (∃ w', ((∀ x, x < 4 → (fr_Bd tc th tp r x m0 ∨ fr_Bd tc th tp r x (4 * i + (s + 1))) → w' x = fr_val bp bf fl y x) ∧ ∀ s', s' < s + 1 → fr_Ti fl tf th tp (fr_val bp bf fl y) (5 * r + i) f s') ∧
          ∀ (P : Int32 → SY → Prop) n, wY_fits_21 P (nI (5 * r + i)) (nI f) rl bl md pc ht n (nI (4 * (5 * r + i) + (s + 1))) sa cn po ac bm ck cg tc tf th tp ds wx wy wz nb kd fl hd my w' pr → wY_fits_21 P (nI (5 * r + i)) (nI f) rl bl md pc ht (n + 1) (nI (4 * (5 * r + i) + s)) sa cn po ac bm ck cg tc tf th tp ds wx wy wz nb kd fl hd my w pr) ∨
        (∃ w', ((∀ x, x < 4 → fr_Bd tc th tp r x m0 → w' x = fr_val bp bf fl y x) ∧ ¬ fr_T kd fl ck tc tf th tp (fr_val bp bf fl y) (5 * r + i) f) ∧
          ∀ (P : Int32 → SY → Prop) n, P 0 (rl, bl, md, pc, ht, sa, cn, po, ac, bm, ck, cg, tc, tf, th, tp, ds, wx, wy, wz, nb, kd, fl, hd, my, w', pr) → wY_fits_21 P (nI (5 * r + i)) (nI f) rl bl md pc ht (n + 1) (nI (4 * (5 * r + i) + s)) sa cn po ac bm ck cg tc tf th tp ds wx wy wz nb kd fl hd my w pr) := by
      intro s w hs ⟨hI, hT⟩
      have hs4 : s < 4 := by omega
      have hw := h4 r i s hr hi hs
      obtain ⟨hF, hH, hbind, hvar⟩ := hw
      have hcl : (nI (4 * (5 * r + i) + s)).toNatClampNeg = 4 * (5 * r + i) + s := nI_clamp (by omega)
      have h80 : vp_in (nI (4 * (5 * r + i) + s)) 80 := vp_in_nI (by omega) (by omega)
      have h20 : vp_in (nI (5 * r + i)) 20 := vp_in_nI hq (by omega)
      have hle : ¬ (4 * nI (5 * r + i) + tc (nI (5 * r + i)).toNatClampNeg ≤ nI (4 * (5 * r + i) + s)) := by
        rw [hte, fr_4m, nI_add]
        exact nI_ge (by omega) (by omega)
      have hF3 := hF.1
      have hfe : 3 * nI f + tf (nI (4 * (5 * r + i) + s)).toNatClampNeg = nI (3 * f + fr_n (tf (4 * (5 * r + i) + s))) := by
        rw [hcl, fr_3m, fr_Lt_add hF]
      have h18 : vp_in (3 * nI f + tf (nI (4 * (5 * r + i) + s)).toNatClampNeg) 18 := by
        rw [hfe]; exact vp_in_nI (by omega) (by omega)
      have hx4 : fl (3 * nI f + tf (nI (4 * (5 * r + i) + s)).toNatClampNeg).toNatClampNeg = fl (3 * f + fr_n (tf (4 * (5 * r + i) + s))) := by
        rw [hfe, nI_clamp (by omega)]
      by_cases hh : th (4 * (5 * r + i) + s) = 3
      · obtain ⟨hc0, x, hx, hxo, hxb, hxp, hxf⟩ := hbind hh
        have hv : fl (3 * f + fr_n (tf (4 * (5 * r + i) + s))) = fr_val bp bf fl y x := by
          unfold fr_val
          rw [hy, hxp, hxf, fr_nn (n := fr_np cg r i) (by have := fr_np_m cg r 0 i; have := fr_np_le cg r i; omega), ← hpos hc0]
        refine Or.inl ⟨upd w x (fl (3 * f + fr_n (tf (4 * (5 * r + i) + s)))), ⟨fun x' hx' hB => ?_, fun s' hs' => ?_⟩, fun P n hk => ?_⟩
        · by_cases e : x' = x
          · rw [e, pk_us]; exact hv
          · rw [pk_un e]
            refine hI x' hx' ?_
            rcases hB with hB | hB
            · exact Or.inl hB
            · rcases fr_Bd_s hr h3 hs4 hB with hB | ⟨_, hB⟩
              · exact Or.inr hB
              · exact absurd ((nI_eq (by omega) (by omega)).mp (hB.symm.trans hxo)) e
        · by_cases e : s' = s
          · rw [e]; exact fun h => absurd hh h
          · exact hT s' (by omega)
        · refine ⟨h20, br_f hle ⟨h80, h18, nm_r hx4 ⟨h80, br_t (by rw [hcl]; exact hh) ⟨h80, ?_, ?_⟩⟩⟩⟩
          · rw [hcl, hxo]; exact vp_in_nI hx (by omega)
          · rw [hcl, hxo, nI_clamp (by omega)]
            exact nm_e (nm_r (nI_1 _) hk)
      · have hov : fr_ov w (tp (4 * (5 * r + i) + s)) = fr_ov (fr_val bp bf fl y) (tp (4 * (5 * r + i) + s)) := by
          by_cases ho : tp (4 * (5 * r + i) + s) &&& 1 = 0
          · rw [fr_ov_e ho, fr_ov_e ho]
          · obtain ⟨x, hx, hxe, _, hxB⟩ := hvar hh ho
            rw [fr_ov_o ho hx hxe, fr_ov_o ho hx hxe]
            exact hI x hx (Or.inr hxB)
        have huse : tp (4 * (5 * r + i) + s) &&& 1 ≠ 0 → ∃ x, x < 4 ∧ tp (4 * (5 * r + i) + s) >>> ((1 : Int32) &&& 31) = nI x := fun ho => by
          obtain ⟨x, hx, hxe, _, _⟩ := hvar hh ho
          exact ⟨x, hx, hxe⟩
        by_cases hTi : fr_Ti fl tf th tp (fr_val bp bf fl y) (5 * r + i) f s
        · refine Or.inl ⟨w, ⟨fun x' hx' hB => hI x' hx' ?_, fun s' hs' => ?_⟩, fun P n hk => ?_⟩
          · rcases hB with hB | hB
            · exact Or.inl hB
            · rcases fr_Bd_s hr h3 hs4 hB with hB | ⟨hB, _⟩
              · exact Or.inr hB
              · exact absurd hB hh
          · by_cases e : s' = s
            · rw [e]; exact hTi
            · exact hT s' (by omega)
          · obtain ⟨c0, c1, c2⟩ := hTi hh
            refine ⟨h20, br_f hle ⟨h80, h18, nm_r hx4 ⟨h80, br_f (by rw [hcl]; exact hh) ⟨h80, ?_⟩⟩⟩⟩
            rw [hcl]
            refine fy_value huse ?_
            rw [hov]
            refine ⟨h80, ?_⟩
            by_cases e0 : th (4 * (5 * r + i) + s) = 0
            · exact br_t e0 (br_t (c0 e0) (nm_r (nI_1 _) hk))
            · refine br_f e0 ⟨h80, ?_⟩
              by_cases e1 : th (4 * (5 * r + i) + s) = 1
              · exact br_t e1 (br_f (c1 e1) (nm_r (nI_1 _) hk))
              · exact br_f e1 (br_t (c2 e0 e1) (nm_r (nI_1 _) hk))
        · refine Or.inr ⟨w, ⟨fun x' hx' hB => hI x' hx' (Or.inl hB), fun H => hTi (H.2 s hs)⟩, fun P n hk => ?_⟩
          refine ⟨h20, br_f hle ⟨h80, h18, nm_r hx4 ⟨h80, br_f (by rw [hcl]; exact hh) ⟨h80, ?_⟩⟩⟩⟩
          rw [hcl]
          refine fy_value huse ?_
          rw [hov]
          refine ⟨h80, ?_⟩
          by_cases e0 : th (4 * (5 * r + i) + s) = 0
          · refine br_t e0 (br_f (fun hc => hTi (fun _ => ⟨fun _ => hc, fun e => absurd (e0.symm.trans e) (by decide), fun e => absurd e0 e⟩)) hk)
          · refine br_f e0 ⟨h80, ?_⟩
            by_cases e1 : th (4 * (5 * r + i) + s) = 1
            · refine br_t e1 (br_c (fun _ => hk) (fun hc => absurd (fun _ => ⟨fun e => absurd e e0, fun _ => hc, fun _ e => absurd e1 e⟩) hTi))
            · exact br_f e1 (br_f (fun hc => hTi (fun _ => ⟨fun e => absurd e e0, fun e => absurd e e1, fun _ _ => hc⟩)) hk)
    have h0 : (∀ x, x < 4 → (fr_Bd tc th tp r x m0 ∨ fr_Bd tc th tp r x (4 * i + 0)) → vs x = fr_val bp bf fl y x) ∧ ∀ s', s' < 0 → fr_Ti fl tf th tp (fr_val bp bf fl y) (5 * r + i) f s' :=
      ⟨fun x hx hB => hvs x hx (hB.elim id (fun hB => fr_Bd_up1 hB hm)), fun s' hs' => absurd hs' (Nat.not_lt_zero s')⟩
    have hkk : kd (nI f).toNatClampNeg = ck (nI (5 * r + i)).toNatClampNeg := by rw [nI_clamp (by omega), nI_clamp (by omega)]; exact hk
    rcases fr_exr (σ := Nat → Int32) (Q := Int32 → SY → Prop) (ρ := Nat → Int32)
      (fun P n s w => wY_fits_21 P (nI (5 * r + i)) (nI f) rl bl md pc ht n (nI (4 * (5 * r + i) + s)) sa cn po ac bm ck cg tc tf th tp ds wx wy wz nb kd fl hd my w pr)
      (fun s w => (∀ x, x < 4 → (fr_Bd tc th tp r x m0 ∨ fr_Bd tc th tp r x (4 * i + s)) → w x = fr_val bp bf fl y x) ∧ ∀ s', s' < s → fr_Ti fl tf th tp (fr_val bp bf fl y) (5 * r + i) f s')
      (fun P w => P 0 (rl, bl, md, pc, ht, sa, cn, po, ac, bm, ck, cg, tc, tf, th, tp, ds, wx, wy, wz, nb, kd, fl, hd, my, w, pr)) (fun w => (∀ x, x < 4 → fr_Bd tc th tp r x m0 → w x = fr_val bp bf fl y x) ∧ ¬ fr_T kd fl ck tc tf th tp (fr_val bp bf fl y) (5 * r + i) f) (fr_n (tc (5 * r + i))) step vs h0 with ⟨w, ⟨hI, hT⟩, hW⟩ | ⟨w, ⟨hI, hT⟩, hW⟩
    · refine ⟨w, fun x hx hB => hI x hx (Or.inl hB), fun _ x hx hB => hI x hx (Or.inr hB), fun post hp => ⟨vp_in_nI hf (by omega), vp_in_nI hq (by omega), br_t hkk (nm_r (fr_4m _) ⟨1 + fr_n (tc (5 * r + i)), hW post 1 ?_⟩)⟩⟩
      rw [fr_bt ⟨hk, hT⟩] at hp
      refine ⟨vp_in_nI hq (by omega), br_t ?_ hp⟩
      rw [hte, fr_4m, nI_add]
      exact Int32.le_refl _
    · refine ⟨w, hI, fun H => absurd H hT, fun post hp => ⟨vp_in_nI hf (by omega), vp_in_nI hq (by omega), br_t hkk (nm_r (fr_4m _) ⟨1 + fr_n (tc (5 * r + i)), hW post 1 ?_⟩)⟩⟩
      rw [fr_bf hT] at hp
      exact hp
  · refine ⟨vs, hvs, fun H => absurd H.1 hk, fun post hp => ⟨vp_in_nI hf (by omega), vp_in_nI hq (by omega), br_f ?_ ?_⟩⟩
    · rw [nI_clamp (by omega), nI_clamp (by omega)]; exact hk
    · rw [fr_bf (fun H => hk H.1)] at hp
      exact hp
end
end
section
section
variable {fc md rl bl pc ht : Int32} {nb kd fl sa po ng tt ac ha bd bp bf ck cg tc tf th tp aw ak ao cs ex mx va ff fv pr cn bm ds wx wy wz hd my vs : Nat → Int32} {R : Nat}
theorem fy_some {y r i : Nat} (h3 : fr_R3 po ng tc tt) (h4 : fr_R4 cg tc tf th tp bd bp bf) (hr : r < 4) (hy : y / 216 = r) (hi : i < 5)
    (hc : cg (5 * r + i) ≠ 0) (hvs : ∀ x, x < 4 → fr_Bd tc th tp r x 20 → vs x = fr_val bp bf fl y x) :
    ∃ w : Nat → Int32, (∀ x, x < 4 → fr_Bd tc th tp r x 20 → w x = fr_val bp bf fl y x) ∧
      ∀ post : Int32 → SY → Prop, post (fr_b (∃ f, f < 6 ∧ nb f ≠ 0 ∧ fr_T kd fl ck tc tf th tp (fr_val bp bf fl y) (5 * r + i) f)) (rl, bl, md, pc, ht, sa, cn, po, ac, bm, ck, cg, tc, tf, th, tp, ds, wx, wy, wz, nb, kd, fl, hd, my, w, pr) → wpY_some post (rl, bl, md, pc, ht, sa, cn, po, ac, bm, ck, cg, tc, tf, th, tp, ds, wx, wy, wz, nb, kd, fl, hd, my, vs, pr) (nI (5 * r + i)) := by
  have step : ∀ f w, f < 6 → ((∀ x, x < 4 → fr_Bd tc th tp r x 20 → w x = fr_val bp bf fl y x) ∧ ∀ f', f' < f → ¬ (nb f' ≠ 0 ∧ fr_T kd fl ck tc tf th tp (fr_val bp bf fl y) (5 * r + i) f')) →
      (∃ w', ((∀ x, x < 4 → fr_Bd tc th tp r x 20 → w' x = fr_val bp bf fl y x) ∧ ∀ f', f' < f + 1 → ¬ (nb f' ≠ 0 ∧ fr_T kd fl ck tc tf th tp (fr_val bp bf fl y) (5 * r + i) f')) ∧
        ∀ (P : Int32 → SY → Prop) n, wY_some_2 P (nI (5 * r + i)) n (nI (f + 1)) rl bl md pc ht sa cn po ac bm ck cg tc tf th tp ds wx wy wz nb kd fl hd my w' pr → wY_some_2 P (nI (5 * r + i)) (n + 1) (nI f) rl bl md pc ht sa cn po ac bm ck cg tc tf th tp ds wx wy wz nb kd fl hd my w pr) ∨
      (∃ w', ((∀ x, x < 4 → fr_Bd tc th tp r x 20 → w' x = fr_val bp bf fl y x) ∧ ∃ f, f < 6 ∧ nb f ≠ 0 ∧ fr_T kd fl ck tc tf th tp (fr_val bp bf fl y) (5 * r + i) f) ∧
        ∀ (P : Int32 → SY → Prop) n, P 1 (rl, bl, md, pc, ht, sa, cn, po, ac, bm, ck, cg, tc, tf, th, tp, ds, wx, wy, wz, nb, kd, fl, hd, my, w', pr) → wY_some_2 P (nI (5 * r + i)) (n + 1) (nI f) rl bl md pc ht sa cn po ac bm ck cg tc tf th tp ds wx wy wz nb kd fl hd my w pr) := by
    intro f w hf ⟨hI, hN⟩
    have hge : ¬ (6 : Int32) ≤ nI f := nI_ge (b := 6) hf (by decide)
    have hin : vp_in (nI f) 6 := vp_in_nI hf (by decide)
    have hcl : (nI f).toNatClampNeg = f := nI_clamp (by omega)
    by_cases h0 : nb f = 0
    · refine Or.inl ⟨w, ⟨hI, fun f' hf' => ?_⟩, fun P n hk => br_f hge ⟨hin, br_t (by rw [hcl]; exact h0) (nm_r (nI_1 f) hk)⟩⟩
      by_cases e : f' = f
      · rw [e]; exact fun H => H.1 h0
      · exact hN f' (by omega)
    · obtain ⟨w', h1, _, hW⟩ := fy_fits (rl := rl) (bl := bl) (md := md) (pc := pc) (ht := ht) (sa := sa) (cn := cn) (po := po) (ac := ac) (bm := bm) (ck := ck) (cg := cg) (tc := tc) (tf := tf) (th := th) (tp := tp) (ds := ds) (wx := wx) (wy := wy) (wz := wz) (nb := nb) (kd := kd) (fl := fl) (hd := hd) (my := my) (vs := w) (pr := pr) (m0 := 20) h3 h4 hr hy hi hf (fun e => absurd e hc) (by omega) hI
      by_cases hT : fr_T kd fl ck tc tf th tp (fr_val bp bf fl y) (5 * r + i) f
      · refine Or.inr ⟨w', ⟨h1, f, hf, h0, hT⟩, fun P n hk => br_f hge ⟨hin, br_f (by rw [hcl]; exact h0) (hW _ ?_)⟩⟩
        rw [fr_bt hT]
        exact br_f (by decide) hk
      · refine Or.inl ⟨w', ⟨h1, fun f' hf' => ?_⟩, fun P n hk => br_f hge ⟨hin, br_f (by rw [hcl]; exact h0) (hW _ ?_)⟩⟩
        · by_cases e : f' = f
          · rw [e]; exact fun H => hT H.2
          · exact hN f' (by omega)
        · rw [fr_bf hT]
          exact br_t rfl (nm_r (nI_1 f) hk)
  rcases fr_exr (σ := Nat → Int32) (Q := Int32 → SY → Prop) (ρ := Nat → Int32)
    (fun P n f w => wY_some_2 P (nI (5 * r + i)) n (nI f) rl bl md pc ht sa cn po ac bm ck cg tc tf th tp ds wx wy wz nb kd fl hd my w pr)
    (fun f w => (∀ x, x < 4 → fr_Bd tc th tp r x 20 → w x = fr_val bp bf fl y x) ∧ ∀ f', f' < f → ¬ (nb f' ≠ 0 ∧ fr_T kd fl ck tc tf th tp (fr_val bp bf fl y) (5 * r + i) f'))
    (fun P w => P 1 (rl, bl, md, pc, ht, sa, cn, po, ac, bm, ck, cg, tc, tf, th, tp, ds, wx, wy, wz, nb, kd, fl, hd, my, w, pr))
    (fun w => (∀ x, x < 4 → fr_Bd tc th tp r x 20 → w x = fr_val bp bf fl y x) ∧ ∃ f, f < 6 ∧ nb f ≠ 0 ∧ fr_T kd fl ck tc tf th tp (fr_val bp bf fl y) (5 * r + i) f) 6 step vs
    ⟨hvs, fun f' h => absurd h (Nat.not_lt_zero f')⟩ with ⟨w, ⟨hI, hN⟩, hW⟩ | ⟨w, ⟨hI, hN⟩, hW⟩
  · refine ⟨w, hI, fun post hp => ⟨1 + 6, hW post 1 ?_⟩⟩
    rw [fr_bf (fun ⟨f, h1, h2⟩ => hN f h1 h2)] at hp
    exact br_t (nI_le (a := 6) (b := 6) (by omega) (by decide)) hp
  · refine ⟨w, hI, fun post hp => ⟨1 + 6, hW post 1 ?_⟩⟩
    rw [fr_bt hN] at hp
    exact hp
/-- the positive conditions, one behind another -/
theorem fy_m13 {y r p nc : Nat} (h3 : fr_R3 po ng tc tt) (h4 : fr_R4 cg tc tf th tp bd bp bf) (hr : r < 4) (hy8 : y < 864) (hy : y / 216 = r) (hnc : nc ≤ 5) (hcn : cn r = nI nc) (hp : fr_np cg r nc = p) (hp3 : p < 4) :
    (∃ w : Nat → Int32, ((∀ x, x < 4 → fr_Bd tc th tp r x (4 * nc) → w x = fr_val bp bf fl y x) ∧
      ∀ i, i < nc → cg (5 * r + i) = 0 → nb (fr_dg y (fr_np cg r i)) ≠ 0 ∧ fr_T kd fl ck tc tf th tp (fr_val bp bf fl y) (5 * r + i) (fr_dg y (fr_np cg r i))) ∧
      ∀ (P : Int32 → SY → Prop) n, wY_match_13 P (nI y) (nI r) n (nI (fr_np cg r nc)) (nI (5 * r + nc)) rl bl md pc ht sa cn po ac bm ck cg tc tf th tp ds wx wy wz nb kd fl hd my w pr → wY_match_13 P (nI y) (nI r) (n + nc) (nI (fr_np cg r 0)) (nI (5 * r + 0)) rl bl md pc ht sa cn po ac bm ck cg tc tf th tp ds wx wy wz nb kd fl hd my vs pr) ∨
    (∃ w : Nat → Int32, (¬ ∀ i, i < nc → cg (5 * r + i) = 0 → nb (fr_dg y (fr_np cg r i)) ≠ 0 ∧ fr_T kd fl ck tc tf th tp (fr_val bp bf fl y) (5 * r + i) (fr_dg y (fr_np cg r i))) ∧
      ∀ (P : Int32 → SY → Prop) n, P 0 (rl, bl, md, pc, ht, sa, cn, po, ac, bm, ck, cg, tc, tf, th, tp, ds, wx, wy, wz, nb, kd, fl, hd, my, w, pr) → wY_match_13 P (nI y) (nI r) (n + nc) (nI (fr_np cg r 0)) (nI (5 * r + 0)) rl bl md pc ht sa cn po ac bm ck cg tc tf th tp ds wx wy wz nb kd fl hd my vs pr) := by
  have hce : cn (nI r).toNatClampNeg = nI nc := by rw [nI_clamp (by omega)]; exact hcn
  have step : ∀ i w, i < nc → ((∀ x, x < 4 → fr_Bd tc th tp r x (4 * i) → w x = fr_val bp bf fl y x) ∧
      ∀ i', i' < i → cg (5 * r + i') = 0 → nb (fr_dg y (fr_np cg r i')) ≠ 0 ∧ fr_T kd fl ck tc tf th tp (fr_val bp bf fl y) (5 * r + i') (fr_dg y (fr_np cg r i'))) →
      (∃ w', ((∀ x, x < 4 → fr_Bd tc th tp r x (4 * (i + 1)) → w' x = fr_val bp bf fl y x) ∧
        ∀ i', i' < i + 1 → cg (5 * r + i') = 0 → nb (fr_dg y (fr_np cg r i')) ≠ 0 ∧ fr_T kd fl ck tc tf th tp (fr_val bp bf fl y) (5 * r + i') (fr_dg y (fr_np cg r i'))) ∧
        ∀ (P : Int32 → SY → Prop) n, wY_match_13 P (nI y) (nI r) n (nI (fr_np cg r (i + 1))) (nI (5 * r + (i + 1))) rl bl md pc ht sa cn po ac bm ck cg tc tf th tp ds wx wy wz nb kd fl hd my w' pr → wY_match_13 P (nI y) (nI r) (n + 1) (nI (fr_np cg r i)) (nI (5 * r + i)) rl bl md pc ht sa cn po ac bm ck cg tc tf th tp ds wx wy wz nb kd fl hd my w pr) ∨
      (∃ w', (¬ ∀ i, i < nc → cg (5 * r + i) = 0 → nb (fr_dg y (fr_np cg r i)) ≠ 0 ∧ fr_T kd fl ck tc tf th tp (fr_val bp bf fl y) (5 * r + i) (fr_dg y (fr_np cg r i))) ∧
        ∀ (P : Int32 → SY → Prop) n, P 0 (rl, bl, md, pc, ht, sa, cn, po, ac, bm, ck, cg, tc, tf, th, tp, ds, wx, wy, wz, nb, kd, fl, hd, my, w', pr) → wY_match_13 P (nI y) (nI r) (n + 1) (nI (fr_np cg r i)) (nI (5 * r + i)) rl bl md pc ht sa cn po ac bm ck cg tc tf th tp ds wx wy wz nb kd fl hd my w pr) := by
    intro i w hi ⟨hI, hA⟩
    have h4' : vp_in (nI r) 4 := vp_in_nI hr (by omega)
    have hle : ¬ (5 * nI r + cn (nI r).toNatClampNeg ≤ nI (5 * r + i)) := by
      rw [hce, fr_5m, nI_add]
      exact nI_ge (by omega) (by omega)
    have h20 : vp_in (nI (5 * r + i)) 20 := vp_in_nI (by omega) (by omega)
    have hcl : (nI (5 * r + i)).toNatClampNeg = 5 * r + i := nI_clamp (by omega)
    by_cases hc : cg (5 * r + i) = 0
    · have hnp : fr_np cg r i < 3 := by have := fr_np_lt hi hc; omega
      have hd6 := fr_dg_lt y (fr_np cg r i)
      have hdv : vp_in (nI (fr_dg y (fr_np cg r i))) 6 := vp_in_nI hd6 (by omega)
      by_cases h0 : nb (fr_dg y (fr_np cg r i)) = 0
      · refine Or.inr ⟨w, fun H => (H i hi hc).1 h0, fun P n hk => ⟨h4', br_f hle ⟨h20, br_t (by rw [hcl]; exact hc) (nm_r (nI_1 _) (fy_place hy8 hnp ⟨hdv, br_t ?_ hk⟩))⟩⟩⟩
        rw [nI_clamp (by omega)]; exact h0
      · obtain ⟨w', _, h1, hW⟩ := fy_fits (rl := rl) (bl := bl) (md := md) (pc := pc) (ht := ht) (sa := sa) (cn := cn) (po := po) (ac := ac) (bm := bm) (ck := ck) (cg := cg) (tc := tc) (tf := tf) (th := th) (tp := tp) (ds := ds) (wx := wx) (wy := wy) (wz := wz) (nb := nb) (kd := kd) (fl := fl) (hd := hd) (my := my) (vs := w) (pr := pr) (m0 := 4 * i) h3 h4 hr hy (by omega) hd6 (fun _ => rfl) (Nat.le_refl _) hI
        by_cases hT : fr_T kd fl ck tc tf th tp (fr_val bp bf fl y) (5 * r + i) (fr_dg y (fr_np cg r i))
        · refine Or.inl ⟨w', ⟨fun x hx hB => h1 hT x hx (fr_Bd_e hr h3 hB), fun i' hi' hc' => ?_⟩, fun P n hk => ⟨h4', br_f hle ⟨h20, br_t (by rw [hcl]; exact hc) (nm_r (nI_1 _) (fy_place hy8 hnp ⟨hdv, br_f ?_ (hW _ ?_)⟩))⟩⟩⟩
          · by_cases e : i' = i
            · subst e; exact ⟨h0, hT⟩
            · exact hA i' (by omega) hc'
          · rw [nI_clamp (by omega)]; exact h0
          · rw [fr_bt hT]
            rw [fr_np_s hc] at hk
            exact br_f (by decide) (nm_r (nI_1 _) hk)
        · refine Or.inr ⟨w', fun H => hT (H i hi hc).2, fun P n hk => ⟨h4', br_f hle ⟨h20, br_t (by rw [hcl]; exact hc) (nm_r (nI_1 _) (fy_place hy8 hnp ⟨hdv, br_f ?_ (hW _ ?_)⟩))⟩⟩⟩
          · rw [nI_clamp (by omega)]; exact h0
          · rw [fr_bf hT]
            exact br_t rfl hk
    · refine Or.inl ⟨w, ⟨fun x hx hB => hI x hx (fr_Bd_n hr h3 h4 hc hB), fun i' hi' hc' => ?_⟩, fun P n hk => ⟨h4', br_f hle ⟨h20, br_f (by rw [hcl]; exact hc) (nm_r (nI_1 _) ?_)⟩⟩⟩
      · by_cases e : i' = i
        · subst e; exact absurd hc' hc
        · exact hA i' (by omega) hc'
      · rw [fr_np_k hc] at hk
        exact hk
  exact fr_exr (σ := Nat → Int32) (Q := Int32 → SY → Prop) (ρ := Nat → Int32)
    (fun P n i w => wY_match_13 P (nI y) (nI r) n (nI (fr_np cg r i)) (nI (5 * r + i)) rl bl md pc ht sa cn po ac bm ck cg tc tf th tp ds wx wy wz nb kd fl hd my w pr)
    (fun i w => (∀ x, x < 4 → fr_Bd tc th tp r x (4 * i) → w x = fr_val bp bf fl y x) ∧
      ∀ i', i' < i → cg (5 * r + i') = 0 → nb (fr_dg y (fr_np cg r i')) ≠ 0 ∧ fr_T kd fl ck tc tf th tp (fr_val bp bf fl y) (5 * r + i') (fr_dg y (fr_np cg r i')))
    (fun P w => P 0 (rl, bl, md, pc, ht, sa, cn, po, ac, bm, ck, cg, tc, tf, th, tp, ds, wx, wy, wz, nb, kd, fl, hd, my, w, pr))
    (fun _ => ¬ ∀ i, i < nc → cg (5 * r + i) = 0 → nb (fr_dg y (fr_np cg r i)) ≠ 0 ∧ fr_T kd fl ck tc tf th tp (fr_val bp bf fl y) (5 * r + i) (fr_dg y (fr_np cg r i)))
    nc step vs ⟨fun x hx ⟨i, s, h, _⟩ => absurd h (by omega), fun i' h => absurd h (Nat.not_lt_zero i')⟩
/-- the negated conditions -/
theorem fy_m106 {y r nc : Nat} (h3 : fr_R3 po ng tc tt) (h4 : fr_R4 cg tc tf th tp bd bp bf) (hr : r < 4) (hy : y / 216 = r) (hnc : nc ≤ 5) (hcn : cn r = nI nc)
    (hvs : ∀ x, x < 4 → fr_Bd tc th tp r x 20 → vs x = fr_val bp bf fl y x) :
    (∃ w : Nat → Int32, ((∀ x, x < 4 → fr_Bd tc th tp r x 20 → w x = fr_val bp bf fl y x) ∧
      ∀ i, i < nc → cg (5 * r + i) ≠ 0 → ¬ ∃ f, f < 6 ∧ nb f ≠ 0 ∧ fr_T kd fl ck tc tf th tp (fr_val bp bf fl y) (5 * r + i) f) ∧
      ∀ (P : Int32 → SY → Prop) n, wY_match_106 P (nI r) n (nI (5 * r + nc)) rl bl md pc ht sa cn po ac bm ck cg tc tf th tp ds wx wy wz nb kd fl hd my w pr → wY_match_106 P (nI r) (n + nc) (nI (5 * r + 0)) rl bl md pc ht sa cn po ac bm ck cg tc tf th tp ds wx wy wz nb kd fl hd my vs pr) ∨
    (∃ w : Nat → Int32, (¬ ∀ i, i < nc → cg (5 * r + i) ≠ 0 → ¬ ∃ f, f < 6 ∧ nb f ≠ 0 ∧ fr_T kd fl ck tc tf th tp (fr_val bp bf fl y) (5 * r + i) f) ∧
      ∀ (P : Int32 → SY → Prop) n, P 0 (rl, bl, md, pc, ht, sa, cn, po, ac, bm, ck, cg, tc, tf, th, tp, ds, wx, wy, wz, nb, kd, fl, hd, my, w, pr) → wY_match_106 P (nI r) (n + nc) (nI (5 * r + 0)) rl bl md pc ht sa cn po ac bm ck cg tc tf th tp ds wx wy wz nb kd fl hd my vs pr) := by
  have hce : cn (nI r).toNatClampNeg = nI nc := by rw [nI_clamp (by omega)]; exact hcn
  have step : ∀ i w, i < nc → ((∀ x, x < 4 → fr_Bd tc th tp r x 20 → w x = fr_val bp bf fl y x) ∧
      ∀ i', i' < i → cg (5 * r + i') ≠ 0 → ¬ ∃ f, f < 6 ∧ nb f ≠ 0 ∧ fr_T kd fl ck tc tf th tp (fr_val bp bf fl y) (5 * r + i') f) →
      (∃ w', ((∀ x, x < 4 → fr_Bd tc th tp r x 20 → w' x = fr_val bp bf fl y x) ∧
        ∀ i', i' < i + 1 → cg (5 * r + i') ≠ 0 → ¬ ∃ f, f < 6 ∧ nb f ≠ 0 ∧ fr_T kd fl ck tc tf th tp (fr_val bp bf fl y) (5 * r + i') f) ∧
        ∀ (P : Int32 → SY → Prop) n, wY_match_106 P (nI r) n (nI (5 * r + (i + 1))) rl bl md pc ht sa cn po ac bm ck cg tc tf th tp ds wx wy wz nb kd fl hd my w' pr → wY_match_106 P (nI r) (n + 1) (nI (5 * r + i)) rl bl md pc ht sa cn po ac bm ck cg tc tf th tp ds wx wy wz nb kd fl hd my w pr) ∨
      (∃ w', (¬ ∀ i, i < nc → cg (5 * r + i) ≠ 0 → ¬ ∃ f, f < 6 ∧ nb f ≠ 0 ∧ fr_T kd fl ck tc tf th tp (fr_val bp bf fl y) (5 * r + i) f) ∧
        ∀ (P : Int32 → SY → Prop) n, P 0 (rl, bl, md, pc, ht, sa, cn, po, ac, bm, ck, cg, tc, tf, th, tp, ds, wx, wy, wz, nb, kd, fl, hd, my, w', pr) → wY_match_106 P (nI r) (n + 1) (nI (5 * r + i)) rl bl md pc ht sa cn po ac bm ck cg tc tf th tp ds wx wy wz nb kd fl hd my w pr) := by
    intro i w hi ⟨hI, hA⟩
    have h4' : vp_in (nI r) 4 := vp_in_nI hr (by omega)
    have hle : ¬ (5 * nI r + cn (nI r).toNatClampNeg ≤ nI (5 * r + i)) := by
      rw [hce, fr_5m, nI_add]
      exact nI_ge (by omega) (by omega)
    have h20 : vp_in (nI (5 * r + i)) 20 := vp_in_nI (by omega) (by omega)
    have hcl : (nI (5 * r + i)).toNatClampNeg = 5 * r + i := nI_clamp (by omega)
    by_cases hc : cg (5 * r + i) = 0
    · refine Or.inl ⟨w, ⟨hI, fun i' hi' hc' => ?_⟩, fun P n hk => ⟨h4', br_f hle ⟨h20, br_t (by rw [hcl]; exact hc) (nm_r (nI_1 _) hk)⟩⟩⟩
      by_cases e : i' = i
      · subst e; exact absurd hc hc'
      · exact hA i' (by omega) hc'
    · obtain ⟨w', h1, hW⟩ := fy_some (rl := rl) (bl := bl) (md := md) (pc := pc) (ht := ht) (sa := sa) (cn := cn) (po := po) (ac := ac) (bm := bm) (ck := ck) (cg := cg) (tc := tc) (tf := tf) (th := th) (tp := tp) (ds := ds) (wx := wx) (wy := wy) (wz := wz) (nb := nb) (kd := kd) (fl := fl) (hd := hd) (my := my) (vs := w) (pr := pr) h3 h4 hr hy (by omega) hc hI
      by_cases hE : ∃ f, f < 6 ∧ nb f ≠ 0 ∧ fr_T kd fl ck tc tf th tp (fr_val bp bf fl y) (5 * r + i) f
      · refine Or.inr ⟨w', fun H => H i hi hc hE, fun P n hk => ⟨h4', br_f hle ⟨h20, br_f (by rw [hcl]; exact hc) (hW _ ?_)⟩⟩⟩
        rw [fr_bt hE]
        exact br_f (by decide) hk
      · refine Or.inl ⟨w', ⟨h1, fun i' hi' hc' => ?_⟩, fun P n hk => ⟨h4', br_f hle ⟨h20, br_f (by rw [hcl]; exact hc) (hW _ ?_)⟩⟩⟩
        · by_cases e : i' = i
          · subst e; exact hE
          · exact hA i' (by omega) hc'
        · rw [fr_bf hE]
          exact br_t rfl (nm_r (nI_1 _) hk)
  exact fr_exr (σ := Nat → Int32) (Q := Int32 → SY → Prop) (ρ := Nat → Int32)
    (fun P n i w => wY_match_106 P (nI r) n (nI (5 * r + i)) rl bl md pc ht sa cn po ac bm ck cg tc tf th tp ds wx wy wz nb kd fl hd my w pr)
    (fun i w => (∀ x, x < 4 → fr_Bd tc th tp r x 20 → w x = fr_val bp bf fl y x) ∧
      ∀ i', i' < i → cg (5 * r + i') ≠ 0 → ¬ ∃ f, f < 6 ∧ nb f ≠ 0 ∧ fr_T kd fl ck tc tf th tp (fr_val bp bf fl y) (5 * r + i') f)
    (fun P w => P 0 (rl, bl, md, pc, ht, sa, cn, po, ac, bm, ck, cg, tc, tf, th, tp, ds, wx, wy, wz, nb, kd, fl, hd, my, w, pr))
    (fun _ => ¬ ∀ i, i < nc → cg (5 * r + i) ≠ 0 → ¬ ∃ f, f < 6 ∧ nb f ≠ 0 ∧ fr_T kd fl ck tc tf th tp (fr_val bp bf fl y) (5 * r + i) f)
    nc step vs ⟨hvs, fun i' h => absurd h (Nat.not_lt_zero i')⟩
/-- what a rule with fewer positive conditions leaves at 0 -/
theorem fy_m80 {y r p : Nat} (hy8 : y < 864) (hp3 : p ≤ 3) :
    ((∀ j, p ≤ j → j < 3 → fr_dg y j = 0) ∧ ∀ (P : Int32 → SY → Prop) n, wY_match_80 P (nI y) (nI r) rl bl md pc ht sa cn po ac bm ck cg tc tf th tp ds wx wy wz nb kd fl hd my vs pr n (nI 3) → wY_match_80 P (nI y) (nI r) rl bl md pc ht sa cn po ac bm ck cg tc tf th tp ds wx wy wz nb kd fl hd my vs pr (n + (3 - p)) (nI p)) ∨
    ((¬ ∀ j, p ≤ j → j < 3 → fr_dg y j = 0) ∧ ∀ (P : Int32 → SY → Prop) n, P 0 (rl, bl, md, pc, ht, sa, cn, po, ac, bm, ck, cg, tc, tf, th, tp, ds, wx, wy, wz, nb, kd, fl, hd, my, vs, pr) → wY_match_80 P (nI y) (nI r) rl bl md pc ht sa cn po ac bm ck cg tc tf th tp ds wx wy wz nb kd fl hd my vs pr (n + (3 - p)) (nI p)) := by
  have step : ∀ j (s : Unit), j < 3 - p → (∀ j', p ≤ j' → j' < p + j → fr_dg y j' = 0) →
      (∃ s' : Unit, (∀ j', p ≤ j' → j' < p + (j + 1) → fr_dg y j' = 0) ∧ ∀ (P : Int32 → SY → Prop) n, wY_match_80 P (nI y) (nI r) rl bl md pc ht sa cn po ac bm ck cg tc tf th tp ds wx wy wz nb kd fl hd my vs pr n (nI (p + (j + 1))) → wY_match_80 P (nI y) (nI r) rl bl md pc ht sa cn po ac bm ck cg tc tf th tp ds wx wy wz nb kd fl hd my vs pr (n + 1) (nI (p + j))) ∨
      (∃ s' : Unit, (¬ ∀ j, p ≤ j → j < 3 → fr_dg y j = 0) ∧ ∀ (P : Int32 → SY → Prop) n, P 0 (rl, bl, md, pc, ht, sa, cn, po, ac, bm, ck, cg, tc, tf, th, tp, ds, wx, wy, wz, nb, kd, fl, hd, my, vs, pr) → wY_match_80 P (nI y) (nI r) rl bl md pc ht sa cn po ac bm ck cg tc tf th tp ds wx wy wz nb kd fl hd my vs pr (n + 1) (nI (p + j))) := by
    intro j _ hj hI
    have hge : ¬ (3 : Int32) ≤ nI (p + j) := nI_ge (b := 3) (by omega) (by decide)
    by_cases h0 : fr_dg y (p + j) = 0
    · refine Or.inl ⟨(), fun j' h1 h2 => ?_, fun P n hk => br_f hge (fy_place hy8 (by omega) ?_)⟩
      · by_cases e : j' = p + j
        · rw [e]; exact h0
        · exact hI j' h1 (by omega)
      · rw [h0]
        exact br_t nI_0 (nm_r (nI_1 _) hk)
    · refine Or.inr ⟨(), fun H => h0 (H _ (by omega) (by omega)), fun P n hk => br_f hge (fy_place hy8 (by omega) ?_)⟩
      have := fr_dg_lt y (p + j)
      exact br_f (nI_ne0 (by omega) (by omega)) hk
  rcases fr_exr (σ := Unit) (Q := Int32 → SY → Prop) (ρ := Unit)
    (fun P n j _ => wY_match_80 P (nI y) (nI r) rl bl md pc ht sa cn po ac bm ck cg tc tf th tp ds wx wy wz nb kd fl hd my vs pr n (nI (p + j))) (fun j _ => ∀ j', p ≤ j' → j' < p + j → fr_dg y j' = 0) (fun P _ => P 0 (rl, bl, md, pc, ht, sa, cn, po, ac, bm, ck, cg, tc, tf, th, tp, ds, wx, wy, wz, nb, kd, fl, hd, my, vs, pr))
    (fun _ => ¬ ∀ j, p ≤ j → j < 3 → fr_dg y j = 0) (3 - p) step () (fun j' h1 h2 => absurd h2 (by omega)) with ⟨_, hI, hW⟩ | ⟨_, hI, hW⟩
  · refine Or.inl ⟨fun j h1 h2 => hI j h1 (by omega), fun P n hk => hW P n ?_⟩
    show wY_match_80 P (nI y) (nI r) rl bl md pc ht sa cn po ac bm ck cg tc tf th tp ds wx wy wz nb kd fl hd my vs pr n (nI (p + (3 - p)))
    rw [show p + (3 - p) = 3 from by omega]
    exact hk
  · exact Or.inr ⟨hI, fun P n hk => hW P n hk⟩
theorem fy_match {y : Nat} (h2 : fr_R2 R po ng cn ac cg) (h3 : fr_R3 po ng tc tt) (h4 : fr_R4 cg tc tf th tp bd bp bf) (hy8 : y < 864) :
    ∃ w : Nat → Int32, (fr_M nb kd fl po ng ck cg tc tf th tp bp bf y → ∀ x, x < 4 → fr_Bd tc th tp (y / 216) x 20 → w x = fr_val bp bf fl y x) ∧
      ∀ post : Int32 → SY → Prop, post (fr_b (fr_M nb kd fl po ng ck cg tc tf th tp bp bf y)) (rl, bl, md, pc, ht, sa, cn, po, ac, bm, ck, cg, tc, tf, th, tp, ds, wx, wy, wz, nb, kd, fl, hd, my, w, pr) → wpY_match post (rl, bl, md, pc, ht, sa, cn, po, ac, bm, ck, cg, tc, tf, th, tp, ds, wx, wy, wz, nb, kd, fl, hd, my, vs, pr) (nI y) := by
  have hr : y / 216 < 4 := by omega
  obtain ⟨p4, m3, hcn, _, hnp, _⟩ := h2 _ hr
  have p4' := p4.1
  have m3' := m3.1
  have hM := fr_M_Y (nb := nb) (kd := kd) (fl := fl) (po := po) (ng := ng) (ck := ck) (cg := cg) (tc := tc) (tf := tf) (th := th) (tp := tp) (bp := bp) (bf := bf) (y := y) p4' hnp
  have hle : ∀ w : Nat → Int32, (5 * nI (y / 216) + cn (nI (y / 216)).toNatClampNeg ≤ nI (5 * (y / 216) + (fr_n (po (y / 216)) + fr_n (ng (y / 216))))) := by
    intro _
    rw [nI_clamp (by omega), hcn, fr_5m, nI_add]
    exact Int32.le_refl _
  have hvr : vp_in (nI (y / 216)) 4 := vp_in_nI hr (by omega)
  rcases fy_m13 (rl := rl) (bl := bl) (md := md) (pc := pc) (ht := ht) (sa := sa) (cn := cn) (po := po) (ac := ac) (bm := bm) (ck := ck) (cg := cg) (tc := tc) (tf := tf) (th := th) (tp := tp) (ds := ds) (wx := wx) (wy := wy) (wz := wz) (nb := nb) (kd := kd) (fl := fl) (hd := hd) (my := my) (vs := vs) (pr := pr) (p := fr_n (po (y / 216))) h3 h4 hr hy8 rfl (by omega) hcn hnp p4' with ⟨w, ⟨hI, hA⟩, hW⟩ | ⟨w, hA, hW⟩
  · have hI20 : ∀ x, x < 4 → fr_Bd tc th tp (y / 216) x 20 → w x = fr_val bp bf fl y x := fun x hx hB => hI x hx (fr_Bd_20 hr h3 rfl hB)
    rcases fy_m80 (rl := rl) (bl := bl) (md := md) (pc := pc) (ht := ht) (sa := sa) (cn := cn) (po := po) (ac := ac) (bm := bm) (ck := ck) (cg := cg) (tc := tc) (tf := tf) (th := th) (tp := tp) (ds := ds) (wx := wx) (wy := wy) (wz := wz) (nb := nb) (kd := kd) (fl := fl) (hd := hd) (my := my) (vs := w) (pr := pr) (r := y / 216) (p := fr_n (po (y / 216))) hy8 (by omega) with ⟨hB, hW2⟩ | ⟨hB, hW2⟩
    · rcases fy_m106 (rl := rl) (bl := bl) (md := md) (pc := pc) (ht := ht) (sa := sa) (cn := cn) (po := po) (ac := ac) (bm := bm) (ck := ck) (cg := cg) (tc := tc) (tf := tf) (th := th) (tp := tp) (ds := ds) (wx := wx) (wy := wy) (wz := wz) (nb := nb) (kd := kd) (fl := fl) (hd := hd) (my := my) (vs := w) (pr := pr) h3 h4 hr rfl (by omega) hcn hI20 with ⟨w2, ⟨hI2, hN⟩, hW3⟩ | ⟨w2, hN, hW3⟩
      · refine ⟨w2, fun _ => hI2, fun post hp => ⟨by decide, nm_r (fr_d216 (by omega)) (nm_r (fr_5m _) ⟨_, hW post 1 ?_⟩)⟩⟩
        rw [fr_bt (hM.mpr ⟨hA, hB, hN⟩)] at hp
        rw [hnp]
        refine ⟨hvr, br_t (hle w) ⟨_, hW2 post 1 (br_t (nI_le (a := 3) (b := 3) (by omega) (by decide)) (nm_r (fr_5m _) ⟨_, hW3 post 1 ?_⟩))⟩⟩
        exact ⟨hvr, br_t (hle w) hp⟩
      · refine ⟨w2, fun H => absurd (hM.mp H).2.2 hN, fun post hp => ⟨by decide, nm_r (fr_d216 (by omega)) (nm_r (fr_5m _) ⟨_, hW post 1 ?_⟩)⟩⟩
        rw [fr_bf (fun H => hN (hM.mp H).2.2)] at hp
        rw [hnp]
        exact ⟨hvr, br_t (hle w) ⟨_, hW2 post 1 (br_t (nI_le (a := 3) (b := 3) (by omega) (by decide)) (nm_r (fr_5m _) ⟨_, hW3 post 1 hp⟩))⟩⟩
    · refine ⟨w, fun H => absurd (hM.mp H).2.1 hB, fun post hp => ⟨by decide, nm_r (fr_d216 (by omega)) (nm_r (fr_5m _) ⟨_, hW post 1 ?_⟩)⟩⟩
      rw [fr_bf (fun H => hB (hM.mp H).2.1)] at hp
      rw [hnp]
      exact ⟨hvr, br_t (hle w) ⟨_, hW2 post 1 hp⟩⟩
  · refine ⟨w, fun H => absurd (hM.mp H).1 hA, fun post hp => ⟨by decide, nm_r (fr_d216 (by omega)) (nm_r (fr_5m _) ⟨_, hW post 1 ?_⟩)⟩⟩
    rw [fr_bf (fun H => hA (hM.mp H).1)] at hp
    exact hp
/-! ===== the reference settles ===== -/
theorem fy_settle {fin : Nat} (h2 : fr_R2 R po ng cn ac cg) (h3 : fr_R3 po ng tc tt) (h4 : fr_R4 cg tc tf th tp bd bp bf) (hfin : fin ≤ 4)
    (hfe : (bl = 0 → rl = nI fin) ∧ (¬ bl = 0 → rl - 1 = nI fin)) :
    ∃ hd' my' vs' : Nat → Int32, fr_St fin (fr_M nb kd fl po ng ck cg tc tf th tp bp bf) hd my hd' my' ∧ ∀ post : SY → Prop, post (rl, bl, md, pc, ht, sa, cn, po, ac, bm, ck, cg, tc, tf, th, tp, ds, wx, wy, wz, nb, kd, fl, hd', my', vs', pr) → wpY_settle post (rl, bl, md, pc, ht, sa, cn, po, ac, bm, ck, cg, tc, tf, th, tp, ds, wx, wy, wz, nb, kd, fl, hd, my, vs, pr) := by
  have step : ∀ i (s : (Nat → Int32) × (Nat → Int32) × (Nat → Int32)), i < 216 * fin →
      (∀ y, y < 864 → (y < i → s.1 y = fr_b (fr_M nb kd fl po ng ck cg tc tf th tp bp bf y) ∧ (fr_M nb kd fl po ng ck cg tc tf th tp bp bf y → s.2.1 y = my y) ∧ (¬ fr_M nb kd fl po ng ck cg tc tf th tp bp bf y → s.2.1 y = 0)) ∧ (i ≤ y → s.1 y = hd y ∧ s.2.1 y = my y)) →
      ∃ s' : (Nat → Int32) × (Nat → Int32) × (Nat → Int32), (∀ y, y < 864 → (y < i + 1 → s'.1 y = fr_b (fr_M nb kd fl po ng ck cg tc tf th tp bp bf y) ∧ (fr_M nb kd fl po ng ck cg tc tf th tp bp bf y → s'.2.1 y = my y) ∧ (¬ fr_M nb kd fl po ng ck cg tc tf th tp bp bf y → s'.2.1 y = 0)) ∧ (i + 1 ≤ y → s'.1 y = hd y ∧ s'.2.1 y = my y)) ∧
        ∀ (P : SY → Prop) n, wY_settle_23 P (nI fin) n (nI (i + 1)) rl bl md pc ht sa cn po ac bm ck cg tc tf th tp ds wx wy wz nb kd fl (s'.1) (s'.2.1) (s'.2.2) pr → wY_settle_23 P (nI fin) (n + 1) (nI i) rl bl md pc ht sa cn po ac bm ck cg tc tf th tp ds wx wy wz nb kd fl (s.1) (s.2.1) (s.2.2) pr := by
    intro i s hi hI
    have hi8 : i < 864 := by omega
    have hge : ¬ ((216 : Int32) * nI fin ≤ nI i) := by
      rw [show (216 : Int32) * nI fin = nI (216 * fin) from pk_mul 216 fin]
      exact nI_ge hi (by omega)
    have hin : vp_in (nI i) 864 := vp_in_nI hi8 (by decide)
    have hcl : (nI i).toNatClampNeg = i := nI_clamp (by omega)
    obtain ⟨w, _, hW⟩ := fy_match (rl := rl) (bl := bl) (md := md) (pc := pc) (ht := ht) (sa := sa) (cn := cn) (po := po) (ac := ac) (bm := bm) (ck := ck) (cg := cg) (tc := tc) (tf := tf) (th := th) (tp := tp) (ds := ds) (wx := wx) (wy := wy) (wz := wz) (nb := nb) (kd := kd) (fl := fl) (hd := s.1) (my := s.2.1) (vs := s.2.2) (pr := pr) h2 h3 h4 hi8
    by_cases hM : fr_M nb kd fl po ng ck cg tc tf th tp bp bf i
    · refine ⟨(upd s.1 i 1, s.2.1, w), fun y hy => ⟨fun hl => ?_, fun hl => ?_⟩, fun P n hk => br_f hge (hW _ ?_)⟩
      · by_cases e : y = i
        · subst e
          exact ⟨by show upd s.1 y 1 y = _; rw [pk_us, fr_bt hM], fun _ => ((hI y hy).2 (Nat.le_refl _)).2, fun h => absurd hM h⟩
        · have := (hI y hy).1 (by omega)
          exact ⟨by show upd s.1 i 1 y = _; rw [pk_un e]; exact this.1, this.2⟩
      · have := (hI y hy).2 (by omega)
        exact ⟨by show upd s.1 i 1 y = _; rw [pk_un (by omega)]; exact this.1, this.2⟩
      · rw [fr_bt hM]
        refine ⟨hin, nm_r (e' := upd s.1 i 1) (by rw [hcl, ← fr_bt (p := True) trivial, fr_bv]) ⟨hin, br_f ?_ (nm_r (nI_1 i) hk)⟩⟩
        rw [hcl, pk_us]; decide
    · refine ⟨(upd s.1 i 0, upd s.2.1 i 0, w), fun y hy => ⟨fun hl => ?_, fun hl => ?_⟩, fun P n hk => br_f hge (hW _ ?_)⟩
      · by_cases e : y = i
        · subst e
          exact ⟨by show upd s.1 y 0 y = _; rw [pk_us, fr_bf hM], fun h => absurd h hM, fun _ => pk_us⟩
        · have := (hI y hy).1 (by omega)
          refine ⟨by show upd s.1 i 0 y = _; rw [pk_un e]; exact this.1, ?_⟩
          show (_ → upd s.2.1 i 0 y = _) ∧ (_ → upd s.2.1 i 0 y = _)
          rw [pk_un e]; exact this.2
      · have := (hI y hy).2 (by omega)
        refine ⟨by show upd s.1 i 0 y = _; rw [pk_un (by omega)]; exact this.1, ?_⟩
        show upd s.2.1 i 0 y = _
        rw [pk_un (by omega)]; exact this.2
      · rw [fr_bf hM]
        refine ⟨hin, nm_r (e' := upd s.1 i 0) (by rw [hcl, ← fr_bf (p := False) id, fr_bv]) ⟨hin, br_t ?_ ⟨hin, nm_r (e' := upd s.2.1 i 0) (by rw [hcl, ← fr_bf (p := False) id, fr_bv]) (nm_r (nI_1 i) hk)⟩⟩⟩
        rw [hcl, pk_us]
  obtain ⟨s, hI, hW⟩ := fr_exl (σ := (Nat → Int32) × (Nat → Int32) × (Nat → Int32)) (Q := SY → Prop)
    (fun P n i s => wY_settle_23 P (nI fin) n (nI i) rl bl md pc ht sa cn po ac bm ck cg tc tf th tp ds wx wy wz nb kd fl (s.1) (s.2.1) (s.2.2) pr)
    (fun i s => ∀ y, y < 864 → (y < i → s.1 y = fr_b (fr_M nb kd fl po ng ck cg tc tf th tp bp bf y) ∧ (fr_M nb kd fl po ng ck cg tc tf th tp bp bf y → s.2.1 y = my y) ∧ (¬ fr_M nb kd fl po ng ck cg tc tf th tp bp bf y → s.2.1 y = 0)) ∧ (i ≤ y → s.1 y = hd y ∧ s.2.1 y = my y))
    (216 * fin) step (hd, my, vs) (fun y hy => ⟨fun h => absurd h (Nat.not_lt_zero y), fun _ => ⟨rfl, rfl⟩⟩)
  have hend : ∀ post : SY → Prop, post (rl, bl, md, pc, ht, sa, cn, po, ac, bm, ck, cg, tc, tf, th, tp, ds, wx, wy, wz, nb, kd, fl, s.1, s.2.1, s.2.2, pr) → ∃ n, wY_settle_23 post (nI fin) n 0 rl bl md pc ht sa cn po ac bm ck cg tc tf th tp ds wx wy wz nb kd fl hd my vs pr := fun post hp =>
    ⟨1 + 216 * fin, hW post 1 (br_t (by rw [show (216 : Int32) * nI fin = nI (216 * fin) from pk_mul 216 fin]; exact Int32.le_refl _) hp)⟩
  refine ⟨s.1, s.2.1, s.2.2, hI, fun post hp => br_c (fun e => ?_) (fun e => nm_r (hfe.2 e) (hend post hp))⟩
  have h := hend post hp
  rw [← hfe.1 e] at h
  exact h
end
end
section
section
variable {fc md rl bl pc ht : Int32} {nb kd fl sa po ng tt ac ha bd bp bf ck cg tc tf th tp aw ak ao cs ex mx va ff fv pr cn bm ds wx wy wz hd my vs : Nat → Int32} {R : Nat}
/-! ===== the component's match ===== -/
theorem fx_gives {post : Int32 → Prop} {x : Nat} (hcs : fr_CS cs) (hp : ∀ r, r < 4 → fr_Lt (po r) 4) (hx : x < 864)
    (h : post (fr_b (fr_G nb po (fr_sg x)))) : wpX_givesFacts post (fc, md, rl, bl, pc, nb, kd, fl, sa, po, ng, tt, ac, ha, bd, bp, bf, ck, cg, tc, tf, th, tp, aw, ak, ao, cs, ex, mx, va, ff, fv, pr) (nI x) := by
  have hp4 := hp (x / 216) (by omega)
  have h4 := hp4.1
  have e2 : po (nI x / 216).toNatClampNeg = nI (fr_n (po (x / 216))) := by
    rw [fr_d216 (by omega), nI_clamp (by omega)]; exact hp4.2
  refine ⟨by decide, by rw [fr_d216 (by omega)]; exact vp_in_nI (by omega) (by omega), nm_r e2 ⟨by decide, nm_r (e' := nI (3 * (x % 216))) (by rw [fr_r216 (by omega), fr_m3]) ⟨4, ?_⟩⟩⟩
  refine fr_all (fun n j => wX_givesFacts_22 post (nI (fr_n (po (x / 216)))) (nI (3 * (x % 216))) fc md rl bl pc nb kd fl sa po ng tt ac ha bd bp bf ck cg tc tf th tp aw ak ao cs ex mx va ff fv pr n (nI j)) (fun j => fr_Gj nb po (fr_sg x) j) post 3 ?_ ?_ ?_ h
  · intro hp n
    exact br_t (nI_le (a := 3) (b := 3) (by omega) (by decide)) hp
  · intro n j hj hc hp0
    have hdg := fr_dg_lt (fr_sg x) j
    have e4 : cs (nI (3 * (x % 216)) + nI j).toNatClampNeg = nI (fr_dg (fr_sg x) j) := by
      rw [nI_add, nI_clamp (by omega), hcs _ _ (by omega) hj, fr_sg_mdg]
    unfold fr_Gj at hc
    rw [fr_sg_r] at hc
    refine br_f (nI_ge (b := 3) hj (by decide)) ⟨by rw [nI_add]; exact vp_in_nI (by omega) (by omega), nm_r e4 ?_⟩
    refine pk_le _ _ (fun l => br_f (fun e0 => hc ⟨fun l2 => absurd l (by omega), fun _ => (nI_eq (b := 0) (by omega) (by omega)).mp e0⟩) hp0) (fun l => ⟨vp_in_nI hdg (by omega), br_t ?_ hp0⟩) rfl rfl (by omega) (by omega)
    rw [nI_clamp (by omega)]
    exact Classical.byContradiction (fun e0 => hc ⟨fun _ => e0, fun l2 => absurd l (by omega)⟩)
  · intro n j hj hc hk
    have hdg := fr_dg_lt (fr_sg x) j
    have e4 : cs (nI (3 * (x % 216)) + nI j).toNatClampNeg = nI (fr_dg (fr_sg x) j) := by
      rw [nI_add, nI_clamp (by omega), hcs _ _ (by omega) hj, fr_sg_mdg]
    unfold fr_Gj at hc
    rw [fr_sg_r] at hc
    refine br_f (nI_ge (b := 3) hj (by decide)) ⟨by rw [nI_add]; exact vp_in_nI (by omega) (by omega), nm_r e4 ?_⟩
    refine pk_le _ _ (fun l => br_t ?_ (nm_r (nI_1 j) hk)) (fun l => ⟨vp_in_nI hdg (by omega), br_f ?_ (nm_r (nI_1 j) hk)⟩) rfl rfl (by omega) (by omega)
    · rw [hc.2 l]; rfl
    · rw [nI_clamp (by omega)]; exact hc.1 l
theorem fx_bound {post : Int32 → Prop} {r x : Nat} (h5 : fr_R5 R tc th tp bd bp bf bm) (hr : r < 4) (hx : x < 4) (h : post (bd (4 * r + x))) : wpX_isBound post (fc, md, rl, bl, pc, nb, kd, fl, sa, po, ng, tt, ac, ha, bd, bp, bf, ck, cg, tc, tf, th, tp, aw, ak, ao, cs, ex, mx, va, ff, fv, pr) (nI r) (nI x) := by
  have e : nI r * 4 + nI x = nI (4 * r + x) := by rw [fr_m4, nI_add]
  have hcl : (nI r * 4 + nI x).toNatClampNeg = 4 * r + x := by rw [e]; exact nI_clamp (by omega)
  refine ⟨by rw [e]; exact vp_in_nI (by omega) (by omega), ?_, ?_⟩
  · rw [hcl]
    rcases ((h5 r hr).2.2 x hx).2.1 with e0 | e0 <;> rw [e0] <;> rfl
  · rw [hcl]; exact h
theorem fx_read_v {x : Nat} (hcs : fr_CS cs) (h5 : fr_R5 R tc th tp bd bp bf bm) (hx : x < 864) :
    ∃ w : Nat → Int32, (∀ z, z < 4 → bd (4 * (x / 216) + z) ≠ 0 → w z = fr_val bp bf fl (fr_sg x) z) ∧
      ∀ post : SX → Prop, post (fc, md, rl, bl, pc, nb, kd, fl, sa, po, ng, tt, ac, ha, bd, bp, bf, ck, cg, tc, tf, th, tp, aw, ak, ao, cs, ex, mx, w, ff, fv, pr) → wpX_readVariables__variable post (fc, md, rl, bl, pc, nb, kd, fl, sa, po, ng, tt, ac, ha, bd, bp, bf, ck, cg, tc, tf, th, tp, aw, ak, ao, cs, ex, mx, va, ff, fv, pr) (nI x) := by
  have hr : x / 216 < 4 := by omega
  have step : ∀ z (w : Nat → Int32), z < 4 → (∀ z', z' < z → bd (4 * (x / 216) + z') ≠ 0 → w z' = fr_val bp bf fl (fr_sg x) z') →
      ∃ w' : Nat → Int32, (∀ z', z' < z + 1 → bd (4 * (x / 216) + z') ≠ 0 → w' z' = fr_val bp bf fl (fr_sg x) z') ∧
        ∀ (P : SX → Prop) n, wX_readVariables__variable_18 P (nI (x / 216)) (nI (3 * (x % 216))) fc md rl bl pc n (nI (z + 1)) nb kd fl sa po ng tt ac ha bd bp bf ck cg tc tf th tp aw ak ao cs ex mx w' ff fv pr → wX_readVariables__variable_18 P (nI (x / 216)) (nI (3 * (x % 216))) fc md rl bl pc (n + 1) (nI z) nb kd fl sa po ng tt ac ha bd bp bf ck cg tc tf th tp aw ak ao cs ex mx w ff fv pr := by
    intro z w hz hI
    have hge : ¬ (4 : Int32) ≤ nI z := nI_ge (b := 4) hz (by decide)
    by_cases h0 : bd (4 * (x / 216) + z) = 0
    · refine ⟨w, fun z' hz' hb => ?_, fun P n hk => br_f hge (fx_bound h5 hr hz ?_)⟩
      · by_cases e : z' = z
        · rw [e] at hb; exact absurd h0 hb
        · exact hI z' (by omega) hb
      · exact br_t h0 (nm_r (nI_1 z) hk)
    · obtain ⟨_, hP, hF⟩ := ((h5 _ hr).2.2 z hz).2.2 h0
      have hP3 := hP.1
      have hF3 := hF.1
      have hdg := fr_dg_lt (fr_sg x) (fr_n (bp (4 * (x / 216) + z)))
      have e6 : nI (x / 216) * 4 + nI z = nI (4 * (x / 216) + z) := by rw [fr_m4, nI_add]
      have hcl : (nI (4 * (x / 216) + z)).toNatClampNeg = 4 * (x / 216) + z := nI_clamp (by omega)
      have e7 : nI (3 * (x % 216)) + bp (nI (4 * (x / 216) + z)).toNatClampNeg = nI (3 * (x % 216) + fr_n (bp (4 * (x / 216) + z))) := by
        rw [hcl, fr_Lt_add hP]
      have e8 : cs (nI (3 * (x % 216)) + bp (nI (4 * (x / 216) + z)).toNatClampNeg).toNatClampNeg = nI (fr_dg (fr_sg x) (fr_n (bp (4 * (x / 216) + z)))) := by
        rw [e7, nI_clamp (by omega), hcs _ _ (by omega) hP3, fr_sg_mdg]
      have e9 : nI (fr_dg (fr_sg x) (fr_n (bp (4 * (x / 216) + z)))) * 3 + bf (nI (4 * (x / 216) + z)).toNatClampNeg = nI (3 * fr_dg (fr_sg x) (fr_n (bp (4 * (x / 216) + z))) + fr_n (bf (4 * (x / 216) + z))) := by
        rw [hcl, fr_m3, fr_Lt_add hF]
      have hv : fl (nI (fr_dg (fr_sg x) (fr_n (bp (4 * (x / 216) + z)))) * 3 + bf (nI (4 * (x / 216) + z)).toNatClampNeg).toNatClampNeg = fr_val bp bf fl (fr_sg x) z := by
        rw [e9, nI_clamp (by omega)]
        unfold fr_val
        rw [fr_sg_r]
      refine ⟨upd w z (fr_val bp bf fl (fr_sg x) z), fun z' hz' hb => ?_, fun P n hk => br_f hge (fx_bound h5 hr hz ?_)⟩
      · by_cases e : z' = z
        · rw [e, pk_us]
        · rw [pk_un e]; exact hI z' (by omega) hb
      · refine br_f h0 (nm_r e6 ⟨vp_in_nI (by omega) (by omega), ?_, nm_r e8 ⟨vp_in_nI (by omega) (by omega), ?_, vp_in_nI hz (by omega), nm_r (e' := upd w z (fr_val bp bf fl (fr_sg x) z)) ?_ (nm_r (nI_1 z) hk)⟩⟩)
        · rw [e7]; exact vp_in_nI (by omega) (by omega)
        · rw [e9]; exact vp_in_nI (by omega) (by omega)
        · rw [hv, nI_clamp (by omega)]
  obtain ⟨w, hI, hW⟩ := fr_exl (σ := Nat → Int32) (Q := SX → Prop) (fun P n z w => wX_readVariables__variable_18 P (nI (x / 216)) (nI (3 * (x % 216))) fc md rl bl pc n (nI z) nb kd fl sa po ng tt ac ha bd bp bf ck cg tc tf th tp aw ak ao cs ex mx w ff fv pr)
    (fun z w => ∀ z', z' < z → bd (4 * (x / 216) + z') ≠ 0 → w z' = fr_val bp bf fl (fr_sg x) z') 4 step va (fun z' h => absurd h (Nat.not_lt_zero z'))
  refine ⟨w, hI, fun post hp => ⟨by decide, nm_r (fr_d216 (by omega)) ⟨by decide, nm_r (e' := nI (3 * (x % 216))) (by rw [fr_r216 (by omega), fr_m3]) ⟨1 + 4, hW post 1 ?_⟩⟩⟩⟩
  exact br_t (nI_le (a := 4) (b := 4) (by omega) (by decide)) hp
theorem fx_value_v {post : Int32 → Prop} {o : Int32} (h : post (fr_ov va o)) : wpX_valueOf__variable post (fc, md, rl, bl, pc, nb, kd, fl, sa, po, ng, tt, ac, ha, bd, bp, bf, ck, cg, tc, tf, th, tp, aw, ak, ao, cs, ex, mx, va, ff, fv, pr) o := by
  refine nm_e ?_
  by_cases h0 : o &&& 1 = 0
  · rw [fr_ov_e h0] at h
    exact br_t h0 h
  · unfold fr_ov at h
    rw [if_neg h0] at h
    exact br_f h0 ⟨pk_andIn _ 2 (by decide) (by decide), h⟩
theorem fx_read_f {x : Nat} (hcs : fr_CS cs) (h5 : fr_R5 R tc th tp bd bp bf bm) (hx : x < 864) :
    ∃ w : Nat → Int32, (∀ z, z < 4 → bd (4 * (x / 216) + z) ≠ 0 → w z = fr_val bp bf fl (fr_sg x) z) ∧
      ∀ post : SX → Prop, post (fc, md, rl, bl, pc, nb, kd, fl, sa, po, ng, tt, ac, ha, bd, bp, bf, ck, cg, tc, tf, th, tp, aw, ak, ao, cs, ex, mx, va, ff, w, pr) → wpX_readVariables__firedVariable post (fc, md, rl, bl, pc, nb, kd, fl, sa, po, ng, tt, ac, ha, bd, bp, bf, ck, cg, tc, tf, th, tp, aw, ak, ao, cs, ex, mx, va, ff, fv, pr) (nI x) := by
  have hr : x / 216 < 4 := by omega
  have step : ∀ z (w : Nat → Int32), z < 4 → (∀ z', z' < z → bd (4 * (x / 216) + z') ≠ 0 → w z' = fr_val bp bf fl (fr_sg x) z') →
      ∃ w' : Nat → Int32, (∀ z', z' < z + 1 → bd (4 * (x / 216) + z') ≠ 0 → w' z' = fr_val bp bf fl (fr_sg x) z') ∧
        ∀ (P : SX → Prop) n, wX_readVariables__firedVariable_18 P (nI (x / 216)) (nI (3 * (x % 216))) fc md rl bl pc n (nI (z + 1)) nb kd fl sa po ng tt ac ha bd bp bf ck cg tc tf th tp aw ak ao cs ex mx va ff w' pr → wX_readVariables__firedVariable_18 P (nI (x / 216)) (nI (3 * (x % 216))) fc md rl bl pc (n + 1) (nI z) nb kd fl sa po ng tt ac ha bd bp bf ck cg tc tf th tp aw ak ao cs ex mx va ff w pr := by
    intro z w hz hI
    have hge : ¬ (4 : Int32) ≤ nI z := nI_ge (b := 4) hz (by decide)
    by_cases h0 : bd (4 * (x / 216) + z) = 0
    · refine ⟨w, fun z' hz' hb => ?_, fun P n hk => br_f hge (fx_bound h5 hr hz ?_)⟩
      · by_cases e : z' = z
        · rw [e] at hb; exact absurd h0 hb
        · exact hI z' (by omega) hb
      · exact br_t h0 (nm_r (nI_1 z) hk)
    · obtain ⟨_, hP, hF⟩ := ((h5 _ hr).2.2 z hz).2.2 h0
      have hP3 := hP.1
      have hF3 := hF.1
      have hdg := fr_dg_lt (fr_sg x) (fr_n (bp (4 * (x / 216) + z)))
      have e6 : nI (x / 216) * 4 + nI z = nI (4 * (x / 216) + z) := by rw [fr_m4, nI_add]
      have hcl : (nI (4 * (x / 216) + z)).toNatClampNeg = 4 * (x / 216) + z := nI_clamp (by omega)
      have e7 : nI (3 * (x % 216)) + bp (nI (4 * (x / 216) + z)).toNatClampNeg = nI (3 * (x % 216) + fr_n (bp (4 * (x / 216) + z))) := by
        rw [hcl, fr_Lt_add hP]
      have e8 : cs (nI (3 * (x % 216)) + bp (nI (4 * (x / 216) + z)).toNatClampNeg).toNatClampNeg = nI (fr_dg (fr_sg x) (fr_n (bp (4 * (x / 216) + z)))) := by
        rw [e7, nI_clamp (by omega), hcs _ _ (by omega) hP3, fr_sg_mdg]
      have e9 : nI (fr_dg (fr_sg x) (fr_n (bp (4 * (x / 216) + z)))) * 3 + bf (nI (4 * (x / 216) + z)).toNatClampNeg = nI (3 * fr_dg (fr_sg x) (fr_n (bp (4 * (x / 216) + z))) + fr_n (bf (4 * (x / 216) + z))) := by
        rw [hcl, fr_m3, fr_Lt_add hF]
      have hv : fl (nI (fr_dg (fr_sg x) (fr_n (bp (4 * (x / 216) + z)))) * 3 + bf (nI (4 * (x / 216) + z)).toNatClampNeg).toNatClampNeg = fr_val bp bf fl (fr_sg x) z := by
        rw [e9, nI_clamp (by omega)]
        unfold fr_val
        rw [fr_sg_r]
      refine ⟨upd w z (fr_val bp bf fl (fr_sg x) z), fun z' hz' hb => ?_, fun P n hk => br_f hge (fx_bound h5 hr hz ?_)⟩
      · by_cases e : z' = z
        · rw [e, pk_us]
        · rw [pk_un e]; exact hI z' (by omega) hb
      · refine br_f h0 (nm_r e6 ⟨vp_in_nI (by omega) (by omega), ?_, nm_r e8 ⟨vp_in_nI (by omega) (by omega), ?_, vp_in_nI hz (by omega), nm_r (e' := upd w z (fr_val bp bf fl (fr_sg x) z)) ?_ (nm_r (nI_1 z) hk)⟩⟩)
        · rw [e7]; exact vp_in_nI (by omega) (by omega)
        · rw [e9]; exact vp_in_nI (by omega) (by omega)
        · rw [hv, nI_clamp (by omega)]
  obtain ⟨w, hI, hW⟩ := fr_exl (σ := Nat → Int32) (Q := SX → Prop) (fun P n z w => wX_readVariables__firedVariable_18 P (nI (x / 216)) (nI (3 * (x % 216))) fc md rl bl pc n (nI z) nb kd fl sa po ng tt ac ha bd bp bf ck cg tc tf th tp aw ak ao cs ex mx va ff w pr)
    (fun z w => ∀ z', z' < z → bd (4 * (x / 216) + z') ≠ 0 → w z' = fr_val bp bf fl (fr_sg x) z') 4 step fv (fun z' h => absurd h (Nat.not_lt_zero z'))
  refine ⟨w, hI, fun post hp => ⟨by decide, nm_r (fr_d216 (by omega)) ⟨by decide, nm_r (e' := nI (3 * (x % 216))) (by rw [fr_r216 (by omega), fr_m3]) ⟨1 + 4, hW post 1 ?_⟩⟩⟩⟩
  exact br_t (nI_le (a := 4) (b := 4) (by omega) (by decide)) hp
theorem fx_value_f {post : Int32 → Prop} {o : Int32} (h : post (fr_ov fv o)) : wpX_valueOf__firedVariable post (fc, md, rl, bl, pc, nb, kd, fl, sa, po, ng, tt, ac, ha, bd, bp, bf, ck, cg, tc, tf, th, tp, aw, ak, ao, cs, ex, mx, va, ff, fv, pr) o := by
  refine nm_e ?_
  by_cases h0 : o &&& 1 = 0
  · rw [fr_ov_e h0] at h
    exact br_t h0 h
  · unfold fr_ov at h
    rw [if_neg h0] at h
    exact br_f h0 ⟨pk_andIn _ 2 (by decide) (by decide), h⟩
theorem fx_compares {post : Int32 → Prop} {l hw r : Int32} (h : post (fr_b (fr_cp l hw r))) : wpX_compares post l hw r := by
  by_cases e0 : hw = 0
  · refine br_t e0 (br_c (fun e => ?_) (fun e => ?_))
    · rw [fr_bt ⟨fun _ => e, fun e1 => absurd (e0.symm.trans e1) (by decide), fun h => absurd e0 h⟩] at h
      exact h
    · rw [fr_bf (fun H => e (H.1 e0))] at h
      exact h
  · refine br_f e0 ?_
    by_cases e1 : hw = 1
    · refine br_t e1 (br_c (fun e => ?_) (fun e => ?_))
      · rw [fr_bf (fun H => H.2.1 e1 e)] at h
        exact h
      · rw [fr_bt ⟨fun k => absurd k e0, fun _ => e, fun _ k => absurd e1 k⟩] at h
        exact h
    · refine br_f e1 (br_c (fun e => ?_) (fun e => ?_))
      · rw [fr_bf (fun H => absurd (H.2.2 e0 e1) (Int32.not_lt.mpr e))] at h
        exact h
      · rw [fr_bt ⟨fun k => absurd k e0, fun k => absurd k e1, fun _ _ => Int32.not_le.mp e⟩] at h
        exact h
theorem fx_passes {post : Int32 → Prop} {r i f : Nat} (h3 : fr_R3 po ng tc tt) (h4 : fr_R4 cg tc tf th tp bd bp bf) (hr : r < 4) (hi : i < 5) (hf : f < 6)
    (h : post (fr_b (fr_T kd fl ck tc tf th tp va (5 * r + i) f))) : wpX_passes post (fc, md, rl, bl, pc, nb, kd, fl, sa, po, ng, tt, ac, ha, bd, bp, bf, ck, cg, tc, tf, th, tp, aw, ak, ao, cs, ex, mx, va, ff, fv, pr) (nI (5 * r + i)) (nI f) := by
  have hq : 5 * r + i < 20 := by omega
  have ⟨ht5, _⟩ := (h3 r hr).1 i hi
  have htl := ht5.1
  have hte : tc (nI (5 * r + i)).toNatClampNeg = nI (fr_n (tc (5 * r + i))) := by rw [nI_clamp (by omega)]; exact ht5.2
  have h20 : vp_in (nI (5 * r + i)) 20 := vp_in_nI hq (by omega)
  refine ⟨vp_in_nI hf (by omega), h20, ?_⟩
  rw [nI_clamp (by omega), nI_clamp (by omega)]
  refine br_c (fun hk => ⟨fr_n (tc (5 * r + i)) + 1, ?_⟩) (fun hk => ?_)
  · rw [fr_bi (q := ∀ s, s < fr_n (tc (5 * r + i)) → fr_Ti fl tf th tp va (5 * r + i) f s) ⟨fun H => H.2, fun H => ⟨hk, H⟩⟩] at h
    have common : ∀ s, s < fr_n (tc (5 * r + i)) → ∀ n, ((th (4 * (5 * r + i) + s) = 3 → wX_passes_19 post (nI (5 * r + i)) (nI f) fc md rl bl pc nb kd fl sa po ng tt ac ha bd bp bf ck cg tc tf th tp aw ak ao cs ex mx va ff fv pr n (nI (s + 1))) ∧ (th (4 * (5 * r + i) + s) ≠ 3 → (fr_cp (fl (3 * f + fr_n (tf (4 * (5 * r + i) + s)))) (th (4 * (5 * r + i) + s)) (fr_ov va (tp (4 * (5 * r + i) + s))) → wX_passes_19 post (nI (5 * r + i)) (nI f) fc md rl bl pc nb kd fl sa po ng tt ac ha bd bp bf ck cg tc tf th tp aw ak ao cs ex mx va ff fv pr n (nI (s + 1))) ∧ (¬ fr_cp (fl (3 * f + fr_n (tf (4 * (5 * r + i) + s)))) (th (4 * (5 * r + i) + s)) (fr_ov va (tp (4 * (5 * r + i) + s))) → post 0))) →
        wX_passes_19 post (nI (5 * r + i)) (nI f) fc md rl bl pc nb kd fl sa po ng tt ac ha bd bp bf ck cg tc tf th tp aw ak ao cs ex mx va ff fv pr (n + 1) (nI s) := by
      intro s hs n ⟨g1, g2⟩
      obtain ⟨hF, hH, _, _⟩ := h4 r i s hr hi hs
      have hF3 := hF.1
      have e4 : nI (5 * r + i) * 4 + nI s = nI (4 * (5 * r + i) + s) := by rw [fr_m4, nI_add]
      have hcl : (nI (4 * (5 * r + i) + s)).toNatClampNeg = 4 * (5 * r + i) + s := nI_clamp (by omega)
      have h80 : vp_in (nI (4 * (5 * r + i) + s)) 80 := vp_in_nI (by omega) (by omega)
      have hfe : nI f * 3 + tf (nI (4 * (5 * r + i) + s)).toNatClampNeg = nI (3 * f + fr_n (tf (4 * (5 * r + i) + s))) := by
        rw [hcl, fr_m3, fr_Lt_add hF]
      refine ⟨h20, br_f (by rw [hte]; exact nI_ge hs (by omega)) (nm_r e4 ⟨h80, by rw [hfe]; exact vp_in_nI (by omega) (by omega), nm_r (e' := fl (3 * f + fr_n (tf (4 * (5 * r + i) + s)))) (by rw [hfe, nI_clamp (by omega)]) ⟨h80, nm_r (e' := th (4 * (5 * r + i) + s)) (by rw [hcl]) ?_⟩⟩)⟩
      refine br_c (fun e => nm_r (nI_1 s) (g1 e)) (fun e => ⟨h80, ?_⟩)
      rw [hcl]
      refine fx_value_v (fx_compares ?_)
      by_cases hc : fr_cp (fl (3 * f + fr_n (tf (4 * (5 * r + i) + s)))) (th (4 * (5 * r + i) + s)) (fr_ov va (tp (4 * (5 * r + i) + s)))
      · rw [fr_bt hc]
        exact br_f (by decide) (nm_r (nI_1 s) ((g2 e).1 hc))
      · rw [fr_bf hc]
        exact br_t rfl ((g2 e).2 hc)
    refine fr_all (fun n s => wX_passes_19 post (nI (5 * r + i)) (nI f) fc md rl bl pc nb kd fl sa po ng tt ac ha bd bp bf ck cg tc tf th tp aw ak ao cs ex mx va ff fv pr n (nI s)) (fun s => fr_Ti fl tf th tp va (5 * r + i) f s) post _ ?_ ?_ ?_ h
    · intro hp n
      exact ⟨h20, br_t (by rw [hte]; exact Int32.le_refl _) hp⟩
    · intro n s hs hc hp0
      exact common s hs n ⟨fun e => absurd (fun h => absurd e h) hc, fun e => ⟨fun k => absurd (fun _ => k) hc, fun _ => hp0⟩⟩
    · intro n s hs hc hk
      exact common s hs n ⟨fun _ => hk, fun e => ⟨fun _ => hk, fun k => absurd (hc e) k⟩⟩
  · rw [fr_bf (fun H => hk H.1)] at h
    exact h
theorem fx_met {post : Int32 → Prop} {r i : Nat} (h3 : fr_R3 po ng tc tt) (h4 : fr_R4 cg tc tf th tp bd bp bf) (hr : r < 4) (hi : i < 5)
    (h : post (fr_b (∃ f, f < 6 ∧ nb f ≠ 0 ∧ fr_T kd fl ck tc tf th tp va (5 * r + i) f))) : wpX_isMet post (fc, md, rl, bl, pc, nb, kd, fl, sa, po, ng, tt, ac, ha, bd, bp, bf, ck, cg, tc, tf, th, tp, aw, ak, ao, cs, ex, mx, va, ff, fv, pr) (nI (5 * r + i)) := by
  refine ⟨6 + 1, fr_any (fun n f => wX_isMet_2 post (nI (5 * r + i)) fc md rl bl pc nb kd fl sa po ng tt ac ha bd bp bf ck cg tc tf th tp aw ak ao cs ex mx va ff fv pr n (nI f)) (fun f => nb f ≠ 0 ∧ fr_T kd fl ck tc tf th tp va (5 * r + i) f) post 6 ?_ ?_ ?_ h⟩
  · intro hp n
    exact br_t (nI_le (a := 6) (b := 6) (by omega) (by decide)) hp
  · intro n f hf hc hp
    refine br_f (nI_ge (b := 6) hf (by decide)) ⟨vp_in_nI hf (by decide), br_f (by rw [nI_clamp (by omega)]; exact hc.1) (fx_passes h3 h4 hr hi hf ?_)⟩
    rw [fr_bt hc.2]
    exact br_f (by decide) hp
  · intro n f hf hc hk
    refine br_f (nI_ge (b := 6) hf (by decide)) ⟨vp_in_nI hf (by decide), ?_⟩
    rw [nI_clamp (by omega)]
    refine br_c (fun e => nm_r (nI_1 f) hk) (fun e => fx_passes h3 h4 hr hi hf ?_)
    rw [fr_bf (fun H => hc ⟨e, H⟩)]
    exact br_t rfl (nm_r (nI_1 f) hk)
theorem fx_inst {x : Nat} (hcs : fr_CS cs) (h2 : fr_R2 R po ng cn ac cg) (h3 : fr_R3 po ng tc tt) (h4 : fr_R4 cg tc tf th tp bd bp bf) (h5 : fr_R5 R tc th tp bd bp bf bm) (hx : x < 864) :
    ∃ w : Nat → Int32, ∀ post : Int32 → SX → Prop, post (fr_b (fr_M nb kd fl po ng ck cg tc tf th tp bp bf (fr_sg x))) (fc, md, rl, bl, pc, nb, kd, fl, sa, po, ng, tt, ac, ha, bd, bp, bf, ck, cg, tc, tf, th, tp, aw, ak, ao, cs, ex, mx, w, ff, fv, pr) → wpX_isInstantiation post (fc, md, rl, bl, pc, nb, kd, fl, sa, po, ng, tt, ac, ha, bd, bp, bf, ck, cg, tc, tf, th, tp, aw, ak, ao, cs, ex, mx, va, ff, fv, pr) (nI x) := by
  have hp : ∀ r, r < 4 → fr_Lt (po r) 4 := fun r hr => (h2 r hr).1
  have hr : x / 216 < 4 := by omega
  by_cases hG : fr_G nb po (fr_sg x)
  · obtain ⟨w, hw, hW⟩ := fx_read_v (fc := fc) (md := md) (rl := rl) (bl := bl) (pc := pc) (nb := nb) (kd := kd) (fl := fl) (sa := sa) (po := po) (ng := ng) (tt := tt) (ac := ac) (ha := ha) (bd := bd) (bp := bp) (bf := bf) (ck := ck) (cg := cg) (tc := tc) (tf := tf) (th := th) (tp := tp) (aw := aw) (ak := ak) (ao := ao) (cs := cs) (ex := ex) (mx := mx) (va := va) (ff := ff) (fv := fv) (pr := pr) hcs h5 hx
    refine ⟨w, fun post hpo => fx_gives hcs hp hx ?_⟩
    rw [fr_bt hG]
    obtain ⟨p4, m3, hcn, _, hnp, _⟩ := h2 _ hr
    have p4' := p4.1
    have m3' := m3.1
    refine br_f (by decide) (hW _ ⟨by decide, nm_r (fr_d216 (by omega)) ⟨by decide, nm_r (e' := nI (3 * (x % 216))) (by rw [fr_r216 (by omega), fr_m3]) ⟨vp_in_nI hr (by omega), vp_in_nI hr (by omega), ?_⟩⟩⟩)
    rw [nI_clamp (by omega), p4.2, m3.2, nI_add]
    have hTv : ∀ i, i < 5 → ∀ f, fr_T kd fl ck tc tf th tp w (5 * (x / 216) + i) f = fr_T kd fl ck tc tf th tp (fr_val bp bf fl (fr_sg x)) (5 * (x / 216) + i) f :=
      fun i hi f => fr_T_v h4 hr hi hw
    rw [fr_bi (q := ∀ i, i < fr_n (po (x / 216)) + fr_n (ng (x / 216)) → fr_C nb kd fl ck cg tc tf th tp (fr_val bp bf fl (fr_sg x)) (fr_sg x) i) (by
      unfold fr_M
      rw [fr_sg_r]
      exact ⟨fun H => H.2, fun H => ⟨hG, H⟩⟩)] at hpo
    refine ⟨fr_n (po (x / 216)) + fr_n (ng (x / 216)) + 1, ?_⟩
    refine fr_all (fun n i => wX_isInstantiation_46 post (nI (x / 216)) (nI (3 * (x % 216))) (nI (fr_n (po (x / 216)) + fr_n (ng (x / 216)))) fc md rl bl pc nb kd fl sa po ng tt ac ha bd bp bf ck cg tc tf th tp aw ak ao cs ex mx w ff fv pr n (nI (fr_np cg (x / 216) i)) (nI i))
      (fun i => fr_C nb kd fl ck cg tc tf th tp (fr_val bp bf fl (fr_sg x)) (fr_sg x) i) (fun r => post r (fc, md, rl, bl, pc, nb, kd, fl, sa, po, ng, tt, ac, ha, bd, bp, bf, ck, cg, tc, tf, th, tp, aw, ak, ao, cs, ex, mx, w, ff, fv, pr)) _ ?_ ?_ ?_ hpo
    · intro hp n
      exact br_t (Int32.le_refl _) hp
    · intro n i hi hc hp0
      have e7 : nI (x / 216) * 5 + nI i = nI (5 * (x / 216) + i) := by rw [fr_m5, nI_add]
      unfold fr_C at hc
      rw [fr_sg_r] at hc
      refine br_f (nI_ge hi (by omega)) (nm_r e7 ⟨vp_in_nI (by omega) (by omega), ?_⟩)
      rw [nI_clamp (by omega)]
      refine br_c (fun e => ?_) (fun e => ?_)
      · have hnp3 : fr_np cg (x / 216) i < 3 := by have := fr_np_lt hi e; omega
        have e4 : cs (nI (3 * (x % 216)) + nI (fr_np cg (x / 216) i)).toNatClampNeg = nI (fr_dg (fr_sg x) (fr_np cg (x / 216) i)) := by
          rw [nI_add, nI_clamp (by omega), hcs _ _ (by omega) hnp3, fr_sg_mdg]
        refine ⟨by rw [nI_add]; exact vp_in_nI (by omega) (by omega), ?_⟩
        rw [e4]
        refine fx_passes h3 h4 hr (by omega) (fr_dg_lt _ _) ?_
        rw [hTv i (by omega), fr_bf (fun H => hc ⟨fun _ => H, fun k => absurd e k⟩)]
        exact br_t rfl hp0
      · refine fx_met h3 h4 hr (by omega) ?_
        simp only [hTv i (show i < 5 by omega)]
        rw [fr_bt (Classical.byContradiction (fun H => hc ⟨fun k => absurd k e, fun _ => H⟩))]
        exact br_f (by decide) hp0
    · intro n i hi hc hk
      have e7 : nI (x / 216) * 5 + nI i = nI (5 * (x / 216) + i) := by rw [fr_m5, nI_add]
      unfold fr_C at hc
      rw [fr_sg_r] at hc
      refine br_f (nI_ge hi (by omega)) (nm_r e7 ⟨vp_in_nI (by omega) (by omega), ?_⟩)
      rw [nI_clamp (by omega)]
      refine br_c (fun e => ?_) (fun e => ?_)
      · have hnp3 : fr_np cg (x / 216) i < 3 := by have := fr_np_lt hi e; omega
        have e4 : cs (nI (3 * (x % 216)) + nI (fr_np cg (x / 216) i)).toNatClampNeg = nI (fr_dg (fr_sg x) (fr_np cg (x / 216) i)) := by
          rw [nI_add, nI_clamp (by omega), hcs _ _ (by omega) hnp3, fr_sg_mdg]
        refine ⟨by rw [nI_add]; exact vp_in_nI (by omega) (by omega), ?_⟩
        rw [e4]
        refine fx_passes h3 h4 hr (by omega) (fr_dg_lt _ _) ?_
        rw [hTv i (by omega), fr_bt (hc.1 e)]
        rw [fr_np_s e] at hk
        exact br_f (by decide) (nm_r (nI_1 _) (nm_r (nI_1 _) hk))
      · refine fx_met h3 h4 hr (by omega) ?_
        simp only [hTv i (show i < 5 by omega)]
        rw [fr_bf (hc.2 e)]
        rw [fr_np_k e] at hk
        exact br_t rfl (nm_r (nI_1 _) hk)
  · refine ⟨va, fun post hpo => fx_gives hcs hp hx ?_⟩
    rw [fr_bf (fun H => hG H.1)] at hpo
    rw [fr_bf hG]
    exact br_t rfl hpo
/-! ===== the component settles ===== -/
theorem fx_settle {fin : Nat} (hcs : fr_CS cs) (h2 : fr_R2 R po ng cn ac cg) (h3 : fr_R3 po ng tc tt) (h4 : fr_R4 cg tc tf th tp bd bp bf) (h5 : fr_R5 R tc th tp bd bp bf bm) (hfin : fin ≤ 4)
    (hfe : (bl = 0 → rl = nI fin) ∧ (¬ bl = 0 → rl - 1 = nI fin)) :
    ∃ ex' mx' va' : Nat → Int32, fr_St fin (fr_M nb kd fl po ng ck cg tc tf th tp bp bf) (fun y => ex (fr_sg y)) (fun y => mx (fr_sg y)) (fun y => ex' (fr_sg y)) (fun y => mx' (fr_sg y)) ∧ ∀ post : SX → Prop, post (fc, md, rl, bl, pc, nb, kd, fl, sa, po, ng, tt, ac, ha, bd, bp, bf, ck, cg, tc, tf, th, tp, aw, ak, ao, cs, ex', mx', va', ff, fv, pr) → wpX_settle post (fc, md, rl, bl, pc, nb, kd, fl, sa, po, ng, tt, ac, ha, bd, bp, bf, ck, cg, tc, tf, th, tp, aw, ak, ao, cs, ex, mx, va, ff, fv, pr) := by
  have step : ∀ i (s : (Nat → Int32) × (Nat → Int32) × (Nat → Int32)), i < 216 * fin →
      (∀ x, x < 864 → (x < i → s.1 x = fr_b (fr_M nb kd fl po ng ck cg tc tf th tp bp bf (fr_sg x)) ∧ (fr_M nb kd fl po ng ck cg tc tf th tp bp bf (fr_sg x) → s.2.1 x = mx x) ∧ (¬ fr_M nb kd fl po ng ck cg tc tf th tp bp bf (fr_sg x) → s.2.1 x = 0)) ∧ (i ≤ x → s.1 x = ex x ∧ s.2.1 x = mx x)) →
      ∃ s' : (Nat → Int32) × (Nat → Int32) × (Nat → Int32), (∀ x, x < 864 → (x < i + 1 → s'.1 x = fr_b (fr_M nb kd fl po ng ck cg tc tf th tp bp bf (fr_sg x)) ∧ (fr_M nb kd fl po ng ck cg tc tf th tp bp bf (fr_sg x) → s'.2.1 x = mx x) ∧ (¬ fr_M nb kd fl po ng ck cg tc tf th tp bp bf (fr_sg x) → s'.2.1 x = 0)) ∧ (i + 1 ≤ x → s'.1 x = ex x ∧ s'.2.1 x = mx x)) ∧
        ∀ (P : SX → Prop) n, wX_settle_23 P (nI fin) n (nI (i + 1)) fc md rl bl pc nb kd fl sa po ng tt ac ha bd bp bf ck cg tc tf th tp aw ak ao cs (s'.1) (s'.2.1) (s'.2.2) ff fv pr → wX_settle_23 P (nI fin) (n + 1) (nI i) fc md rl bl pc nb kd fl sa po ng tt ac ha bd bp bf ck cg tc tf th tp aw ak ao cs (s.1) (s.2.1) (s.2.2) ff fv pr := by
    intro i s hi hI
    have hi8 : i < 864 := by omega
    have hge : ¬ (nI fin * (216 : Int32) ≤ nI i) := by
      rw [show nI fin * (216 : Int32) = nI (fin * 216) from pk_mul fin 216]
      exact nI_ge (by omega) (by omega)
    have hin : vp_in (nI i) 864 := vp_in_nI hi8 (by decide)
    have hcl : (nI i).toNatClampNeg = i := nI_clamp (by omega)
    obtain ⟨w, hW⟩ := fx_inst (fc := fc) (md := md) (rl := rl) (bl := bl) (pc := pc) (nb := nb) (kd := kd) (fl := fl) (sa := sa) (po := po) (ng := ng) (tt := tt) (ac := ac) (ha := ha) (bd := bd) (bp := bp) (bf := bf) (ck := ck) (cg := cg) (tc := tc) (tf := tf) (th := th) (tp := tp) (aw := aw) (ak := ak) (ao := ao) (cs := cs) (ex := s.1) (mx := s.2.1) (va := s.2.2) (ff := ff) (fv := fv) (pr := pr) hcs h2 h3 h4 h5 hi8
    by_cases hM : fr_M nb kd fl po ng ck cg tc tf th tp bp bf (fr_sg i)
    · refine ⟨(upd s.1 i 1, s.2.1, w), fun y hy => ⟨fun hl => ?_, fun hl => ?_⟩, fun P n hk => br_f hge (hW _ ?_)⟩
      · by_cases e : y = i
        · subst e
          exact ⟨by show upd s.1 y 1 y = _; rw [pk_us, fr_bt hM], fun _ => ((hI y hy).2 (Nat.le_refl _)).2, fun h => absurd hM h⟩
        · have := (hI y hy).1 (by omega)
          exact ⟨by show upd s.1 i 1 y = _; rw [pk_un e]; exact this.1, this.2⟩
      · have := (hI y hy).2 (by omega)
        exact ⟨by show upd s.1 i 1 y = _; rw [pk_un (by omega)]; exact this.1, this.2⟩
      · rw [fr_bt hM]
        refine ⟨hin, nm_r (e' := upd s.1 i 1) (by rw [hcl, ← fr_bt (p := True) trivial, fr_bv]) ⟨hin, br_f ?_ (nm_r (nI_1 i) hk)⟩⟩
        rw [hcl, pk_us]; decide
    · refine ⟨(upd s.1 i 0, upd s.2.1 i 0, w), fun y hy => ⟨fun hl => ?_, fun hl => ?_⟩, fun P n hk => br_f hge (hW _ ?_)⟩
      · by_cases e : y = i
        · subst e
          exact ⟨by show upd s.1 y 0 y = _; rw [pk_us, fr_bf hM], fun h => absurd h hM, fun _ => pk_us⟩
        · have := (hI y hy).1 (by omega)
          refine ⟨by show upd s.1 i 0 y = _; rw [pk_un e]; exact this.1, ?_⟩
          show (_ → upd s.2.1 i 0 y = _) ∧ (_ → upd s.2.1 i 0 y = _)
          rw [pk_un e]; exact this.2
      · have := (hI y hy).2 (by omega)
        refine ⟨by show upd s.1 i 0 y = _; rw [pk_un (by omega)]; exact this.1, ?_⟩
        show upd s.2.1 i 0 y = _
        rw [pk_un (by omega)]; exact this.2
      · rw [fr_bf hM]
        refine ⟨hin, nm_r (e' := upd s.1 i 0) (by rw [hcl, ← fr_bf (p := False) id, fr_bv]) ⟨hin, br_t ?_ ⟨hin, nm_r (e' := upd s.2.1 i 0) (by rw [hcl, ← fr_bf (p := False) id, fr_bv]) (nm_r (nI_1 i) hk)⟩⟩⟩
        rw [hcl, pk_us]
  obtain ⟨s, hI, hW⟩ := fr_exl (σ := (Nat → Int32) × (Nat → Int32) × (Nat → Int32)) (Q := SX → Prop)
    (fun P n i s => wX_settle_23 P (nI fin) n (nI i) fc md rl bl pc nb kd fl sa po ng tt ac ha bd bp bf ck cg tc tf th tp aw ak ao cs (s.1) (s.2.1) (s.2.2) ff fv pr)
    (fun i s => ∀ x, x < 864 → (x < i → s.1 x = fr_b (fr_M nb kd fl po ng ck cg tc tf th tp bp bf (fr_sg x)) ∧ (fr_M nb kd fl po ng ck cg tc tf th tp bp bf (fr_sg x) → s.2.1 x = mx x) ∧ (¬ fr_M nb kd fl po ng ck cg tc tf th tp bp bf (fr_sg x) → s.2.1 x = 0)) ∧ (i ≤ x → s.1 x = ex x ∧ s.2.1 x = mx x))
    (216 * fin) step (ex, mx, va) (fun y hy => ⟨fun h => absurd h (Nat.not_lt_zero y), fun _ => ⟨rfl, rfl⟩⟩)
  have hend : ∀ post : SX → Prop, post (fc, md, rl, bl, pc, nb, kd, fl, sa, po, ng, tt, ac, ha, bd, bp, bf, ck, cg, tc, tf, th, tp, aw, ak, ao, cs, s.1, s.2.1, s.2.2, ff, fv, pr) → ∃ n, wX_settle_23 post (nI fin) n 0 fc md rl bl pc nb kd fl sa po ng tt ac ha bd bp bf ck cg tc tf th tp aw ak ao cs ex mx va ff fv pr := fun post hp =>
    ⟨1 + 216 * fin, hW post 1 (br_t (by rw [show nI fin * (216 : Int32) = nI (fin * 216) from pk_mul fin 216, Nat.mul_comm]; exact Int32.le_refl _) hp)⟩
  refine ⟨s.1, s.2.1, s.2.2, fun y hy => ?_, fun post hp => br_c (fun e => ?_) (fun e => nm_r (hfe.2 e) (hend post hp))⟩
  · have := hI (fr_sg y) (fr_sg_864 hy)
    rw [fr_sg_sg] at this
    refine ⟨fun hl => this.1 (fr_sg_lt hl), fun hl => this.2 ?_⟩
    have h1 : ¬ fr_sg y < 216 * fin := fun h => absurd (fr_sg_lti.mp h) (by omega)
    omega
  · have h := hend post hp
    rw [← hfe.1 e] at h
    exact h
end
end
section
section
variable {fc md rl bl pc ht : Int32} {nb kd fl sa po ng tt ac ha bd bp bf ck cg tc tf th tp aw ak ao cs ex mx va ff fv pr cn bm ds wx wy wz hd my vs : Nat → Int32} {R : Nat}
/-! ===== the relation ===== -/
def fr_INV (b R B : Nat) (fc md rl bl : Int32) (nb kd fl po ng cn ac tt ha bd bp bf bm ck cg tc tf th tp aw ak ao ds wx wy wz cs ex mx hd my : Nat → Int32) : Prop :=
  R ≤ 4 ∧ rl = nI R ∧ B ≤ 1 ∧ bl = nI B ∧ B ≤ R ∧ fr_RB R po ng cn ac tt ha bd bp bf bm cg tc tf th tp aw ak ao ds wx wy wz ∧ fr_CS cs ∧ fr_FB b fc md nb ∧ fr_FL (R - B) (fr_M nb kd fl po ng ck cg tc tf th tp bp bf) ex mx hd my
def fr_Rel (b : Nat) (u : SX) (v : SY) : Prop :=
  ∃ (R B : Nat) (fc md rl bl pc ht : Int32) (nb kd fl sa po ng tt ac ha bd bp bf ck cg tc tf th tp aw ak ao cs ex mx va ff fv pr cn bm ds wx wy wz hd my vs : Nat → Int32),  u = (fc, md, rl, bl, pc, nb, kd, fl, sa, po, ng, tt, ac, ha, bd, bp, bf, ck, cg, tc, tf, th, tp, aw, ak, ao, cs, ex, mx, va, ff, fv, pr) ∧ v = (rl, bl, md, pc, ht, sa, cn, po, ac, bm, ck, cg, tc, tf, th, tp, ds, wx, wy, wz, nb, kd, fl, hd, my, vs, pr) ∧ fr_INV b R B fc md rl bl nb kd fl po ng cn ac tt ha bd bp bf bm ck cg tc tf th tp aw ak ao ds wx wy wz cs ex mx hd my
theorem fr_mk {b B : Nat} (h : fr_INV b R B fc md rl bl nb kd fl po ng cn ac tt ha bd bp bf bm ck cg tc tf th tp aw ak ao ds wx wy wz cs ex mx hd my) : fr_Rel b (fc, md, rl, bl, pc, nb, kd, fl, sa, po, ng, tt, ac, ha, bd, bp, bf, ck, cg, tc, tf, th, tp, aw, ak, ao, cs, ex, mx, va, ff, fv, pr) (rl, bl, md, pc, ht, sa, cn, po, ac, bm, ck, cg, tc, tf, th, tp, ds, wx, wy, wz, nb, kd, fl, hd, my, vs, pr) := ⟨_, _, _, _, _, _, _, _, _, _, _, _, _, _, _, _, _, _, _, _, _, _, _, _, _, _, _, _, _, _, _, _, _, _, _, _, _, _, _, _, _, _, _, _, _, rfl, rfl, h⟩
theorem fr_up {b b' : Nat} {u : SX} {v : SY} (h : fr_Rel b u v) (hb : b ≤ b') : fr_Rel b' u v := by
  obtain ⟨R, B, fc, md, rl, bl, pc, ht, nb, kd, fl, sa, po, ng, tt, ac, ha, bd, bp, bf, ck, cg, tc, tf, th, tp, aw, ak, ao, cs, ex, mx, va, ff, fv, pr, cn, bm, ds, wx, wy, wz, hd, my, vs, e1, e2, h1, h2, h3, h4, h5, h6, h7, h8, h9⟩ := h
  exact ⟨R, B, fc, md, rl, bl, pc, ht, nb, kd, fl, sa, po, ng, tt, ac, ha, bd, bp, bf, ck, cg, tc, tf, th, tp, aw, ak, ao, cs, ex, mx, va, ff, fv, pr, cn, bm, ds, wx, wy, wz, hd, my, vs, e1, e2, h1, h2, h3, h4, h5, h6, h7, fr_FB_up h8 hb, h9⟩
def i_Rel (k : Nat) (u : SX) (v : SY) : Prop := fr_Rel (16 * k) u v
theorem i_up {k : Nat} {u : SX} {v : SY} (h : i_Rel k u v) : i_Rel (k + 5) u v := fr_up h (by omega)
theorem fr_8 {x : Nat} (h : x < 128) : vp_nar .byte (nI x).toInt8.toInt32 = nI x := by
  rw [show (nI x).toInt8.toInt32 = nI x from lg_i2b_small (by rw [nI_toInt (by omega)]; omega) (by rw [nI_toInt (by omega)]; omega)]
  exact fr_n8 h
theorem fr_80 : vp_nar .byte 0 = 0 := fr_n8 (x := 0) (by omega)
theorem fr_b8 {x : Int32} (h1 : ¬ x < -9) (h2 : x ≤ 9) : vp_nar .byte x.toInt8.toInt32 = x := by
  have e1 : (-9 : Int32).toInt = -9 := by decide
  have e2 : (9 : Int32).toInt = 9 := by decide
  rw [Int32.lt_iff_toInt_lt, e1] at h1
  rw [Int32.le_iff_toInt_le, e2] at h2
  have e : x.toInt8.toInt32 = x := lg_i2b_small (by omega) (by omega)
  rw [e, vp_nar_byte, e]
theorem fr_bz (v : Int32) : vp_nar .boolean (lw_bz v) = lw_bz v := by
  unfold vp_nar; rw [lw_bz_n]
theorem fr_b1 : vp_nar .boolean 1 = 1 := by rw [← fr_bt (p := True) trivial, fr_bv]
/-! ===== rule ===== -/
theorem i_vc_rule {k : Nat} {u : SX} {v : SY} (I : i_Rel k u v) (hk : k + 5 ≤ 2560) (v1 : Int32) : wpX_rule (fun r u' => wpY_rule (fun r' v' => r' = r ∧ i_Rel (k + 5) u' v') v v1) u v1 := by
  have up := i_up I
  obtain ⟨R, B, fc, md, rl, bl, pc, ht, nb, kd, fl, sa, po, ng, tt, ac, ha, bd, bp, bf, ck, cg, tc, tf, th, tp, aw, ak, ao, cs, ex, mx, va, ff, fv, pr, cn, bm, ds, wx, wy, wz, hd, my, vs, rfl, rfl, h1, rfl, h3, rfl, h5, h6, h7, h8, h9⟩ := I
  rcases (show B = 0 ∨ B = 1 by omega) with rfl | rfl
  · by_cases hl : R < 4
    · have hx4 : nI R < 4 := nI_lt (b := 4) hl (by decide)
      have hn4 : ¬ nI R = 4 := fun e => by
        have := (nI_eq (a := R) (b := 4) (by omega) (by omega)).mp e
        omega
      by_cases g1 : v1 < -9
      · exact br_t nI_0 (br_t hx4 (br_t g1 (br_t nI_0 (br_f hn4 (br_t g1 ⟨rfl, up⟩)))))
      · by_cases g2 : v1 ≤ 9
        · have hin : vp_in (nI R) 4 := vp_in_nI hl (by decide)
          have hcl : (nI R).toNatClampNeg = R := nI_clamp (by omega)
          obtain ⟨q1, q2, q3, q4, q5, q6⟩ := h6.1 R hl
          obtain ⟨z1, z2, z3⟩ := q6 (Nat.le_refl R)
          have z4 := (h6.2.2.2.1 R hl).2.1 (Nat.le_refl R)
          have z5 : cn R = 0 := by rw [q3, z1, z2]; rfl
          refine br_t nI_0 (br_t hx4 (br_f g1 (br_t g2 ⟨hin, nm_r (e' := upd sa R v1) (by rw [hcl]) (nm_r (nI_1 R) ?_)⟩)))
          refine br_t nI_0 (br_f hn4 (br_f g1 (br_t g2 ⟨hin, nm_r (e' := upd sa R v1) (by rw [hcl, fr_b8 g1 g2]) ⟨hin, nm_r (e' := cn) (by rw [hcl, fr_80]; exact fr_us z5) ⟨hin, nm_r (e' := po) (by rw [hcl, fr_80]; exact fr_us z1) ⟨hin, nm_r (e' := ac) (by rw [hcl, fr_80]; exact fr_us z3) ⟨hin, nm_r (e' := bm) (by rw [hcl, fr_80]; exact fr_us z4) (nm_r (nI_1 R) ⟨?_, ?_⟩)⟩⟩⟩⟩⟩)))
          · exact (nI_pred R).symm
          · exact fr_mk ⟨by omega, rfl, Nat.le_refl 1, rfl, by omega, fr_rule h6, h7, fr_FB_up h8 (by omega), h9⟩
        · exact br_t nI_0 (br_t hx4 (br_f g1 (br_f g2 (br_t nI_0 (br_f hn4 (br_f g1 (br_f g2 ⟨rfl, up⟩)))))))
    · have e4 : R = 4 := by omega
      subst e4
      exact br_t nI_0 (br_f (by decide) (br_t nI_0 (br_t rfl ⟨rfl, up⟩)))
  · exact br_f (by decide) (br_f (by decide) ⟨rfl, up⟩)
end
end
section
section
variable {fc md rl bl pc ht : Int32} {nb kd fl sa po ng tt ac ha bd bp bf ck cg tc tf th tp aw ak ao cs ex mx va ff fv pr cn bm ds wx wy wz hd my vs : Nat → Int32} {R : Nat}
theorem fr_kind {v : Int32} {n : Nat} (hn : n < 2 ^ 31) (h0 : ¬ v < 0) (h1 : ¬ nI n ≤ v) : ∃ k, k < n ∧ v = nI k := by
  rcases pk_ix v hn with h | h | h
  · exact absurd h h0
  · exact absurd h h1
  · exact h
theorem fr_kind2 {v M : Int32} {n : Nat} (hM : M.toInt = n) (h0 : ¬ v < 0) (h1 : ¬ M < v) : ∃ k, k < n + 1 ∧ v = nI k := by
  obtain ⟨j, hj, e⟩ := nI_of2 hM h0 (Int32.not_lt.mp h1)
  exact ⟨j, by omega, e⟩
theorem fr_kind3 {v M : Int32} {n : Nat} (hM : M.toInt = n) (h0 : ¬ v < 0) (h1 : v ≤ M) : ∃ k, k < n + 1 ∧ v = nI k := by
  obtain ⟨j, hj, e⟩ := nI_of2 hM h0 h1
  exact ⟨j, by omega, e⟩
theorem fr_FL_b {r : Nat} {po' ng' ck' cg' tc' tf' th' tp' bp' bf' : Nat → Int32} (h2 : fr_R2 R po ng cn ac cg) (h3 : fr_R3 po ng tc tt) (hr : r ≤ 4)
    (e1 : ∀ q, q < r → po' q = po q) (e2 : ∀ q, q < r → ng' q = ng q)
    (e3 : ∀ q, q < 5 * r → ck' q = ck q) (e4 : ∀ q, q < 5 * r → cg' q = cg q) (e5 : ∀ q, q < 5 * r → tc' q = tc q)
    (e6 : ∀ q, q < 20 * r → tf' q = tf q) (e7 : ∀ q, q < 20 * r → th' q = th q) (e8 : ∀ q, q < 20 * r → tp' q = tp q)
    (e9 : ∀ q, q < 4 * r → bp' q = bp q) (e10 : ∀ q, q < 4 * r → bf' q = bf q)
    (h : fr_FL r (fr_M nb kd fl po ng ck cg tc tf th tp bp bf) ex mx hd my) : fr_FL r (fr_M nb kd fl po' ng' ck' cg' tc' tf' th' tp' bp' bf') ex mx hd my :=
  fr_FL_c h (fun y hy => fr_M_c hy (by have := (h2 (y / 216) (by omega)).1.1; have := (h2 (y / 216) (by omega)).2.1.1; omega)
    (fun i hi => by have := ((h3 (y / 216) (by omega)).1 i hi).1.1; omega) e1 e2 e3 e4 e5 e6 e7 e8 e9 e10)
/-! ===== condition ===== -/
def fr_cOK (r : Nat) (v1 g : Int32) (po ng ac : Nat → Int32) : Prop :=
  (∃ k, k < 4 ∧ v1 = nI k) ∧ fr_n (ac r) = 0 ∧ (g = 0 → fr_n (po r) < 3) ∧ (g ≠ 0 → fr_n (ng r) < 2)
theorem fx_cond_no {post : Int32 → SX → Prop} {r : Nat} {v1 g : Int32} (h2 : fr_R2 (r + 1) po ng cn ac cg) (hr : r < 4) (hno : ¬ fr_cOK r v1 g po ng ac)
    (hp : post 0 (fc, md, nI (r + 1), 1, pc, nb, kd, fl, sa, po, ng, tt, ac, ha, bd, bp, bf, ck, cg, tc, tf, th, tp, aw, ak, ao, cs, ex, mx, va, ff, fv, pr)) : wpX_condition post (fc, md, nI (r + 1), 1, pc, nb, kd, fl, sa, po, ng, tt, ac, ha, bd, bp, bf, ck, cg, tc, tf, th, tp, aw, ak, ao, cs, ex, mx, va, ff, fv, pr) v1 g := by
  obtain ⟨q1, q2, q3, q4, q5, q6⟩ := h2 r hr
  have hin : vp_in (nI r) 4 := vp_in_nI hr (by decide)
  have hcl : (nI r).toNatClampNeg = r := nI_clamp (by omega)
  refine br_f (by decide) (br_c (fun _ => br_t rfl hp) (fun a1 => br_c (fun _ => br_t rfl hp) (fun a2 => br_f (by decide) (nm_r (nI_pred r) (br_c (fun g0 => ⟨hin, ?_⟩) (fun g0 => ⟨hin, ?_⟩))))))
  · rw [hcl]
    refine br_c (fun a3 => br_t rfl ⟨hin, br_c (fun a4 => ?_) (fun _ => hp)⟩) (fun _ => br_f (by decide) hp)
    rw [hcl] at a4
    rw [q4.2] at a4
    rw [q1.2] at a3
    have b4 := (nI_leI (b := 0) (by have := q4.1; omega) (by omega)).mp a4
    have b3 := (nI_ltI (b := 3) (by have := q1.1; omega) (by omega)).mp a3
    exact absurd ⟨fr_kind (n := 4) (by omega) a1 a2, by omega, fun _ => b3, fun h => absurd g0 h⟩ hno
  · rw [hcl]
    refine br_c (fun a3 => br_t rfl ⟨hin, br_c (fun a4 => ?_) (fun _ => hp)⟩) (fun _ => br_f (by decide) hp)
    rw [hcl] at a4
    rw [q4.2] at a4
    rw [q2.2] at a3
    have b4 := (nI_leI (b := 0) (by have := q4.1; omega) (by omega)).mp a4
    have b3 := (nI_ltI (b := 2) (by have := q2.1; omega) (by omega)).mp a3
    exact absurd ⟨fr_kind (n := 4) (by omega) a1 a2, by omega, fun h => absurd h g0, fun _ => b3⟩ hno
theorem fy_cond_no {post : Int32 → SY → Prop} {r : Nat} {v1 g : Int32} (h2 : fr_R2 (r + 1) po ng cn ac cg) (hr : r < 4) (hno : ¬ fr_cOK r v1 g po ng ac)
    (hp : post 0 (nI (r + 1), 1, md, pc, ht, sa, cn, po, ac, bm, ck, cg, tc, tf, th, tp, ds, wx, wy, wz, nb, kd, fl, hd, my, vs, pr)) : wpY_condition post (nI (r + 1), 1, md, pc, ht, sa, cn, po, ac, bm, ck, cg, tc, tf, th, tp, ds, wx, wy, wz, nb, kd, fl, hd, my, vs, pr) v1 g := by
  obtain ⟨q1, q2, q3, q4, q5, q6⟩ := h2 r hr
  have hin : vp_in (nI r) 4 := vp_in_nI hr (by decide)
  have hcl : (nI r).toNatClampNeg = r := nI_clamp (by omega)
  have p4 := q1.1
  have m3 := q2.1
  refine nm_r (nI_pred r) (br_f (by decide) (br_c (fun _ => hp) (fun a1 => br_c (fun _ => hp) (fun a2 => ⟨hin, br_c (fun a4 => ?_) (fun _ => hp)⟩))))
  rw [hcl] at a4
  rw [q4.2] at a4
  have b4 := (nI_leI (b := 0) (by have := q4.1; omega) (by omega)).mp a4
  refine br_c (fun g0 => ⟨hin, br_c (fun _ => hp) (fun a3 => ?_)⟩) (fun g0 => ⟨hin, hin, br_c (fun _ => hp) (fun a3 => ?_)⟩)
  · rw [hcl, q1.2] at a3
    have b3 : fr_n (po r) ≠ 3 := fun e => a3 (by rw [e]; rfl)
    exact absurd ⟨fr_kind2 (M := 3) (n := 3) (by decide) a1 a2, by omega, fun _ => by omega, fun h => absurd g0 h⟩ hno
  · rw [hcl, q3, q1.2] at a3
    have b3 : fr_n (ng r) ≠ 2 := fun e => a3 (by rw [fr_nn (by omega), pk_sub (by omega), Nat.add_sub_cancel_left, e]; rfl)
    exact absurd ⟨fr_kind2 (M := 3) (n := 3) (by decide) a1 a2, by omega, fun h => absurd h g0, fun _ => by omega⟩ hno
theorem fx_cond {post : Int32 → SX → Prop} {r k p m : Nat} {g : Int32} (hr : r < 4) (hk : k < 4) (ep : po r = nI p) (em : ng r = nI m) (ea : ac r = 0) (hg : g = 0 ∨ g = 1)
    (hp3 : g = 0 → p < 3) (hm2 : g ≠ 0 → m < 2) (hp4 : p < 4) (hm3 : m < 3)
    (h0 : g = 0 → post 1 (fc, md, nI (r + 1), 1, pc, nb, kd, fl, sa, upd po r (nI (p + 1)), ng, tt, ac, ha, bd, bp, bf, upd ck (5 * r + (p + m)) (nI k), upd cg (5 * r + (p + m)) g, tc, tf, th, tp, aw, ak, ao, cs, ex, mx, va, ff, fv, pr))
    (h1 : g ≠ 0 → post 1 (fc, md, nI (r + 1), 1, pc, nb, kd, fl, sa, po, upd ng r (nI (m + 1)), tt, ac, ha, bd, bp, bf, upd ck (5 * r + (p + m)) (nI k), upd cg (5 * r + (p + m)) g, tc, tf, th, tp, aw, ak, ao, cs, ex, mx, va, ff, fv, pr)) :
    wpX_condition post (fc, md, nI (r + 1), 1, pc, nb, kd, fl, sa, po, ng, tt, ac, ha, bd, bp, bf, ck, cg, tc, tf, th, tp, aw, ak, ao, cs, ex, mx, va, ff, fv, pr) (nI k) g := by
  have hin : vp_in (nI r) 4 := vp_in_nI hr (by decide)
  have hcl : (nI r).toNatClampNeg = r := nI_clamp (by omega)
  have h60 : wX_condition_60 post (nI k) g (nI r) 0 fc md (nI (r + 1)) 1 pc nb kd fl sa po ng tt ac ha bd bp bf ck cg tc tf th tp aw ak ao cs ex mx va ff fv pr := by
    have hin2 : vp_in (nI (5 * r + (p + m))) 20 ∨ ¬ (p + m < 5) := by
      by_cases h5 : p + m < 5
      · exact Or.inl (vp_in_nI (by omega) (by decide))
      · exact Or.inr h5
    have hpm : p + m < 5 := by
      rcases hg with e | e
      · have := hp3 e; omega
      · have := hm2 (by rw [e]; decide); omega
    have h20 : vp_in (nI (5 * r + (p + m))) 20 := vp_in_nI (by omega) (by decide)
    have hc2 : (nI (5 * r + (p + m))).toNatClampNeg = 5 * r + (p + m) := nI_clamp (by omega)
    have hvb : vp_nar .boolean g = g := by
      rcases hg with e | e
      · rw [e, ← fr_bf (p := False) id, fr_bv]
      · rw [e, fr_b1]
    refine br_t rfl ⟨hin, br_t (by rw [hcl, ea]; exact Int32.le_refl _) ⟨hin, hin, nm_r (e' := nI (5 * r + (p + m))) (by rw [hcl, ep, em, nI_add, fr_m5, nI_add]) ⟨h20, nm_r (e' := upd ck (5 * r + (p + m)) (nI k)) (by rw [hc2]) ⟨h20, nm_r (e' := upd cg (5 * r + (p + m)) g) (by rw [hc2, hvb]) ?_⟩⟩⟩⟩
    refine br_c (fun e => ⟨hin, hin, nm_r (e' := upd po r (nI (p + 1))) (by rw [hcl, ep, nI_1]) (h0 e)⟩) (fun e => ⟨hin, hin, nm_r (e' := upd ng r (nI (m + 1))) (by rw [hcl, em, nI_1]) (h1 e)⟩)
  refine br_f (by decide) (br_f (nI_pos (by omega)) (br_f (nI_ge (b := 4) hk (by decide)) (br_f (by decide) (nm_r (nI_pred r) (br_c (fun e => ⟨hin, br_t ?_ h60⟩) (fun e => ⟨hin, br_t ?_ h60⟩))))))
  · rw [hcl, ep]; exact nI_lt (b := 3) (hp3 e) (by decide)
  · rw [hcl, em]; exact nI_lt (b := 2) (hm2 e) (by decide)
theorem fy_cond {post : Int32 → SY → Prop} {r k p m : Nat} {g : Int32} (hr : r < 4) (hk : k < 4) (ep : po r = nI p) (em : cn r = nI (p + m)) (ea : ac r = 0) (hg : g = 0 ∨ g = 1)
    (hp3 : g = 0 → p < 3) (hm2 : g ≠ 0 → m < 2) (hp4 : p < 4) (hm3 : m < 3) (et : p + m < 5 → tc (5 * r + (p + m)) = 0)
    (h0 : g = 0 → post 1 (nI (r + 1), 1, md, pc, ht, sa, upd cn r (nI (p + m + 1)), upd po r (nI (p + 1)), ac, bm, upd ck (5 * r + (p + m)) (nI k), upd cg (5 * r + (p + m)) g, tc, tf, th, tp, ds, wx, wy, wz, nb, kd, fl, hd, my, vs, pr))
    (h1 : g ≠ 0 → post 1 (nI (r + 1), 1, md, pc, ht, sa, upd cn r (nI (p + m + 1)), po, ac, bm, upd ck (5 * r + (p + m)) (nI k), upd cg (5 * r + (p + m)) g, tc, tf, th, tp, ds, wx, wy, wz, nb, kd, fl, hd, my, vs, pr)) :
    wpY_condition post (nI (r + 1), 1, md, pc, ht, sa, cn, po, ac, bm, ck, cg, tc, tf, th, tp, ds, wx, wy, wz, nb, kd, fl, hd, my, vs, pr) (nI k) g := by
  have hin : vp_in (nI r) 4 := vp_in_nI hr (by decide)
  have hcl : (nI r).toNatClampNeg = r := nI_clamp (by omega)
  have h70 : wY_condition_70 post (nI k) g (nI r) (nI (r + 1)) 1 md pc ht sa cn po ac bm ck cg tc tf th tp ds wx wy wz nb kd fl hd my vs pr := by
    have hpm : p + m < 5 := by
      rcases hg with e | e
      · have := hp3 e; omega
      · have := hm2 (by rw [e]; decide); omega
    have h20 : vp_in (nI (5 * r + (p + m))) 20 := vp_in_nI (by omega) (by decide)
    have hc2 : (nI (5 * r + (p + m))).toNatClampNeg = 5 * r + (p + m) := nI_clamp (by omega)
    have hvb : vp_nar .boolean g = g := by
      rcases hg with e | e
      · rw [e, ← fr_bf (p := False) id, fr_bv]
      · rw [e, fr_b1]
    refine ⟨hin, hin, nm_r (e' := upd cn r (nI (p + m + 1))) (by rw [hcl, em, nI_1, fr_8 (by omega)]) (nm_r (e' := nI (5 * r + (p + m))) (by rw [hcl, em, fr_5m, nI_add]) ⟨h20, nm_r (e' := upd ck (5 * r + (p + m)) (nI k)) (by rw [hc2, fr_8 (by omega)]) ⟨h20, nm_r (e' := upd cg (5 * r + (p + m)) g) (by rw [hc2, hvb]) ⟨h20, nm_r (e' := tc) (by rw [hc2, fr_80]; exact fr_us (et hpm)) ?_⟩⟩⟩)⟩
    refine br_c (fun e => ⟨hin, hin, nm_r (e' := upd po r (nI (p + 1))) (by rw [hcl, ep, nI_1, fr_8 (by omega)]) (h0 e)⟩) (fun e => h1 e)
  refine nm_r (nI_pred r) (br_f (by decide) (br_f (nI_pos (by omega)) (br_f (nI_nlt (a := 3) (by omega) (by decide)) ⟨hin, br_t (by rw [hcl, ea]; exact Int32.le_refl _) (br_c (fun e => ⟨hin, br_f ?_ h70⟩) (fun e => ⟨hin, hin, br_f ?_ h70⟩))⟩)))
  · rw [hcl, ep]
    intro e3
    have := (nI_eq (a := p) (b := 3) (by omega) (by omega)).mp e3
    have := hp3 e
    omega
  · rw [hcl, ep, em, pk_sub (by omega), Nat.add_sub_cancel_left]
    intro e3
    have := (nI_eq (a := m) (b := 2) (by omega) (by omega)).mp e3
    have := hm2 e
    omega
theorem i_vc_condition {k : Nat} {u : SX} {v : SY} (I : i_Rel k u v) (hk : k + 5 ≤ 2560) (v1 : Int32) (v2 : Int32) : wpX_condition (fun r u' => wpY_condition (fun r' v' => r' = r ∧ i_Rel (k + 5) u' v') v v1 (lw_bz v2)) u v1 (lw_bz v2) := by
  have up := i_up I
  obtain ⟨R, B, fc, md, rl, bl, pc, ht, nb, kd, fl, sa, po, ng, tt, ac, ha, bd, bp, bf, ck, cg, tc, tf, th, tp, aw, ak, ao, cs, ex, mx, va, ff, fv, pr, cn, bm, ds, wx, wy, wz, hd, my, vs, rfl, rfl, h1, rfl, h3, rfl, h5, h6, h7, h8, h9⟩ := I
  rcases (show B = 0 ∨ B = 1 by omega) with rfl | rfl
  · exact br_t nI_0 (nm_e (br_t nI_0 ⟨rfl, up⟩))
  · obtain ⟨r, rfl⟩ : ∃ r, R = r + 1 := ⟨R - 1, by omega⟩
    have hr : r < 4 := by omega
    generalize hg : lw_bz v2 = g
    have hg01 : g = 0 ∨ g = 1 := hg ▸ lw_bz_01 v2
    by_cases ok : fr_cOK r v1 g po ng ac
    · obtain ⟨⟨kk, hkk, rfl⟩, oa, op, om⟩ := ok
      obtain ⟨q1, q2, q3, q4, q5, q6⟩ := h6.1 r hr
      have ea : ac r = 0 := by rw [q4.2, oa]; rfl
      obtain ⟨p, hp4, ep, np⟩ := fr_Lt_ex q1
      obtain ⟨m, hm3, em, nm⟩ := fr_Lt_ex q2
      rw [np] at op
      rw [nm] at om
      rw [np, nm] at q3
      have h3r := h6.2.1 r hr
      have et : p + m < 5 → tc (5 * r + (p + m)) = 0 := fun hl => (h3r.1 (p + m) hl).2 (by rw [np, nm]; exact Nat.le_refl _)
      have hFL : fr_FL r (fr_M nb kd fl po ng ck cg tc tf th tp bp bf) ex mx hd my := h9
      refine fx_cond hr hkk ep em ea hg01 op om hp4 hm3 (fun e0 => ?_) (fun e0 => ?_)
      · refine fy_cond hr hkk ep q3 ea hg01 op om hp4 hm3 et (fun _ => ⟨rfl, ?_⟩) (fun e1 => absurd e0 e1)
        have := op e0
        refine fr_mk (B := 1) ⟨h1, rfl, h3, rfl, h5, fr_cond (p' := p + 1) (m' := m) h6 rfl hr np nm (by omega) (by omega) (by omega) (by rw [if_pos e0]) pk_us em (by rw [pk_us]; exact congrArg nI (by omega)) (fun q hq => pk_un hq) (fun _ _ => rfl) (fun q hq => pk_un hq), h7, fr_FB_up h8 (by omega), ?_⟩
        exact fr_FL_b h6.1 h6.2.1 (by omega) (fun q hq => pk_un (by omega)) (fun _ _ => rfl) (fun q hq => pk_un (by omega)) (fun q hq => pk_un (by omega)) (fun _ _ => rfl) (fun _ _ => rfl) (fun _ _ => rfl) (fun _ _ => rfl) (fun _ _ => rfl) (fun _ _ => rfl) hFL
      · refine fy_cond hr hkk ep q3 ea hg01 op om hp4 hm3 et (fun e1 => absurd e1 e0) (fun _ => ⟨rfl, ?_⟩)
        have := om e0
        refine fr_mk (B := 1) ⟨h1, rfl, h3, rfl, h5, fr_cond (p' := p) (m' := m + 1) h6 rfl hr np nm (by omega) (by omega) (by omega) (by rw [if_neg e0]; rfl) ep pk_us (by rw [pk_us]; rfl) (fun _ _ => rfl) (fun q hq => pk_un hq) (fun q hq => pk_un hq), h7, fr_FB_up h8 (by omega), ?_⟩
        exact fr_FL_b h6.1 h6.2.1 (by omega) (fun _ _ => rfl) (fun q hq => pk_un (by omega)) (fun q hq => pk_un (by omega)) (fun q hq => pk_un (by omega)) (fun _ _ => rfl) (fun _ _ => rfl) (fun _ _ => rfl) (fun _ _ => rfl) (fun _ _ => rfl) (fun _ _ => rfl) hFL
    · exact fx_cond_no h6.1 hr ok (fy_cond_no h6.1 hr ok ⟨rfl, up⟩)
end
end
section
section
variable {fc md rl bl pc ht : Int32} {nb kd fl sa po ng tt ac ha bd bp bf ck cg tc tf th tp aw ak ao cs ex mx va ff fv pr cn bm ds wx wy wz hd my vs : Nat → Int32} {R : Nat}
/-! ===== usable operands ===== -/
theorem fx_usable {post : Int32 → Prop} {r : Nat} {o : Int32} (h5 : fr_R5 R tc th tp bd bp bf bm) (hr : r < 4) (h : post (fr_b (fr_Us bd r o))) : wpX_isUsable post (fc, md, rl, bl, pc, nb, kd, fl, sa, po, ng, tt, ac, ha, bd, bp, bf, ck, cg, tc, tf, th, tp, aw, ak, ao, cs, ex, mx, va, ff, fv, pr) (nI r) o := by
  refine br_c (fun e => ?_) (fun e => nm_e (br_c (fun a1 => br_t rfl ?_) (fun a1 => br_c (fun a2 => br_t rfl ?_) (fun a2 => br_f (by decide) ?_))))
  · rw [fr_bt (p := fr_Us bd r o) (fun h => absurd e h)] at h
    exact h
  · rw [fr_bf (fun H => by obtain ⟨x, hx, ex, _⟩ := H e; rw [ex] at a1; exact nI_pos (by omega) a1)] at h
    exact h
  · rw [fr_bf (fun H => by obtain ⟨x, hx, ex, _⟩ := H e; rw [ex] at a2; exact nI_ge (b := 4) hx (by decide) a2)] at h
    exact h
  · obtain ⟨x, hx, ex⟩ := fr_kind (n := 4) (by omega) a1 a2
    rw [ex]
    refine fx_bound h5 hr hx (br_c (fun e0 => ?_) (fun e0 => ?_))
    · rw [fr_bf (fun H => by
        obtain ⟨x', hx', ex', hb⟩ := H e
        have : x = x' := (nI_eq (by omega) (by omega)).mp (ex.symm.trans ex')
        rw [this] at e0
        exact hb e0)] at h
      exact h
    · rw [fr_bt (p := fr_Us bd r o) (fun _ => ⟨x, hx, ex, e0⟩)] at h
      exact h
theorem fy_known {post : Int32 → Prop} {r : Nat} {o : Int32} (h5 : fr_R5 R tc th tp bd bp bf bm) (hr : r < 4) (h : post (fr_b (fr_Us bd r o))) : wpY_known post (nI (r + 1), bl, md, pc, ht, sa, cn, po, ac, bm, ck, cg, tc, tf, th, tp, ds, wx, wy, wz, nb, kd, fl, hd, my, vs, pr) o := by
  refine nm_e (br_c (fun e => ?_) (fun e => br_c (fun a1 => ?_) (fun a1 => br_c (fun a2 => ?_) (fun a2 => ?_))))
  · rw [fr_bt (p := fr_Us bd r o) (fun h => absurd e h)] at h
    exact h
  · rw [fr_bf (fun H => by obtain ⟨x, hx, ex, _⟩ := H e; rw [ex] at a1; exact nI_pos (by omega) a1)] at h
    exact h
  · rw [fr_bf (fun H => by obtain ⟨x, hx, ex, _⟩ := H e; rw [ex] at a2; exact nI_nlt (a := 3) (by omega) (by decide) a2)] at h
    exact h
  · obtain ⟨x, hx, ex⟩ := fr_kind2 (M := 3) (n := 3) (by decide) a1 a2
    obtain ⟨b1, b2, b3⟩ := h5 r hr
    obtain ⟨c1, c2, c3⟩ := b3 x hx
    rw [ex, nI_pred, nI_clamp (by omega), b1.2, fr_16c _ b1.1 x hx]
    refine ⟨vp_in_nI hr (by omega), ?_⟩
    have hlt : fr_n (bm r) / 2 ^ x % 2 < 2 := Nat.mod_lt _ (by omega)
    refine pk_eq _ 0 (fun e0 => ?_) (fun e0 => ?_) rfl rfl (by omega) (by omega)
    · rw [fr_bf (fun H => by
        obtain ⟨x', hx', ex', hb⟩ := H e
        have : x = x' := (nI_eq (by omega) (by omega)).mp (ex.symm.trans ex')
        rw [← this] at hb
        have := c1.mpr hb
        omega)] at h
      exact h
    · rw [fr_bt (p := fr_Us bd r o) (fun _ => ⟨x, hx, ex, c1.mp (by omega)⟩)] at h
      exact h
/-! ===== test ===== -/
def fr_tOK (r : Nat) (v1 v2 v3 : Int32) (po ng ac cg tc bd : Nat → Int32) : Prop :=
  fr_n (po r) + fr_n (ng r) ≠ 0 ∧ fr_n (ac r) = 0 ∧ fr_n (tc (5 * r + (fr_n (po r) + fr_n (ng r) - 1))) < 4 ∧
  (∃ F, F < 3 ∧ v1 = nI F) ∧ (∃ H, H < 4 ∧ v2 = nI H) ∧
  (v2 = 3 → cg (5 * r + (fr_n (po r) + fr_n (ng r) - 1)) = 0 ∧ ∃ x, x < 4 ∧ v3 = nI x ∧ bd (4 * r + x) = 0) ∧
  (v2 ≠ 3 → fr_Us bd r v3)
theorem fx_test_no {post : Int32 → SX → Prop} {r : Nat} {v1 v2 v3 : Int32} (h2 : fr_R2 (r + 1) po ng cn ac cg) (h3 : fr_R3 po ng tc tt) (h5 : fr_R5 (r + 1) tc th tp bd bp bf bm) (hr : r < 4) (hno : ¬ fr_tOK r v1 v2 v3 po ng ac cg tc bd)
    (hp : post 0 (fc, md, nI (r + 1), 1, pc, nb, kd, fl, sa, po, ng, tt, ac, ha, bd, bp, bf, ck, cg, tc, tf, th, tp, aw, ak, ao, cs, ex, mx, va, ff, fv, pr)) : wpX_test post (fc, md, nI (r + 1), 1, pc, nb, kd, fl, sa, po, ng, tt, ac, ha, bd, bp, bf, ck, cg, tc, tf, th, tp, aw, ak, ao, cs, ex, mx, va, ff, fv, pr) v1 v2 v3 := by
  obtain ⟨q1, q2, q3, q4, q5, q6⟩ := h2 r hr
  have p4 := q1.1
  have m3 := q2.1
  have hin : vp_in (nI r) 4 := vp_in_nI hr (by decide)
  have hcl : (nI r).toNatClampNeg = r := nI_clamp (by omega)
  refine br_f (by decide) (br_c (fun _ => hp) (fun a1 => br_c (fun _ => hp) (fun a2 => br_c (fun _ => hp) (fun a3 => br_c (fun a4 => nm_r (nI_pred r) ⟨hin, hin, ?_⟩) (fun _ => hp)))))
  have en : po (nI r).toNatClampNeg + ng (nI r).toNatClampNeg = nI (fr_n (po r) + fr_n (ng r)) := by rw [hcl, q1.2, q2.2, nI_add]; rw [fr_nn (by omega), fr_nn (by omega)]
  rw [en]
  refine pk_eq (fr_n (po r) + fr_n (ng r)) 0 (fun _ => hp) (fun a5 => ⟨hin, br_c (fun a6 => ?_) (fun _ => hp)⟩) rfl rfl (by omega) (by omega)
  obtain ⟨i, ei⟩ : ∃ i, fr_n (po r) + fr_n (ng r) = i + 1 := ⟨fr_n (po r) + fr_n (ng r) - 1, by omega⟩
  have hi5 : i < 5 := by omega
  have h20 : vp_in (nI (5 * r + i)) 20 := vp_in_nI (by omega) (by decide)
  have hc2 : (nI (5 * r + i)).toNatClampNeg = 5 * r + i := nI_clamp (by omega)
  have ht5 := ((h3 r hr).1 i hi5).1
  rw [hcl, q4.2] at a6
  have b6 := (nI_leI (b := 0) (by have := q4.1; omega) (by omega)).mp a6
  refine nm_r (e' := nI (5 * r + i)) (by rw [ei, fr_m5, nI_add]; exact nI_pred (5 * r + i)) ⟨h20, br_c (fun a7 => ?_) (fun _ => hp)⟩
  rw [hc2, ht5.2] at a7
  have b7 := (nI_ltI (b := 4) (by have := ht5.1; omega) (by omega)).mp a7
  have hnok : ¬ ((v2 = 3 → cg (5 * r + i) = 0 ∧ ∃ x, x < 4 ∧ v3 = nI x ∧ bd (4 * r + x) = 0) ∧ (v2 ≠ 3 → fr_Us bd r v3)) := fun ⟨o1, o2⟩ => hno ⟨a5, by omega, by rw [ei]; exact b7, fr_kind (n := 3) (by omega) a1 a2, fr_kind3 (M := 3) (n := 3) (by decide) a3 a4, by rw [ei]; exact o1, o2⟩
  refine br_c (fun e3 => ⟨h20, br_c (fun a8 => ?_) (fun _ => hp)⟩) (fun e3 => fx_usable h5 hr (br_c (fun _ => hp) (fun e0 => ?_)))
  · rw [hc2] at a8
    refine br_c (fun _ => br_t rfl hp) (fun b1 => br_c (fun _ => br_t rfl hp) (fun b2 => br_f (by decide) ?_))
    obtain ⟨x, hx, exv⟩ := fr_kind (n := 4) (by omega) b1 b2
    rw [exv]
    refine fx_bound h5 hr hx (br_c (fun e0 => ?_) (fun _ => hp))
    exact absurd ⟨fun _ => ⟨a8, x, hx, exv, e0⟩, fun h => absurd e3 h⟩ hnok
  · have := fr_b0 (p := fr_Us bd r v3)
    exact absurd ⟨fun h => absurd h e3, fun _ => Classical.byContradiction (fun h => e0 (this.mpr h))⟩ hnok
theorem fy_test_no {post : Int32 → SY → Prop} {r : Nat} {v1 v2 v3 : Int32} (h2 : fr_R2 (r + 1) po ng cn ac cg) (h3 : fr_R3 po ng tc tt) (h5 : fr_R5 (r + 1) tc th tp bd bp bf bm) (hr : r < 4) (hno : ¬ fr_tOK r v1 v2 v3 po ng ac cg tc bd)
    (hp : post 0 (nI (r + 1), 1, md, pc, ht, sa, cn, po, ac, bm, ck, cg, tc, tf, th, tp, ds, wx, wy, wz, nb, kd, fl, hd, my, vs, pr)) : wpY_test post (nI (r + 1), 1, md, pc, ht, sa, cn, po, ac, bm, ck, cg, tc, tf, th, tp, ds, wx, wy, wz, nb, kd, fl, hd, my, vs, pr) v1 v2 v3 := by
  obtain ⟨q1, q2, q3, q4, q5, q6⟩ := h2 r hr
  have p4 := q1.1
  have m3 := q2.1
  have hin : vp_in (nI r) 4 := vp_in_nI hr (by decide)
  have hcl : (nI r).toNatClampNeg = r := nI_clamp (by omega)
  have en : cn (nI r).toNatClampNeg = nI (fr_n (po r) + fr_n (ng r)) := by rw [hcl, q3]
  refine nm_r (nI_pred r) (br_f (by decide) ⟨hin, pk_eq (fr_n (po r) + fr_n (ng r)) 0 (fun _ => hp) (fun a5 => ⟨hin, br_c (fun a6 => ⟨hin, ?_⟩) (fun _ => hp)⟩) en rfl (by omega) (by omega)⟩)
  obtain ⟨i, ei⟩ : ∃ i, fr_n (po r) + fr_n (ng r) = i + 1 := ⟨fr_n (po r) + fr_n (ng r) - 1, by omega⟩
  have hi5 : i < 5 := by omega
  have h20 : vp_in (nI (5 * r + i)) 20 := vp_in_nI (by omega) (by decide)
  have hc2 : (nI (5 * r + i)).toNatClampNeg = 5 * r + i := nI_clamp (by omega)
  have ht5 := ((h3 r hr).1 i hi5).1
  have ht5' := ht5.1
  rw [hcl, q4.2] at a6
  have b6 := (nI_leI (b := 0) (by have := q4.1; omega) (by omega)).mp a6
  refine nm_r (e' := nI (5 * r + i)) (by rw [en, ei, fr_5m, nI_add]; exact nI_pred (5 * r + i)) ⟨h20, pk_eq (fr_n (tc (5 * r + i))) 4 (fun _ => hp) (fun a7 => ?_) (by rw [hc2]; exact ht5.2) rfl (by omega) (by omega)⟩
  refine br_c (fun _ => hp) (fun a1 => br_c (fun _ => hp) (fun a2 => br_c (fun _ => hp) (fun a3 => br_c (fun a4 => ?_) (fun _ => hp))))
  have hnok : ¬ ((v2 = 3 → cg (5 * r + i) = 0 ∧ ∃ x, x < 4 ∧ v3 = nI x ∧ bd (4 * r + x) = 0) ∧ (v2 ≠ 3 → fr_Us bd r v3)) := fun ⟨o1, o2⟩ => hno ⟨a5, by omega, by rw [ei]; show fr_n (tc (5 * r + i)) < 4; omega, fr_kind2 (M := 2) (n := 2) (by decide) a1 a2, fr_kind3 (M := 3) (n := 3) (by decide) a3 a4, by rw [ei]; exact o1, o2⟩
  refine br_c (fun e3 => ⟨h20, br_c (fun a8 => ?_) (fun _ => hp)⟩) (fun e3 => fy_known h5 hr (br_c (fun _ => hp) (fun e0 => ?_)))
  · rw [hc2] at a8
    refine br_c (fun _ => hp) (fun b1 => br_c (fun _ => hp) (fun b2 => ⟨hin, ?_⟩))
    obtain ⟨x, hx, exv⟩ := fr_kind2 (M := 3) (n := 3) (by decide) b1 b2
    obtain ⟨c1, c2, c3⟩ := h5 r hr
    obtain ⟨d1, d2, d3⟩ := c3 x hx
    have hlt : fr_n (bm r) / 2 ^ x % 2 < 2 := Nat.mod_lt _ (by omega)
    refine pk_eq (fr_n (bm r) / 2 ^ x % 2) 0 (fun e0 => ?_) (fun _ => hp) (by rw [exv, hcl]; exact (congrArg (fun z => (z >>> (nI x &&& 31)) &&& 1) c1.2).trans (fr_16c _ c1.1 x hx)) rfl (by omega) (by omega)
    have hb0 : bd (4 * r + x) = 0 := Classical.byContradiction (fun h => by have := d1.mpr h; omega)
    exact absurd ⟨fun _ => ⟨a8, x, hx, exv, hb0⟩, fun h => absurd e3 h⟩ hnok
  · have := fr_b0 (p := fr_Us bd r v3)
    exact absurd ⟨fun h => absurd h e3, fun _ => Classical.byContradiction (fun h => e0 (this.mpr h))⟩ hnok
end
end
section
section
variable {fc md rl bl pc ht : Int32} {nb kd fl sa po ng tt ac ha bd bp bf ck cg tc tf th tp aw ak ao cs ex mx va ff fv pr cn bm ds wx wy wz hd my vs : Nat → Int32} {R : Nat}
theorem fx_t141 {post : Int32 → SX → Prop} {r i s T : Nat} {v1 v2 v3 : Int32} (hr : r < 4) (hi : i < 5) (hs : s < 4) (et : tc (5 * r + i) = nI s) (ett : tt r = nI T)
    (h : post 1 (fc, md, rl, bl, pc, nb, kd, fl, sa, po, ng, upd tt r (nI (T + 1)), ac, ha, bd, bp, bf, ck, cg, upd tc (5 * r + i) (nI (s + 1)), upd tf (4 * (5 * r + i) + s) v1, upd th (4 * (5 * r + i) + s) v2, upd tp (4 * (5 * r + i) + s) v3, aw, ak, ao, cs, ex, mx, va, ff, fv, pr)) :
    wX_test_141 post v1 v2 v3 (nI r) (nI (5 * r + i)) fc md rl bl pc nb kd fl sa po ng tt ac ha bd bp bf ck cg tc tf th tp aw ak ao cs ex mx va ff fv pr := by
  have hin : vp_in (nI r) 4 := vp_in_nI hr (by decide)
  have hcl : (nI r).toNatClampNeg = r := nI_clamp (by omega)
  have h20 : vp_in (nI (5 * r + i)) 20 := vp_in_nI (by omega) (by decide)
  have hc2 : (nI (5 * r + i)).toNatClampNeg = 5 * r + i := nI_clamp (by omega)
  have h80 : vp_in (nI (4 * (5 * r + i) + s)) 80 := vp_in_nI (by omega) (by decide)
  have hc3 : (nI (4 * (5 * r + i) + s)).toNatClampNeg = 4 * (5 * r + i) + s := nI_clamp (by omega)
  exact ⟨h20, nm_r (e' := nI (4 * (5 * r + i) + s)) (by rw [hc2, et, fr_m4, nI_add]) ⟨h80, nm_r (e' := upd tf (4 * (5 * r + i) + s) v1) (by rw [hc3]) ⟨h80, nm_r (e' := upd th (4 * (5 * r + i) + s) v2) (by rw [hc3]) ⟨h80, nm_r (e' := upd tp (4 * (5 * r + i) + s) v3) (by rw [hc3]) ⟨h20, h20, nm_r (e' := upd tc (5 * r + i) (nI (s + 1))) (by rw [hc2, et, nI_1]) ⟨hin, hin, nm_r (e' := upd tt r (nI (T + 1))) (by rw [hcl, ett, nI_1]) h⟩⟩⟩⟩⟩⟩
theorem fy_t151 {post : Int32 → SY → Prop} {r i s F H : Nat} {v3 : Int32} (hr : r < 4) (hi : i < 5) (hs : s < 4) (hF : F < 3) (hH : H < 4) (et : tc (5 * r + i) = nI s)
    (h : post 1 (rl, bl, md, pc, ht, sa, cn, po, ac, bm, ck, cg, upd tc (5 * r + i) (nI (s + 1)), upd tf (4 * (5 * r + i) + s) (nI F), upd th (4 * (5 * r + i) + s) (nI H), upd tp (4 * (5 * r + i) + s) v3, ds, wx, wy, wz, nb, kd, fl, hd, my, vs, pr)) :
    wY_test_151 post (nI F) (nI H) v3 (nI (5 * r + i)) rl bl md pc ht sa cn po ac bm ck cg tc tf th tp ds wx wy wz nb kd fl hd my vs pr := by
  have h20 : vp_in (nI (5 * r + i)) 20 := vp_in_nI (by omega) (by decide)
  have hc2 : (nI (5 * r + i)).toNatClampNeg = 5 * r + i := nI_clamp (by omega)
  have h80 : vp_in (nI (4 * (5 * r + i) + s)) 80 := vp_in_nI (by omega) (by decide)
  have hc3 : (nI (4 * (5 * r + i) + s)).toNatClampNeg = 4 * (5 * r + i) + s := nI_clamp (by omega)
  exact ⟨h20, h20, nm_r (e' := upd tc (5 * r + i) (nI (s + 1))) (by rw [hc2, et, nI_1, fr_8 (by omega)]) (nm_r (e' := nI (4 * (5 * r + i) + s)) (by rw [hc2, et, fr_4m, nI_add]) ⟨h80, nm_r (e' := upd tf (4 * (5 * r + i) + s) (nI F)) (by rw [hc3, fr_8 (by omega)]) ⟨h80, nm_r (e' := upd th (4 * (5 * r + i) + s) (nI H)) (by rw [hc3, fr_8 (by omega)]) ⟨h80, nm_r (e' := upd tp (4 * (5 * r + i) + s) v3) (by rw [hc3]) h⟩⟩⟩)⟩
/-! the way to the leaf that both kinds of test share -/
theorem fx_test_in {post : Int32 → SX → Prop} {r i p m s F H : Nat} {v3 : Int32} (hr : r < 4) (hi : i < 5) (hs : s < 4) (hF : F < 3) (hH : H < 4) (ep : po r = nI p) (em : ng r = nI m) (hpm : p + m = i + 1) (ea : ac r = 0) (et : tc (5 * r + i) = nI s)
    (h : (nI H = 3 → vp_in (nI (5 * r + i)) 20 ∧ ((cg (5 * r + i) = 0 → wpX_isVariable (fun r_99 => (r_99 = 0 → post 0 (fc, md, nI (r + 1), 1, pc, nb, kd, fl, sa, po, ng, tt, ac, ha, bd, bp, bf, ck, cg, tc, tf, th, tp, aw, ak, ao, cs, ex, mx, va, ff, fv, pr)) ∧ (¬ r_99 = 0 → wpX_isBound (fun r_101 => (r_101 = 0 → wpX_bindToLastPositive (fun u => match u with | (fc, md, rl, bl, pc, nb, kd, fl, sa, po, ng, tt, ac, ha, bd, bp, bf, ck, cg, tc, tf, th, tp, aw, ak, ao, cs, ex, mx, va, ff, fv, pr) => wX_test_141 post (nI F) (nI H) v3 (nI r) (nI (5 * r + i)) fc md rl bl pc nb kd fl sa po ng tt ac ha bd bp bf ck cg tc tf th tp aw ak ao cs ex mx va ff fv pr) (fc, md, nI (r + 1), 1, pc, nb, kd, fl, sa, po, ng, tt, ac, ha, bd, bp, bf, ck, cg, tc, tf, th, tp, aw, ak, ao, cs, ex, mx, va, ff, fv, pr) (nI r) v3 (nI F)) ∧ (¬ r_101 = 0 → post 0 (fc, md, nI (r + 1), 1, pc, nb, kd, fl, sa, po, ng, tt, ac, ha, bd, bp, bf, ck, cg, tc, tf, th, tp, aw, ak, ao, cs, ex, mx, va, ff, fv, pr))) (fc, md, nI (r + 1), 1, pc, nb, kd, fl, sa, po, ng, tt, ac, ha, bd, bp, bf, ck, cg, tc, tf, th, tp, aw, ak, ao, cs, ex, mx, va, ff, fv, pr) (nI r) v3)) v3) ∧ (¬ cg (5 * r + i) = 0 → post 0 (fc, md, nI (r + 1), 1, pc, nb, kd, fl, sa, po, ng, tt, ac, ha, bd, bp, bf, ck, cg, tc, tf, th, tp, aw, ak, ao, cs, ex, mx, va, ff, fv, pr)))) ∧
      (¬ nI H = 3 → wpX_isUsable (fun r_48 => (r_48 = 0 → post 0 (fc, md, nI (r + 1), 1, pc, nb, kd, fl, sa, po, ng, tt, ac, ha, bd, bp, bf, ck, cg, tc, tf, th, tp, aw, ak, ao, cs, ex, mx, va, ff, fv, pr)) ∧ (¬ r_48 = 0 → wX_test_141 post (nI F) (nI H) v3 (nI r) (nI (5 * r + i)) fc md (nI (r + 1)) 1 pc nb kd fl sa po ng tt ac ha bd bp bf ck cg tc tf th tp aw ak ao cs ex mx va ff fv pr)) (fc, md, nI (r + 1), 1, pc, nb, kd, fl, sa, po, ng, tt, ac, ha, bd, bp, bf, ck, cg, tc, tf, th, tp, aw, ak, ao, cs, ex, mx, va, ff, fv, pr) (nI r) v3)) :
    wpX_test post (fc, md, nI (r + 1), 1, pc, nb, kd, fl, sa, po, ng, tt, ac, ha, bd, bp, bf, ck, cg, tc, tf, th, tp, aw, ak, ao, cs, ex, mx, va, ff, fv, pr) (nI F) (nI H) v3 := by
  have hin : vp_in (nI r) 4 := vp_in_nI hr (by decide)
  have hcl : (nI r).toNatClampNeg = r := nI_clamp (by omega)
  have h20 : vp_in (nI (5 * r + i)) 20 := vp_in_nI (by omega) (by decide)
  have hc2 : (nI (5 * r + i)).toNatClampNeg = 5 * r + i := nI_clamp (by omega)
  refine br_f (by decide) (br_f (nI_pos (by omega)) (br_f (nI_ge (b := 3) hF (by decide)) (br_f (nI_pos (by omega)) (br_t (nI_le (b := 3) (by omega) (by decide)) (nm_r (nI_pred r) ⟨hin, hin, ?_⟩)))))
  rw [hcl, ep, em, nI_add, hpm]
  refine br_f (nI_ne0 (by omega) (by omega)) ⟨hin, br_t (by rw [ea]; exact Int32.le_refl _) (nm_r (e' := nI (5 * r + i)) (by rw [fr_m5, nI_add]; exact nI_pred (5 * r + i)) ⟨h20, br_t ?_ ?_⟩)⟩
  · rw [hc2, et]; exact nI_lt (b := 4) hs (by decide)
  · rw [hc2]; exact h
theorem fy_test_in {post : Int32 → SY → Prop} {r i n s F H : Nat} {v3 : Int32} (hr : r < 4) (hi : i < 5) (hs : s < 4) (hF : F < 3) (hH : H < 4) (en : cn r = nI (i + 1)) (ea : ac r = 0) (et : tc (5 * r + i) = nI s)
    (h : (nI H = 3 → vp_in (nI (5 * r + i)) 20 ∧ ((cg (5 * r + i) = 0 → (v3 < 0 → post 0 (nI (r + 1), 1, md, pc, ht, sa, cn, po, ac, bm, ck, cg, tc, tf, th, tp, ds, wx, wy, wz, nb, kd, fl, hd, my, vs, pr)) ∧ (¬ v3 < 0 → (3 < v3 → post 0 (nI (r + 1), 1, md, pc, ht, sa, cn, po, ac, bm, ck, cg, tc, tf, th, tp, ds, wx, wy, wz, nb, kd, fl, hd, my, vs, pr)) ∧ (¬ 3 < v3 → vp_in (nI r) 4 ∧ (((bm r >>> (v3 &&& 31)) &&& 1 = 0 → vp_in (nI r) 4 ∧ vp_in (nI r) 4 ∧ ∀ a_b, a_b = upd bm r (vp_nar .byte (bm r ||| ((1 : Int32) <<< (v3 &&& 31))).toInt8.toInt32) → wY_test_151 post (nI F) (nI H) v3 (nI (5 * r + i)) (nI (r + 1)) 1 md pc ht sa cn po ac a_b ck cg tc tf th tp ds wx wy wz nb kd fl hd my vs pr) ∧ (¬ (bm r >>> (v3 &&& 31)) &&& 1 = 0 → post 0 (nI (r + 1), 1, md, pc, ht, sa, cn, po, ac, bm, ck, cg, tc, tf, th, tp, ds, wx, wy, wz, nb, kd, fl, hd, my, vs, pr)))))) ∧ (¬ cg (5 * r + i) = 0 → post 0 (nI (r + 1), 1, md, pc, ht, sa, cn, po, ac, bm, ck, cg, tc, tf, th, tp, ds, wx, wy, wz, nb, kd, fl, hd, my, vs, pr)))) ∧
      (¬ nI H = 3 → wpY_known (fun r_16 => (r_16 = 0 → post 0 (nI (r + 1), 1, md, pc, ht, sa, cn, po, ac, bm, ck, cg, tc, tf, th, tp, ds, wx, wy, wz, nb, kd, fl, hd, my, vs, pr)) ∧ (¬ r_16 = 0 → wY_test_151 post (nI F) (nI H) v3 (nI (5 * r + i)) (nI (r + 1)) 1 md pc ht sa cn po ac bm ck cg tc tf th tp ds wx wy wz nb kd fl hd my vs pr)) (nI (r + 1), 1, md, pc, ht, sa, cn, po, ac, bm, ck, cg, tc, tf, th, tp, ds, wx, wy, wz, nb, kd, fl, hd, my, vs, pr) v3)) :
    wpY_test post (nI (r + 1), 1, md, pc, ht, sa, cn, po, ac, bm, ck, cg, tc, tf, th, tp, ds, wx, wy, wz, nb, kd, fl, hd, my, vs, pr) (nI F) (nI H) v3 := by
  have hin : vp_in (nI r) 4 := vp_in_nI hr (by decide)
  have hcl : (nI r).toNatClampNeg = r := nI_clamp (by omega)
  have h20 : vp_in (nI (5 * r + i)) 20 := vp_in_nI (by omega) (by decide)
  have hc2 : (nI (5 * r + i)).toNatClampNeg = 5 * r + i := nI_clamp (by omega)
  refine nm_r (nI_pred r) (br_f (by decide) ⟨hin, ?_⟩)
  rw [hcl, en]
  refine br_f (nI_ne0 (by omega) (by omega)) ⟨hin, br_t (by rw [ea]; exact Int32.le_refl _) ⟨hin, nm_r (e' := nI (5 * r + i)) (by rw [fr_5m, nI_add]; exact nI_pred (5 * r + i)) ⟨h20, br_f ?_ ?_⟩⟩⟩
  · rw [hc2, et]
    intro e
    have := (nI_eq (a := s) (b := 4) (by omega) (by omega)).mp e
    omega
  · rw [hc2]
    exact br_f (nI_pos (by omega)) (br_f (nI_nlt (a := 2) (by omega) (by decide)) (br_f (nI_pos (by omega)) (br_t (nI_le (b := 3) (by omega) (by decide)) h)))
theorem i_vc_test {k : Nat} {u : SX} {v : SY} (I : i_Rel k u v) (hk : k + 5 ≤ 2560) (v1 : Int32) (v2 : Int32) (v3 : Int32) : wpX_test (fun r u' => wpY_test (fun r' v' => r' = r ∧ i_Rel (k + 5) u' v') v v1 v2 v3) u v1 v2 v3 := by
  have up := i_up I
  obtain ⟨R, B, fc, md, rl, bl, pc, ht, nb, kd, fl, sa, po, ng, tt, ac, ha, bd, bp, bf, ck, cg, tc, tf, th, tp, aw, ak, ao, cs, ex, mx, va, ff, fv, pr, cn, bm, ds, wx, wy, wz, hd, my, vs, rfl, rfl, h1, rfl, h3, rfl, h5, h6, h7, h8, h9⟩ := I
  rcases (show B = 0 ∨ B = 1 by omega) with rfl | rfl
  · exact br_t nI_0 (nm_e (br_t nI_0 ⟨rfl, up⟩))
  · obtain ⟨r, rfl⟩ : ∃ r, R = r + 1 := ⟨R - 1, by omega⟩
    have hr : r < 4 := by omega
    by_cases ok : fr_tOK r v1 v2 v3 po ng ac cg tc bd
    · obtain ⟨o1, o2, o3, ⟨F, hF, rfl⟩, ⟨H, hH, rfl⟩, o6, o7⟩ := ok
      obtain ⟨q1, q2, q3, q4, q5, q6⟩ := h6.1 r hr
      have ea : ac r = 0 := by rw [q4.2, o2]; rfl
      obtain ⟨p, hp4, ep, np⟩ := fr_Lt_ex q1
      obtain ⟨m, hm3, em, nm⟩ := fr_Lt_ex q2
      obtain ⟨i, ei⟩ : ∃ i, p + m = i + 1 := ⟨p + m - 1, by rw [np, nm] at o1; omega⟩
      have hi5 : i < 5 := by omega
      rw [np, nm, ei] at o3 o6
      have en : cn r = nI (i + 1) := by rw [q3, np, nm, ei]
      obtain ⟨s, hs5, es, ns⟩ := fr_Lt_ex ((h6.2.1 r hr).1 i hi5).1
      have hs4 : s < 4 := by
        have : fr_n (tc (5 * r + i)) < 4 := o3
        omega
      have ett := (h6.2.1 r hr).2
      have hFL : fr_FL r (fr_M nb kd fl po ng ck cg tc tf th tp bp bf) ex mx hd my := h9
      have hi' : i + 1 = fr_n (po r) + fr_n (ng r) := by rw [np, nm, ei]
      by_cases eH : H = 3
      · subst eH
        obtain ⟨c0, x, hx, rfl, hb0⟩ := o6 rfl
        have c0' : cg (5 * r + i) = 0 := c0
        have hp1 : 1 ≤ p := by
          have := fr_np_s (cg := cg) c0'
          rw [hi', q5, np] at this
          omega
        refine fx_test_in hr hi5 hs4 hF hH ep em ei ea es (br_t rfl ⟨vp_in_nI (by omega) (by decide), br_t c0' (br_f (nI_pos (by omega)) (br_f (nI_ge (b := 4) hx (by decide)) (br_f (by decide) (fx_bound h6.2.2.2.1 hr hx (br_t hb0 ?_)))))⟩)
        have h16 : vp_in (nI (4 * r + x)) 16 := vp_in_nI (by omega) (by decide)
        have hin : vp_in (nI r) 4 := vp_in_nI hr (by decide)
        have hcl : (nI r).toNatClampNeg = r := nI_clamp (by omega)
        have hc4 : (nI (4 * r + x)).toNatClampNeg = 4 * r + x := nI_clamp (by omega)
        refine nm_r (e' := nI (4 * r + x)) (by rw [fr_m4, nI_add]) ⟨h16, nm_r (e' := upd bd (4 * r + x) 1) (by rw [hc4, fr_b1]) ⟨hin, h16, nm_r (e' := upd bp (4 * r + x) (nI (p - 1))) (by rw [hc4, hcl, ep]; exact congrArg (upd bp (4 * r + x)) (pk_sub (b := 1) hp1)) ⟨h16, nm_r (e' := upd bf (4 * r + x) (nI F)) (by rw [hc4]) ?_⟩⟩⟩
        refine fx_t141 hr hi5 hs4 es ett ?_
        obtain ⟨c1, c2, c3⟩ := h6.2.2.2.1 r hr
        obtain ⟨d1, d2, d3⟩ := c3 x hx
        have hbit : (bm r >>> (nI x &&& 31)) &&& 1 = 0 := by
          refine (congrArg (fun z => (z >>> (nI x &&& 31)) &&& 1) c1.2).trans ((fr_16c _ c1.1 x hx).trans ?_)
          have hlt : fr_n (bm r) / 2 ^ x % 2 < 2 := Nat.mod_lt _ (by omega)
          have : fr_n (bm r) / 2 ^ x % 2 = 0 := by
            by_cases e1 : fr_n (bm r) / 2 ^ x % 2 = 1
            · exact absurd hb0 (d1.mp e1)
            · omega
          rw [this]; rfl
        have hbm : upd bm r (vp_nar .byte (bm r ||| ((1 : Int32) <<< (nI x &&& 31))).toInt8.toInt32) = upd bm r (nI (fr_n (bm r) ||| 2 ^ x)) := by
          have e1 : bm r ||| ((1 : Int32) <<< (nI x &&& 31)) = nI (fr_n (bm r)) ||| ((1 : Int32) <<< (nI x &&& 31)) := congrArg (fun z => z ||| ((1 : Int32) <<< (nI x &&& 31))) c1.2
          rw [e1]
          have e2 := fr_16a _ c1.1 x hx
          rw [vp_nar_byte] at e2
          rw [e2]
          exact congrArg (upd bm r) (fr_n8 (by have := (fr_16b _ c1.1 x hx).1; omega))
        refine fy_test_in (n := 0) hr hi5 hs4 hF hH en ea es (br_t rfl ⟨vp_in_nI (by omega) (by decide), br_t c0' (br_f (nI_pos (by omega)) (br_f (nI_nlt (a := 3) (by omega) (by decide)) ⟨hin, br_t hbit ⟨hin, hin, nm_r hbm ?_⟩⟩))⟩)
        refine fy_t151 (H := 3) hr hi5 hs4 hF hH es ⟨rfl, ?_⟩
        refine fr_mk (B := 1) ⟨h1, rfl, h3, rfl, h5, ?_, h7, fr_FB_up h8 (by omega), ?_⟩
        · have := fr_test_b (x := x) (F := nI F) h6 rfl hr hi' ns hs4 hx hb0 c0' (fr_Lt_n hF (by omega))
          rw [np] at this ⊢
          exact this
        · exact fr_FL_b h6.1 h6.2.1 (by omega) (fun _ _ => rfl) (fun _ _ => rfl) (fun _ _ => rfl) (fun _ _ => rfl) (fun q hq => pk_un (by omega)) (fun q hq => pk_un (by omega)) (fun q hq => pk_un (by omega)) (fun q hq => pk_un (by omega)) (fun q hq => pk_un (by omega)) (fun q hq => pk_un (by omega)) hFL
      · have eH' : ¬ nI H = 3 := fun e => eH ((nI_eq (b := 3) (by omega) (by omega)).mp e)
        have us := o7 eH'
        refine fx_test_in hr hi5 hs4 hF hH ep em ei ea es (br_f eH' (fx_usable h6.2.2.2.1 hr ?_))
        rw [fr_bt us]
        refine br_f (by decide) (fx_t141 hr hi5 hs4 es ett ?_)
        refine fy_test_in (n := 0) hr hi5 hs4 hF hH en ea es (br_f eH' (fy_known h6.2.2.2.1 hr ?_))
        rw [fr_bt us]
        refine br_f (by decide) (fy_t151 hr hi5 hs4 hF hH es ⟨rfl, ?_⟩)
        refine fr_mk (B := 1) ⟨h1, rfl, h3, rfl, h5, fr_test_n h6 rfl hr hi' ns hs4 (by omega) us (fr_Lt_n hF (by omega)), h7, fr_FB_up h8 (by omega), ?_⟩
        exact fr_FL_b h6.1 h6.2.1 (by omega) (fun _ _ => rfl) (fun _ _ => rfl) (fun _ _ => rfl) (fun _ _ => rfl) (fun q hq => pk_un (by omega)) (fun q hq => pk_un (by omega)) (fun q hq => pk_un (by omega)) (fun q hq => pk_un (by omega)) (fun _ _ => rfl) (fun _ _ => rfl) hFL
    · exact fx_test_no h6.1 h6.2.1 h6.2.2.2.1 hr ok (fy_test_no h6.1 h6.2.1 h6.2.2.2.1 hr ok ⟨rfl, up⟩)
end
end
section
section
variable {fc md rl bl pc ht : Int32} {nb kd fl sa po ng tt ac ha bd bp bf ck cg tc tf th tp aw ak ao cs ex mx va ff fv pr cn bm ds wx wy wz hd my vs : Nat → Int32} {R : Nat}
/-! ===== actions: make, act ===== -/
def fr_aOK (r : Nat) (po ac : Nat → Int32) : Prop := 0 < fr_n (po r) ∧ fr_n (ac r) < 4
theorem fx_takes {post : Int32 → Prop} {r : Nat} (h2 : fr_R2 (r + 1) po ng cn ac cg) (hr : r < 4) (h : post (fr_b (fr_aOK r po ac))) : wpX_takesAction post (fc, md, nI (r + 1), 1, pc, nb, kd, fl, sa, po, ng, tt, ac, ha, bd, bp, bf, ck, cg, tc, tf, th, tp, aw, ak, ao, cs, ex, mx, va, ff, fv, pr) := by
  obtain ⟨q1, q2, q3, q4, q5, q6⟩ := h2 r hr
  have p4 := q1.1
  have a5 := q4.1
  have hin : vp_in (nI (r + 1) - 1) 4 := by rw [nI_pred]; exact vp_in_nI hr (by decide)
  have hcl : (nI (r + 1) - 1).toNatClampNeg = r := by rw [nI_pred]; exact nI_clamp (by omega)
  refine br_f (by decide) ⟨hin, pk_le (fr_n (po r)) 0 (fun l => ?_) (fun l => ⟨hin, pk_le 4 (fr_n (ac r)) (fun l2 => ?_) (fun l2 => ?_) rfl (by rw [hcl]; exact q4.2) (by omega) (by omega)⟩) (by rw [hcl]; exact q1.2) rfl (by omega) (by omega)⟩
  · rw [fr_bf (fun H => by have := H.1; omega)] at h
    exact h
  · rw [fr_bf (fun H => by have := H.2; omega)] at h
    exact h
  · rw [fr_bt (p := fr_aOK r po ac) ⟨l, l2⟩] at h
    exact h
theorem fy_noact {post : Int32 → Prop} {r : Nat} (h2 : fr_R2 (r + 1) po ng cn ac cg) (hr : r < 4) (h : post (fr_b (¬ fr_aOK r po ac))) : wpY_noAction post (nI (r + 1), 1, md, pc, ht, sa, cn, po, ac, bm, ck, cg, tc, tf, th, tp, ds, wx, wy, wz, nb, kd, fl, hd, my, vs, pr) := by
  obtain ⟨q1, q2, q3, q4, q5, q6⟩ := h2 r hr
  have p4 := q1.1
  have a5 := q4.1
  have hin : vp_in (nI (r + 1) - 1) 4 := by rw [nI_pred]; exact vp_in_nI hr (by decide)
  have hcl : (nI (r + 1) - 1).toNatClampNeg = r := by rw [nI_pred]; exact nI_clamp (by omega)
  refine br_f (by decide) ⟨hin, pk_eq (fr_n (po r)) 0 (fun l => ?_) (fun l => ⟨hin, pk_eq (fr_n (ac r)) 4 (fun l2 => ?_) (fun l2 => ?_) (by rw [hcl]; exact q4.2) rfl (by omega) (by omega)⟩) (by rw [hcl]; exact q1.2) rfl (by omega) (by omega)⟩
  · rw [fr_bt (p := ¬ fr_aOK r po ac) (fun H => by have := H.1; omega)] at h
    exact h
  · rw [fr_bt (p := ¬ fr_aOK r po ac) (fun H => by have := H.2; omega)] at h
    exact h
  · rw [fr_bf (p := ¬ fr_aOK r po ac) (fun H => H ⟨by omega, by omega⟩)] at h
    exact h
theorem fx_append {post : SX → Prop} {r a : Nat} {W K X Y Z : Int32} (hr : r < 4) (ha4 : a < 4) (ea : ac r = nI a)
    (h : post (fc, md, nI (r + 1), bl, pc, nb, kd, fl, sa, po, ng, tt, upd ac r (nI (a + 1)), ha, bd, bp, bf, ck, cg, tc, tf, th, tp, upd aw (4 * r + a) W, upd ak (4 * r + a) K, upd (upd (upd ao (3 * (4 * r + a)) X) (3 * (4 * r + a) + 1) Y) (3 * (4 * r + a) + 2) Z, cs, ex, mx, va, ff, fv, pr)) :
    wpX_appendAction post (fc, md, nI (r + 1), bl, pc, nb, kd, fl, sa, po, ng, tt, ac, ha, bd, bp, bf, ck, cg, tc, tf, th, tp, aw, ak, ao, cs, ex, mx, va, ff, fv, pr) W K X Y Z := by
  have hin : vp_in (nI r) 4 := vp_in_nI hr (by decide)
  have hcl : (nI r).toNatClampNeg = r := nI_clamp (by omega)
  have h16 : vp_in (nI (4 * r + a)) 16 := vp_in_nI (by omega) (by decide)
  have hc2 : (nI (4 * r + a)).toNatClampNeg = 4 * r + a := nI_clamp (by omega)
  have e0 : nI (4 * r + a) * 3 = nI (3 * (4 * r + a)) := fr_m3 _
  have e1 : nI (4 * r + a) * 3 + 1 = nI (3 * (4 * r + a) + 1) := by rw [fr_m3, nI_1]
  have e2 : nI (4 * r + a) * 3 + 2 = nI (3 * (4 * r + a) + 2) := by rw [fr_m3]; exact nI_add _ 2
  refine nm_r (nI_pred r) ⟨hin, nm_r (e' := nI (4 * r + a)) (by rw [hcl, ea, fr_m4, nI_add]) ⟨h16, nm_r (e' := upd aw (4 * r + a) W) (by rw [hc2]) ⟨h16, nm_r (e' := upd ak (4 * r + a) K) (by rw [hc2]) ⟨?_, nm_r (e' := upd ao (3 * (4 * r + a)) X) (by rw [e0, nI_clamp (by omega)]) ⟨?_, nm_r (e' := upd (upd ao (3 * (4 * r + a)) X) (3 * (4 * r + a) + 1) Y) (by rw [e1, nI_clamp (by omega)]) ⟨?_, nm_r (e' := upd (upd (upd ao (3 * (4 * r + a)) X) (3 * (4 * r + a) + 1) Y) (3 * (4 * r + a) + 2) Z) (by rw [e2, nI_clamp (by omega)]) ⟨hin, hin, nm_r (e' := upd ac r (nI (a + 1))) (by rw [hcl, ea, nI_1]) h⟩⟩⟩⟩⟩⟩⟩
  · rw [e0]; exact vp_in_nI (by omega) (by decide)
  · rw [e1]; exact vp_in_nI (by omega) (by decide)
  · rw [e2]; exact vp_in_nI (by omega) (by decide)
theorem fy_action {post : Int32 → SY → Prop} {r a D : Nat} {X Y Z : Int32} (hr : r < 4) (ha4 : a < 4) (ea : ac r = nI a) (hD : D < 128)
    (h : post 1 (nI (r + 1), bl, md, pc, ht, sa, cn, po, upd ac r (nI (a + 1)), bm, ck, cg, tc, tf, th, tp, upd ds (4 * r + a) (nI D), upd wx (4 * r + a) X, upd wy (4 * r + a) Y, upd wz (4 * r + a) Z, nb, kd, fl, hd, my, vs, pr)) :
    wpY_action post (nI (r + 1), bl, md, pc, ht, sa, cn, po, ac, bm, ck, cg, tc, tf, th, tp, ds, wx, wy, wz, nb, kd, fl, hd, my, vs, pr) (nI D) X Y Z := by
  have hin : vp_in (nI (r + 1) - 1) 4 := by rw [nI_pred]; exact vp_in_nI hr (by decide)
  have hcl : (nI (r + 1) - 1).toNatClampNeg = r := by rw [nI_pred]; exact nI_clamp (by omega)
  have h16 : vp_in (nI (4 * r + a)) 16 := vp_in_nI (by omega) (by decide)
  have hc2 : (nI (4 * r + a)).toNatClampNeg = 4 * r + a := nI_clamp (by omega)
  have e4 : 4 * nI (r + 1) - 4 = nI (4 * r) := by
    rw [fr_4m]
    exact (pk_sub (a := 4 * (r + 1)) (b := 4) (by omega)).trans (congrArg nI (by omega))
  exact ⟨hin, hin, nm_r (e' := upd ac r (nI (a + 1))) (by rw [hcl, ea, nI_1, fr_8 (by omega)]) (nm_r (e' := nI (4 * r + a)) (by rw [hcl, ea, e4, nI_add]) ⟨h16, nm_r (e' := upd ds (4 * r + a) (nI D)) (by rw [hc2, fr_8 hD]) ⟨h16, nm_r (e' := upd wx (4 * r + a) X) (by rw [hc2]) ⟨h16, nm_r (e' := upd wy (4 * r + a) Y) (by rw [hc2]) ⟨h16, nm_r (e' := upd wz (4 * r + a) Z) (by rw [hc2]) h⟩⟩⟩⟩)⟩
/-! a branch by a flag -/
theorem fr_brf {p A B : Prop} (a : ¬ p → A) (b : p → B) : (fr_b p = 0 → A) ∧ (¬ fr_b p = 0 → B) := by
  rw [fr_b0]
  exact ⟨a, fun h => b (Classical.byContradiction h)⟩
theorem i_vc_make {k : Nat} {u : SX} {v : SY} (I : i_Rel k u v) (hk : k + 5 ≤ 2560) (v1 : Int32) (v2 : Int32) (v3 : Int32) (v4 : Int32) : wpX_make (fun r u' => wpY_make (fun r' v' => r' = r ∧ i_Rel (k + 5) u' v') v v1 v2 v3 v4) u v1 v2 v3 v4 := by
  have up := i_up I
  obtain ⟨R, B, fc, md, rl, bl, pc, ht, nb, kd, fl, sa, po, ng, tt, ac, ha, bd, bp, bf, ck, cg, tc, tf, th, tp, aw, ak, ao, cs, ex, mx, va, ff, fv, pr, cn, bm, ds, wx, wy, wz, hd, my, vs, rfl, rfl, h1, rfl, h3, rfl, h5, h6, h7, h8, h9⟩ := I
  rcases (show B = 0 ∨ B = 1 by omega) with rfl | rfl
  · unfold wpX_make
    refine br_t nI_0 (br_t rfl ?_)
    unfold wpY_make
    exact br_t nI_0 (br_f (by decide) ⟨rfl, up⟩)
  · obtain ⟨r, rfl⟩ : ∃ r, R = r + 1 := ⟨R - 1, by omega⟩
    have hr : r < 4 := by omega
    have h5' := h6.2.2.2.1
    have hX : ∀ post : Int32 → SX → Prop, (fr_aOK r po ac → ∀ kk, kk < 4 → v1 = nI kk → fr_Us bd r v2 → fr_Us bd r v3 → fr_Us bd r v4 → wpX_appendAction (fun u => match u with | (fc, md, rl, bl, pc, nb, kd, fl, sa, po, ng, tt, ac, ha, bd, bp, bf, ck, cg, tc, tf, th, tp, aw, ak, ao, cs, ex, mx, va, ff, fv, pr) => post 1 (fc, md, rl, bl, pc, nb, kd, fl, sa, po, ng, tt, ac, ha, bd, bp, bf, ck, cg, tc, tf, th, tp, aw, ak, ao, cs, ex, mx, va, ff, fv, pr)) (fc, md, nI (r + 1), 1, pc, nb, kd, fl, sa, po, ng, tt, ac, ha, bd, bp, bf, ck, cg, tc, tf, th, tp, aw, ak, ao, cs, ex, mx, va, ff, fv, pr) 3 (nI kk) v2 v3 v4) →
        (¬ (fr_aOK r po ac ∧ (∃ kk, kk < 4 ∧ v1 = nI kk) ∧ fr_Us bd r v2 ∧ fr_Us bd r v3 ∧ fr_Us bd r v4) → post 0 (fc, md, nI (r + 1), 1, pc, nb, kd, fl, sa, po, ng, tt, ac, ha, bd, bp, bf, ck, cg, tc, tf, th, tp, aw, ak, ao, cs, ex, mx, va, ff, fv, pr)) → wpX_make post (fc, md, nI (r + 1), 1, pc, nb, kd, fl, sa, po, ng, tt, ac, ha, bd, bp, bf, ck, cg, tc, tf, th, tp, aw, ak, ao, cs, ex, mx, va, ff, fv, pr) v1 v2 v3 v4 := by
      intro post hok hno
      unfold wpX_make
      refine fx_takes h6.1 hr (fr_brf (fun n1 => hno (fun H => n1 H.1)) (fun y1 => ?_))
      refine br_c (fun n2 => br_t rfl (hno (fun ⟨_, ⟨kk, hkk, e⟩, _⟩ => by rw [e] at n2; exact nI_pos (by omega) n2))) (fun a1 => br_c (fun n2 => br_t rfl (hno (fun ⟨_, ⟨kk, hkk, e⟩, _⟩ => by rw [e] at n2; exact nI_ge (b := 4) hkk (by decide) n2))) (fun a2 => br_f (by decide) (nm_r (nI_pred r) ?_)))
      refine fx_usable h5' hr (fr_brf (fun n3 => hno (fun H => n3 H.2.2.1)) (fun y3 => ?_))
      refine fx_usable h5' hr (fr_brf (fun n4 => hno (fun H => n4 H.2.2.2.1)) (fun y4 => ?_))
      refine fx_usable h5' hr (fr_brf (fun n5 => hno (fun H => n5 H.2.2.2.2)) (fun y5 => ?_))
      obtain ⟨kk, hkk, e⟩ := fr_kind (n := 4) (by omega) a1 a2
      rw [e]
      exact hok y1 kk hkk e y3 y4 y5
    have hY : ∀ post : Int32 → SY → Prop, (fr_aOK r po ac → ∀ kk, kk < 4 → v1 = nI kk → fr_Us bd r v2 → fr_Us bd r v3 → fr_Us bd r v4 → wpY_action (fun r_119 u => match u with | (rl, bl, md, pc, ht, sa, cn, po, ac, bm, ck, cg, tc, tf, th, tp, ds, wx, wy, wz, nb, kd, fl, hd, my, vs, pr) => narrow .boolean (.int r_119) = .int r_119 ∧ post r_119 (rl, bl, md, pc, ht, sa, cn, po, ac, bm, ck, cg, tc, tf, th, tp, ds, wx, wy, wz, nb, kd, fl, hd, my, vs, pr)) (nI (r + 1), 1, md, pc, ht, sa, cn, po, ac, bm, ck, cg, tc, tf, th, tp, ds, wx, wy, wz, nb, kd, fl, hd, my, vs, pr) (nI (10 + kk)) v2 v3 v4) →
        (¬ (fr_aOK r po ac ∧ (∃ kk, kk < 4 ∧ v1 = nI kk) ∧ fr_Us bd r v2 ∧ fr_Us bd r v3 ∧ fr_Us bd r v4) → post 0 (nI (r + 1), 1, md, pc, ht, sa, cn, po, ac, bm, ck, cg, tc, tf, th, tp, ds, wx, wy, wz, nb, kd, fl, hd, my, vs, pr)) → wpY_make post (nI (r + 1), 1, md, pc, ht, sa, cn, po, ac, bm, ck, cg, tc, tf, th, tp, ds, wx, wy, wz, nb, kd, fl, hd, my, vs, pr) v1 v2 v3 v4 := by
      intro post hok hno
      unfold wpY_make
      refine fy_noact h6.1 hr (fr_brf (fun y1 => ?_) (fun n1 => hno (fun H => n1 H.1)))
      have y1' : fr_aOK r po ac := Classical.byContradiction y1
      refine br_c (fun n2 => hno (fun ⟨_, ⟨kk, hkk, e⟩, _⟩ => by rw [e] at n2; exact nI_pos (by omega) n2)) (fun a1 => br_c (fun n2 => hno (fun ⟨_, ⟨kk, hkk, e⟩, _⟩ => by rw [e] at n2; exact nI_nlt (a := 3) (by omega) (by decide) n2)) (fun a2 => ?_))
      refine fy_known h5' hr (fr_brf (fun n3 => hno (fun H => n3 H.2.2.1)) (fun y3 => ?_))
      refine fy_known h5' hr (fr_brf (fun n4 => hno (fun H => n4 H.2.2.2.1)) (fun y4 => ?_))
      refine fy_known h5' hr (fr_brf (fun n5 => hno (fun H => n5 H.2.2.2.2)) (fun y5 => ?_))
      obtain ⟨kk, hkk, e⟩ := fr_kind2 (M := 3) (n := 3) (by decide) a1 a2
      rw [e, show (10 : Int32) + nI kk = nI (10 + kk) from nI_add 10 kk]
      exact hok y1' kk hkk e y3 y4 y5
    refine hX _ (fun y1 kk hkk e y3 y4 y5 => ?_) (fun no => hY _ (fun y1 kk hkk e y3 y4 y5 => absurd ⟨y1, ⟨kk, hkk, e⟩, y3, y4, y5⟩ no) (fun _ => ⟨rfl, up⟩))
    obtain ⟨q1, q2, q3, q4, q5, q6⟩ := h6.1 r hr
    obtain ⟨a, ha5, ea, na⟩ := fr_Lt_ex q4
    have ha4 : a < 4 := by have := y1.2; omega
    refine fx_append hr ha4 ea (hY _ (fun _ kk' hkk' e' _ _ _ => ?_) (fun no => absurd ⟨y1, ⟨kk, hkk, e⟩, y3, y4, y5⟩ no))
    have ek : kk = kk' := (nI_eq (by omega) (by omega)).mp (e.symm.trans e')
    subst ek
    refine fy_action hr ha4 ea (by omega) ⟨rfl, rfl, fr_mk (B := 1) ⟨h1, rfl, h3, rfl, h5, fr_acts (X := v2) (Y := v3) (Z := v4) (ha' := ha) h6 rfl hr na ha4 (fun z hz => pk_un hz) (fun z hz => pk_un hz) (fun z hz => pk_un hz) (fun z hz => by rw [pk_un (by omega), pk_un (by omega), pk_un (by omega)]) (fun _ _ => rfl) ?_ ?_, h7, fr_FB_up h8 (by omega), h9⟩⟩
    · constructor
      · exact Or.inl
      · intro H
        rcases H with H | H
        · exact H
        · have := (nI_eq (a := 10 + kk) (b := 2) (by omega) (by omega)).mp H
          omega
    · unfold fr_Aw
      rw [pk_us, pk_us, pk_us, pk_us, pk_us, pk_us, pk_us]
      refine Or.inr (Or.inr (Or.inr ⟨kk, hkk, rfl, rfl, rfl, ?_, ?_, rfl, y3, y4, y5⟩))
      · rw [pk_un (by omega), pk_un (by omega), pk_us]
      · rw [pk_un (by omega), pk_us]
def fr_actOK (r : Nat) (v1 v2 : Int32) (po ac bd : Nat → Int32) : Prop :=
  fr_aOK r po ac ∧ ((v1 = 0 ∧ ∃ o, o < fr_n (po r) ∧ v2 = nI o) ∨ (v1 = 1 ∧ fr_Us bd r v2) ∨ v1 = 2)
theorem fx_act {post : Int32 → SX → Prop} {r : Nat} {v1 v2 : Int32} (h2 : fr_R2 (r + 1) po ng cn ac cg) (h5 : fr_R5 (r + 1) tc th tp bd bp bf bm) (hr : r < 4)
    (hok : fr_actOK r v1 v2 po ac bd → wX_act_61 post v1 v2 (nI r) fc md (nI (r + 1)) 1 pc nb kd fl sa po ng tt ac ha bd bp bf ck cg tc tf th tp aw ak ao cs ex mx va ff fv pr) (hno : ¬ fr_actOK r v1 v2 po ac bd → post 0 (fc, md, nI (r + 1), 1, pc, nb, kd, fl, sa, po, ng, tt, ac, ha, bd, bp, bf, ck, cg, tc, tf, th, tp, aw, ak, ao, cs, ex, mx, va, ff, fv, pr)) :
    wpX_act post (fc, md, nI (r + 1), 1, pc, nb, kd, fl, sa, po, ng, tt, ac, ha, bd, bp, bf, ck, cg, tc, tf, th, tp, aw, ak, ao, cs, ex, mx, va, ff, fv, pr) v1 v2 := by
  obtain ⟨q1, q2, q3, q4, q5, q6⟩ := h2 r hr
  have hcl : (nI r).toNatClampNeg = r := nI_clamp (by omega)
  unfold wpX_act
  refine fx_takes h2 hr (fr_brf (fun n1 => hno (fun H => n1 H.1)) (fun y1 => ?_))
  refine br_c (fun n2 => hno (fun H => ?_)) (fun a1 => br_c (fun a2 => nm_r (nI_pred r) (br_c (fun e0 => br_c (fun n3 => hno (fun H => ?_)) (fun a3 => ⟨vp_in_nI hr (by decide), br_c (fun a4 => br_f ?_ (hok ⟨y1, ?_⟩)) (fun n4 => hno (fun H => ?_))⟩)) (fun e0 => br_c (fun e1 => ?_) (fun e1 => hok ⟨y1, ?_⟩)))) (fun n2 => hno (fun H => ?_)))
  · rcases H.2 with ⟨e, _⟩ | ⟨e, _⟩ | e <;> rw [e] at n2 <;> exact absurd n2 (by decide)
  · rcases H.2 with ⟨_, o, _, e⟩ | ⟨e, _⟩ | e
    · rw [e] at n3
      exact nI_pos (by have := q1.1; omega) n3
    · rw [e0] at e; exact absurd e (by decide)
    · rw [e0] at e; exact absurd e (by decide)
  · rw [e0]; decide
  · obtain ⟨o, _, e⟩ := nI_of a3
    rw [hcl, q1.2, e] at a4
    rw [e]
    exact Or.inl ⟨e0, o, (nI_ltI (by omega) (by have := q1.1; omega)).mp a4, rfl⟩
  · rcases H.2 with ⟨_, o, ho, e⟩ | ⟨e, _⟩ | e
    · rw [hcl, q1.2, e] at n4
      exact n4 (nI_lt ho (by have := q1.1; omega))
    · rw [e0] at e; exact absurd e (by decide)
    · rw [e0] at e; exact absurd e (by decide)
  · refine fx_usable h5 hr (fr_brf (fun n5 => hno (fun H => ?_)) (fun y5 => hok ⟨y1, Or.inr (Or.inl ⟨e1, y5⟩)⟩))
    rcases H.2 with ⟨e, _⟩ | ⟨_, H⟩ | e
    · exact e0 e
    · exact n5 H
    · rw [e1] at e; exact absurd e (by decide)
  · obtain ⟨j, hj, e⟩ := fr_kind3 (M := 2) (n := 2) (by decide) a1 a2
    have h0 : j ≠ 0 := fun k => e0 (by rw [e, k]; rfl)
    have h1 : j ≠ 1 := fun k => e1 (by rw [e, k]; rfl)
    have h2 : j = 2 := by omega
    exact Or.inr (Or.inr (by rw [e, h2]; rfl))
  · rcases H.2 with ⟨e, _⟩ | ⟨e, _⟩ | e <;> rw [e] at n2 <;> exact absurd (by decide) n2
theorem fy_act {post : Int32 → SY → Prop} {r : Nat} {v1 v2 : Int32} (h2 : fr_R2 (r + 1) po ng cn ac cg) (h5 : fr_R5 (r + 1) tc th tp bd bp bf bm) (hr : r < 4)
    (hok : fr_actOK r v1 v2 po ac bd → wY_act_56 post v1 v2 (nI (r + 1)) 1 md pc ht sa cn po ac bm ck cg tc tf th tp ds wx wy wz nb kd fl hd my vs pr) (hno : ¬ fr_actOK r v1 v2 po ac bd → post 0 (nI (r + 1), 1, md, pc, ht, sa, cn, po, ac, bm, ck, cg, tc, tf, th, tp, ds, wx, wy, wz, nb, kd, fl, hd, my, vs, pr)) :
    wpY_act post (nI (r + 1), 1, md, pc, ht, sa, cn, po, ac, bm, ck, cg, tc, tf, th, tp, ds, wx, wy, wz, nb, kd, fl, hd, my, vs, pr) v1 v2 := by
  obtain ⟨q1, q2, q3, q4, q5, q6⟩ := h2 r hr
  have hcl : (nI (r + 1) - 1).toNatClampNeg = r := by rw [nI_pred]; exact nI_clamp (by omega)
  have hin : vp_in (nI (r + 1) - 1) 4 := by rw [nI_pred]; exact vp_in_nI hr (by decide)
  unfold wpY_act
  refine fy_noact h2 hr (fr_brf (fun y1n => ?_) (fun n1 => hno (fun H => n1 H.1)))
  have y1 : fr_aOK r po ac := Classical.byContradiction y1n
  refine br_c (fun n2 => hno (fun H => ?_)) (fun a1 => br_c (fun a2 => br_c (fun e0 => br_c (fun n3 => hno (fun H => ?_)) (fun a3 => ⟨hin, br_c (fun n4 => hno (fun H => ?_)) (fun a4 => br_f ?_ (hok ⟨y1, ?_⟩))⟩)) (fun e0 => br_c (fun e1 => ?_) (fun e1 => hok ⟨y1, ?_⟩))) (fun n2 => hno (fun H => ?_)))
  · rcases H.2 with ⟨e, _⟩ | ⟨e, _⟩ | e <;> rw [e] at n2 <;> exact absurd n2 (by decide)
  · rcases H.2 with ⟨_, o, _, e⟩ | ⟨e, _⟩ | e
    · rw [e] at n3
      exact nI_pos (by have := q1.1; omega) n3
    · rw [e0] at e; exact absurd e (by decide)
    · rw [e0] at e; exact absurd e (by decide)
  · rcases H.2 with ⟨_, o, ho, e⟩ | ⟨e, _⟩ | e
    · rw [hcl, q1.2, e] at n4
      exact nI_ge ho (by have := q1.1; omega) n4
    · rw [e0] at e; exact absurd e (by decide)
    · rw [e0] at e; exact absurd e (by decide)
  · rw [e0]; decide
  · obtain ⟨o, _, e⟩ := nI_of a3
    rw [hcl, q1.2, e, nI_leI (by have := q1.1; omega) (by omega)] at a4
    rw [e]
    exact Or.inl ⟨e0, o, by omega, rfl⟩
  · refine fy_known h5 hr (fr_brf (fun n5 => hno (fun H => ?_)) (fun y5 => hok ⟨y1, Or.inr (Or.inl ⟨e1, y5⟩)⟩))
    rcases H.2 with ⟨e, _⟩ | ⟨_, H⟩ | e
    · exact e0 e
    · exact n5 H
    · rw [e1] at e; exact absurd e (by decide)
  · obtain ⟨j, hj, e⟩ := fr_kind3 (M := 2) (n := 2) (by decide) a1 a2
    have h0 : j ≠ 0 := fun k => e0 (by rw [e, k]; rfl)
    have h1 : j ≠ 1 := fun k => e1 (by rw [e, k]; rfl)
    have h2 : j = 2 := by omega
    exact Or.inr (Or.inr (by rw [e, h2]; rfl))
  · rcases H.2 with ⟨e, _⟩ | ⟨e, _⟩ | e <;> rw [e] at n2 <;> exact absurd (by decide) n2
theorem i_vc_act {k : Nat} {u : SX} {v : SY} (I : i_Rel k u v) (hk : k + 5 ≤ 2560) (v1 : Int32) (v2 : Int32) : wpX_act (fun r u' => wpY_act (fun r' v' => r' = r ∧ i_Rel (k + 5) u' v') v v1 v2) u v1 v2 := by
  have up := i_up I
  obtain ⟨R, B, fc, md, rl, bl, pc, ht, nb, kd, fl, sa, po, ng, tt, ac, ha, bd, bp, bf, ck, cg, tc, tf, th, tp, aw, ak, ao, cs, ex, mx, va, ff, fv, pr, cn, bm, ds, wx, wy, wz, hd, my, vs, rfl, rfl, h1, rfl, h3, rfl, h5, h6, h7, h8, h9⟩ := I
  rcases (show B = 0 ∨ B = 1 by omega) with rfl | rfl
  · unfold wpX_act
    refine br_t nI_0 (br_t rfl ?_)
    unfold wpY_act
    exact br_t nI_0 (br_f (by decide) ⟨rfl, up⟩)
  · obtain ⟨r, rfl⟩ : ∃ r, R = r + 1 := ⟨R - 1, by omega⟩
    have hr : r < 4 := by omega
    have h5' := h6.2.2.2.1
    refine fx_act h6.1 h5' hr (fun ok => ?_) (fun no => fy_act h6.1 h5' hr (fun ok => absurd ok no) (fun _ => ⟨rfl, up⟩))
    obtain ⟨q1, q2, q3, q4, q5, q6⟩ := h6.1 r hr
    obtain ⟨a, ha5, ea, na⟩ := fr_Lt_ex q4
    have ha4 : a < 4 := by have := ok.1.2; omega
    have hin : vp_in (nI r) 4 := vp_in_nI hr (by decide)
    have hcl : (nI r).toNatClampNeg = r := nI_clamp (by omega)
    have z0 : vp_nar .boolean 1 = 1 := fr_b1
    have ok' := ok.2
    rcases ok' with ⟨rfl, o, ho, rfl⟩ | ⟨rfl, us⟩ | rfl
    · refine br_f (by decide) (fx_append hr ha4 ea (fy_act h6.1 h5' hr (fun _ => ?_) (fun no => absurd ok no)))
      refine fy_action (D := 0) hr ha4 ea (by omega) ⟨rfl, rfl, fr_mk (B := 1) ⟨h1, rfl, h3, rfl, h5, fr_acts (X := 0) (Y := 0) (Z := 0) (ha' := ha) h6 rfl hr na ha4 (fun z hz => pk_un hz) (fun z hz => pk_un hz) (fun z hz => pk_un hz) (fun z hz => by rw [pk_un (by omega), pk_un (by omega), pk_un (by omega)]) (fun _ _ => rfl) ?_ ?_, h7, fr_FB_up h8 (by omega), h9⟩⟩
      · exact ⟨Or.inl, fun H => H.elim id (fun H => absurd H (by decide))⟩
      · unfold fr_Aw
        rw [pk_us, pk_us, pk_us, pk_us, pk_us, pk_us, pk_us]
        refine Or.inl ⟨rfl, rfl, ?_, o, ho, rfl⟩
        rw [pk_un (by omega), pk_un (by omega), pk_us]
    · refine br_f (by decide) (fx_append hr ha4 ea (fy_act h6.1 h5' hr (fun _ => ?_) (fun no => absurd ok no)))
      refine fy_action (D := 1) hr ha4 ea (by omega) ⟨rfl, rfl, fr_mk (B := 1) ⟨h1, rfl, h3, rfl, h5, fr_acts (X := 0) (Y := 0) (Z := 0) (ha' := ha) h6 rfl hr na ha4 (fun z hz => pk_un hz) (fun z hz => pk_un hz) (fun z hz => pk_un hz) (fun z hz => by rw [pk_un (by omega), pk_un (by omega), pk_un (by omega)]) (fun _ _ => rfl) ?_ ?_, h7, fr_FB_up h8 (by omega), h9⟩⟩
      · exact ⟨Or.inl, fun H => H.elim id (fun H => absurd H (by decide))⟩
      · unfold fr_Aw
        rw [pk_us, pk_us, pk_us, pk_us, pk_us, pk_us, pk_us]
        refine Or.inr (Or.inl ⟨rfl, rfl, ?_, us⟩)
        rw [pk_un (by omega), pk_un (by omega), pk_us]
    · refine br_t rfl ⟨hin, nm_r (e' := upd ha r 1) (by rw [hcl, z0]) (fx_append hr ha4 ea (fy_act h6.1 h5' hr (fun _ => ?_) (fun no => absurd ok no)))⟩
      refine fy_action (D := 2) hr ha4 ea (by omega) ⟨rfl, rfl, fr_mk (B := 1) ⟨h1, rfl, h3, rfl, h5, fr_acts (X := 0) (Y := 0) (Z := 0) (ha' := upd ha r 1) h6 rfl hr na ha4 (fun z hz => pk_un hz) (fun z hz => pk_un hz) (fun z hz => pk_un hz) (fun z hz => by rw [pk_un (by omega), pk_un (by omega), pk_un (by omega)]) (fun q hq => pk_un hq) ?_ ?_, h7, fr_FB_up h8 (by omega), h9⟩⟩
      · rw [pk_us]
        exact ⟨fun _ => Or.inr rfl, fun _ => by decide⟩
      · unfold fr_Aw
        rw [pk_us, pk_us]
        exact Or.inr (Or.inr (Or.inl ⟨rfl, rfl⟩))
end
end
section
section
variable {fc md rl bl pc ht : Int32} {nb kd fl sa po ng tt ac ha bd bp bf ck cg tc tf th tp aw ak ao cs ex mx va ff fv pr cn bm ds wx wy wz hd my vs : Nat → Int32} {R : Nat}
theorem fr_fin {B : Nat} (hB : B ≤ 1) (hBR : B ≤ R) : (nI B = 0 → nI R = nI (R - B)) ∧ (¬ nI B = 0 → nI R - 1 = nI (R - B)) := by
  rcases (show B = 0 ∨ B = 1 by omega) with rfl | rfl
  · exact ⟨fun _ => rfl, fun h => absurd nI_0 h⟩
  · exact ⟨fun h => absurd h (by decide), fun _ => pk_sub (b := 1) hBR⟩
/-! ===== finish ===== -/
theorem i_vc_finish {k : Nat} {u : SX} {v : SY} (I : i_Rel k u v) (hk : k + 5 ≤ 2560) : wpX_finish (fun r u' => wpY_finish (fun r' v' => r' = r ∧ i_Rel (k + 5) u' v') v) u := by
  have up := i_up I
  obtain ⟨R, B, fc, md, rl, bl, pc, ht, nb, kd, fl, sa, po, ng, tt, ac, ha, bd, bp, bf, ck, cg, tc, tf, th, tp, aw, ak, ao, cs, ex, mx, va, ff, fv, pr, cn, bm, ds, wx, wy, wz, hd, my, vs, rfl, rfl, h1, rfl, h3, rfl, h5, h6, h7, h8, h9⟩ := I
  rcases (show B = 0 ∨ B = 1 by omega) with rfl | rfl
  · exact br_t nI_0 (br_t nI_0 ⟨rfl, up⟩)
  · obtain ⟨r, rfl⟩ : ∃ r, R = r + 1 := ⟨R - 1, by omega⟩
    have hr : r < 4 := by omega
    obtain ⟨q1, q2, q3, q4, q5, q6⟩ := h6.1 r hr
    have hcl : (nI (r + 1) - 1).toNatClampNeg = r := by rw [nI_pred]; exact nI_clamp (by omega)
    have hin : vp_in (nI (r + 1) - 1) 4 := by rw [nI_pred]; exact vp_in_nI hr (by decide)
    by_cases e0 : po r = 0
    · exact br_f (by decide) ⟨hin, br_t (by rw [hcl]; exact e0) (br_f (by decide) ⟨hin, br_t (by rw [hcl]; exact e0) ⟨rfl, up⟩⟩)⟩
    · obtain ⟨ex', mx', va', hSx, hWx⟩ := fx_settle (fc := fc) (md := md) (rl := nI (r + 1)) (bl := 0) (pc := pc) (nb := nb) (kd := kd) (fl := fl) (sa := sa) (po := po) (ng := ng) (tt := tt) (ac := ac) (ha := ha) (bd := bd) (bp := bp) (bf := bf) (ck := ck) (cg := cg) (tc := tc) (tf := tf) (th := th) (tp := tp) (aw := aw) (ak := ak) (ao := ao) (cs := cs) (ex := ex) (mx := mx) (va := va) (ff := ff) (fv := fv) (pr := pr) (fin := r + 1) h7 h6.1 h6.2.1 h6.2.2.1 h6.2.2.2.1 (by omega) ⟨fun _ => rfl, fun h => absurd rfl h⟩
      obtain ⟨hd', my', vs', hSy, hWy⟩ := fy_settle (rl := nI (r + 1)) (bl := 0) (md := md) (pc := pc) (ht := ht) (sa := sa) (cn := cn) (po := po) (ac := ac) (bm := bm) (ck := ck) (cg := cg) (tc := tc) (tf := tf) (th := th) (tp := tp) (ds := ds) (wx := wx) (wy := wy) (wz := wz) (nb := nb) (kd := kd) (fl := fl) (hd := hd) (my := my) (vs := vs) (pr := pr) (fin := r + 1) h6.1 h6.2.1 h6.2.2.1 (by omega) ⟨fun _ => rfl, fun h => absurd rfl h⟩
      refine br_f (by decide) ⟨hin, br_f (by rw [hcl]; exact e0) (hWx _ (br_f (by decide) ⟨hin, br_f (by rw [hcl]; exact e0) (hWy _ ⟨rfl, ?_⟩)⟩))⟩
      exact fr_mk (B := 0) ⟨h1, rfl, by omega, rfl, by omega, h6, h7, fr_FB_up h8 (by omega), fr_FL_2 h9 (by omega) hSx hSy⟩
/-! ===== the first slot with a number ===== -/
theorem fx_slot_some {post : Int32 → Prop} {f : Nat} {x : Int32} (hf : f < 6) (e : nb f = x) (hm : ∀ g, g < f → ¬ nb g = x) (h : post (nI f)) : wpX_slotOfNumber post (fc, md, rl, bl, pc, nb, kd, fl, sa, po, ng, tt, ac, ha, bd, bp, bf, ck, cg, tc, tf, th, tp, aw, ak, ao, cs, ex, mx, va, ff, fv, pr) x := by
  refine ⟨f + 1, fr_upto (fun n i => wX_slotOfNumber_2 post x fc md rl bl pc nb kd fl sa po ng tt ac ha bd bp bf ck cg tc tf th tp aw ak ao cs ex mx va ff fv pr n (nI i)) f ?_ ?_⟩
  · intro n
    exact br_f (nI_ge (b := 6) hf (by decide)) ⟨vp_in_nI hf (by decide), br_t (by rw [nI_clamp (by omega)]; exact e) h⟩
  · intro n i hi hk
    exact br_f (nI_ge (b := 6) (by omega) (by decide)) ⟨vp_in_nI (by omega) (by decide), br_f (by rw [nI_clamp (by omega)]; exact hm i hi) (nm_r (nI_1 i) hk)⟩
theorem fx_slot_none {post : Int32 → Prop} {x : Int32} (hm : ∀ g, g < 6 → ¬ nb g = x) (h : post (-1)) : wpX_slotOfNumber post (fc, md, rl, bl, pc, nb, kd, fl, sa, po, ng, tt, ac, ha, bd, bp, bf, ck, cg, tc, tf, th, tp, aw, ak, ao, cs, ex, mx, va, ff, fv, pr) x := by
  refine ⟨6 + 1, fr_upto (fun n i => wX_slotOfNumber_2 post x fc md rl bl pc nb kd fl sa po ng tt ac ha bd bp bf ck cg tc tf th tp aw ak ao cs ex mx va ff fv pr n (nI i)) 6 ?_ ?_⟩
  · intro n
    exact br_t (nI_le (a := 6) (b := 6) (by omega) (by decide)) h
  · intro n i hi hk
    exact br_f (nI_ge (b := 6) (by omega) (by decide)) ⟨vp_in_nI (by omega) (by decide), br_f (by rw [nI_clamp (by omega)]; exact hm i hi) (nm_r (nI_1 i) hk)⟩
theorem fx_store_some {post : Int32 → SX → Prop} {f : Nat} {k x y z : Int32} (hf : f < 6) (e : nb f = 0) (hm : ∀ g, g < f → ¬ nb g = 0)
    (h : post (md + 1) (fc + 1, md + 1, rl, bl, pc, upd nb f (md + 1), upd kd f k, upd (upd (upd fl (3 * f) x) (3 * f + 1) y) (3 * f + 2) z, sa, po, ng, tt, ac, ha, bd, bp, bf, ck, cg, tc, tf, th, tp, aw, ak, ao, cs, ex, mx, va, ff, fv, pr)) : wpX_storeFact post (fc, md, rl, bl, pc, nb, kd, fl, sa, po, ng, tt, ac, ha, bd, bp, bf, ck, cg, tc, tf, th, tp, aw, ak, ao, cs, ex, mx, va, ff, fv, pr) k x y z := by
  have hin : vp_in (nI f) 6 := vp_in_nI hf (by decide)
  have hcl : (nI f).toNatClampNeg = f := nI_clamp (by omega)
  have e0 : nI f * 3 = nI (3 * f) := fr_m3 _
  have e1 : nI f * 3 + 1 = nI (3 * f + 1) := by rw [fr_m3, nI_1]
  have e2 : nI f * 3 + 2 = nI (3 * f + 2) := by rw [fr_m3]; exact nI_add _ 2
  refine fx_slot_some hf e hm (br_f (fr_m1 (by omega)) (nm_e (nm_e ⟨hin, nm_r (e' := upd nb f (md + 1)) (by rw [hcl]) ⟨hin, nm_r (e' := upd kd f k) (by rw [hcl]) ⟨?_, nm_r (e' := upd fl (3 * f) x) (by rw [e0, nI_clamp (by omega)]) ⟨?_, nm_r (e' := upd (upd fl (3 * f) x) (3 * f + 1) y) (by rw [e1, nI_clamp (by omega)]) ⟨?_, nm_r (e' := upd (upd (upd fl (3 * f) x) (3 * f + 1) y) (3 * f + 2) z) (by rw [e2, nI_clamp (by omega)]) h⟩⟩⟩⟩⟩)))
  · rw [e0]; exact vp_in_nI (by omega) (by decide)
  · rw [e1]; exact vp_in_nI (by omega) (by decide)
  · rw [e2]; exact vp_in_nI (by omega) (by decide)
theorem fx_store_none {post : Int32 → SX → Prop} {k x y z : Int32} (hm : ∀ g, g < 6 → ¬ nb g = 0) (h : post 0 (fc, md, rl, bl, pc, nb, kd, fl, sa, po, ng, tt, ac, ha, bd, bp, bf, ck, cg, tc, tf, th, tp, aw, ak, ao, cs, ex, mx, va, ff, fv, pr)) : wpX_storeFact post (fc, md, rl, bl, pc, nb, kd, fl, sa, po, ng, tt, ac, ha, bd, bp, bf, ck, cg, tc, tf, th, tp, aw, ak, ao, cs, ex, mx, va, ff, fv, pr) k x y z :=
  fx_slot_none hm (br_t rfl h)
theorem fx_erase_some {post : Int32 → SX → Prop} {f : Nat} {x : Int32} (hx : x ≠ 0) (hf : f < 6) (e : nb f = x) (hm : ∀ g, g < f → ¬ nb g = x)
    (h : post 1 (fc - 1, md, rl, bl, pc, upd nb f 0, kd, fl, sa, po, ng, tt, ac, ha, bd, bp, bf, ck, cg, tc, tf, th, tp, aw, ak, ao, cs, ex, mx, va, ff, fv, pr)) : wpX_eraseFact post (fc, md, rl, bl, pc, nb, kd, fl, sa, po, ng, tt, ac, ha, bd, bp, bf, ck, cg, tc, tf, th, tp, aw, ak, ao, cs, ex, mx, va, ff, fv, pr) x :=
  br_f hx (fx_slot_some hf e hm (br_f (fr_m1 (by omega)) ⟨vp_in_nI hf (by decide), nm_r (e' := upd nb f 0) (by rw [nI_clamp (by omega)]) (nm_e h)⟩))
theorem fx_erase_none {post : Int32 → SX → Prop} {x : Int32} (hm : x ≠ 0 → ∀ g, g < 6 → ¬ nb g = x) (h : post 0 (fc, md, rl, bl, pc, nb, kd, fl, sa, po, ng, tt, ac, ha, bd, bp, bf, ck, cg, tc, tf, th, tp, aw, ak, ao, cs, ex, mx, va, ff, fv, pr)) : wpX_eraseFact post (fc, md, rl, bl, pc, nb, kd, fl, sa, po, ng, tt, ac, ha, bd, bp, bf, ck, cg, tc, tf, th, tp, aw, ak, ao, cs, ex, mx, va, ff, fv, pr) x :=
  br_c (fun _ => h) (fun e => fx_slot_none (hm e) (br_t rfl h))
theorem fy_add_loop {post : Int32 → SY → Prop} {f : Nat} {k x y z : Int32} (hf : f ≤ 6) (e : f < 6 → nb f = 0) (hm : ∀ g, g < f → ¬ nb g = 0)
    (h : wY_add_26 post k x y z (nI f) rl bl md pc ht sa cn po ac bm ck cg tc tf th tp ds wx wy wz nb kd fl hd my vs pr) : wpY_add post (rl, bl, md, pc, ht, sa, cn, po, ac, bm, ck, cg, tc, tf, th, tp, ds, wx, wy, wz, nb, kd, fl, hd, my, vs, pr) k x y z := by
  refine ⟨f + 1, fr_upto (fun n i => wY_add_3 post k x y z rl bl md pc ht sa cn po ac bm ck cg tc tf th tp ds wx wy wz nb kd fl hd my vs pr n (nI i)) f ?_ ?_⟩
  · intro n
    by_cases h6 : f = 6
    · subst h6
      exact br_t (nI_le (a := 6) (b := 6) (by omega) (by decide)) h
    · exact br_f (nI_ge (b := 6) (by omega) (by decide)) ⟨vp_in_nI (by omega) (by decide), br_t (by rw [nI_clamp (by omega)]; exact e (by omega)) h⟩
  · intro n i hi hk
    exact br_f (nI_ge (b := 6) (by omega) (by decide)) ⟨vp_in_nI (by omega) (by decide), br_f (by rw [nI_clamp (by omega)]; exact hm i hi) (nm_r (nI_1 i) hk)⟩
theorem fy_add_bad {post : Int32 → SY → Prop} {k x y z : Int32} (hk : k < 0 ∨ (¬ k < 0 ∧ 3 < k)) (h : post 0 (rl, bl, md, pc, ht, sa, cn, po, ac, bm, ck, cg, tc, tf, th, tp, ds, wx, wy, wz, nb, kd, fl, hd, my, vs, pr)) : wpY_add post (rl, bl, md, pc, ht, sa, cn, po, ac, bm, ck, cg, tc, tf, th, tp, ds, wx, wy, wz, nb, kd, fl, hd, my, vs, pr) k x y z := by
  have h26 : ∀ f : Nat, wY_add_26 post k x y z (nI f) rl bl md pc ht sa cn po ac bm ck cg tc tf th tp ds wx wy wz nb kd fl hd my vs pr := fun f => by
    rcases hk with e | ⟨e1, e2⟩
    · exact br_t e h
    · exact br_f e1 (br_t e2 h)
  rcases fr_fst (fun f => nb f = 0) 6 with ⟨f, hf, e, hm⟩ | hm
  · exact fy_add_loop (by omega) (fun _ => e) hm (h26 f)
  · exact fy_add_loop (f := 6) (by omega) (fun h => absurd h (by omega)) hm (h26 6)
theorem fy_add_none {post : Int32 → SY → Prop} {k x y z : Int32} (hm : ∀ g, g < 6 → ¬ nb g = 0) (h : post 0 (rl, bl, md, pc, ht, sa, cn, po, ac, bm, ck, cg, tc, tf, th, tp, ds, wx, wy, wz, nb, kd, fl, hd, my, vs, pr)) : wpY_add post (rl, bl, md, pc, ht, sa, cn, po, ac, bm, ck, cg, tc, tf, th, tp, ds, wx, wy, wz, nb, kd, fl, hd, my, vs, pr) k x y z :=
  fy_add_loop (f := 6) (by omega) (fun h => absurd h (by omega)) hm (br_c (fun _ => h) (fun _ => br_c (fun _ => h) (fun _ => br_t rfl h)))
theorem fy_add_some {post : Int32 → SY → Prop} {f kk : Nat} {x y z : Int32} {hd' my' vs' : Nat → Int32} (hkk : kk < 4) (hf : f < 6) (e : nb f = 0) (hm : ∀ g, g < f → ¬ nb g = 0)
    (hW : ∀ P : SY → Prop, P (rl, bl, md + 1, pc, ht, sa, cn, po, ac, bm, ck, cg, tc, tf, th, tp, ds, wx, wy, wz, upd nb f (md + 1), upd kd f (nI kk), upd (upd (upd fl (3 * f) x) (3 * f + 1) y) (3 * f + 2) z, hd', my', vs', pr) → wpY_settle P (rl, bl, md + 1, pc, ht, sa, cn, po, ac, bm, ck, cg, tc, tf, th, tp, ds, wx, wy, wz, upd nb f (md + 1), upd kd f (nI kk), upd (upd (upd fl (3 * f) x) (3 * f + 1) y) (3 * f + 2) z, hd, my, vs, pr))
    (h : post (md + 1) (rl, bl, md + 1, pc, ht, sa, cn, po, ac, bm, ck, cg, tc, tf, th, tp, ds, wx, wy, wz, upd nb f (md + 1), upd kd f (nI kk), upd (upd (upd fl (3 * f) x) (3 * f + 1) y) (3 * f + 2) z, hd', my', vs', pr)) : wpY_add post (rl, bl, md, pc, ht, sa, cn, po, ac, bm, ck, cg, tc, tf, th, tp, ds, wx, wy, wz, nb, kd, fl, hd, my, vs, pr) (nI kk) x y z := by
  have hin : vp_in (nI f) 6 := vp_in_nI hf (by decide)
  have hcl : (nI f).toNatClampNeg = f := nI_clamp (by omega)
  have e0 : 3 * nI f = nI (3 * f) := fr_3m _
  have e1 : 3 * nI f + 1 = nI (3 * f + 1) := by rw [fr_3m, nI_1]
  have e2 : 3 * nI f + 2 = nI (3 * f + 2) := by rw [fr_3m]; exact nI_add _ 2
  have h6 : ¬ nI f = 6 := fun e => by
    have := (nI_eq (a := f) (b := 6) (by omega) (by omega)).mp e
    omega
  refine fy_add_loop (by omega) (fun _ => e) hm (br_f (nI_pos (by omega)) (br_f (nI_nlt (a := 3) (by omega) (by decide)) (br_f h6 (nm_e ⟨hin, nm_r (e' := upd nb f (md + 1)) (by rw [hcl]) ⟨hin, nm_r (e' := upd kd f (nI kk)) (by rw [hcl, fr_8 (by omega)]) ⟨?_, nm_r (e' := upd fl (3 * f) x) (by rw [e0, nI_clamp (by omega)]) ⟨?_, nm_r (e' := upd (upd fl (3 * f) x) (3 * f + 1) y) (by rw [e1, nI_clamp (by omega)]) ⟨?_, nm_r (e' := upd (upd (upd fl (3 * f) x) (3 * f + 1) y) (3 * f + 2) z) (by rw [e2, nI_clamp (by omega)]) (hW _ h)⟩⟩⟩⟩⟩))))
  · rw [e0]; exact vp_in_nI (by omega) (by decide)
  · rw [e1]; exact vp_in_nI (by omega) (by decide)
  · rw [e2]; exact vp_in_nI (by omega) (by decide)
theorem fy_rem_none {post : Int32 → SY → Prop} {x : Int32} (hm : ¬ x ≤ 0 → ∀ g, g < 6 → ¬ nb g = x) (h : post 0 (rl, bl, md, pc, ht, sa, cn, po, ac, bm, ck, cg, tc, tf, th, tp, ds, wx, wy, wz, nb, kd, fl, hd, my, vs, pr)) : wpY_remove post (rl, bl, md, pc, ht, sa, cn, po, ac, bm, ck, cg, tc, tf, th, tp, ds, wx, wy, wz, nb, kd, fl, hd, my, vs, pr) x := by
  refine ⟨6 + 1, fr_upto (fun n i => wY_remove_2 post x rl bl md pc ht sa cn po ac bm ck cg tc tf th tp ds wx wy wz nb kd fl hd my vs pr n (nI i)) 6 ?_ ?_⟩
  · intro n
    exact br_t (nI_le (a := 6) (b := 6) (by omega) (by decide)) h
  · intro n i hi hk
    exact br_f (nI_ge (b := 6) (by omega) (by decide)) (br_c (fun _ => nm_r (nI_1 i) hk) (fun e => ⟨vp_in_nI (by omega) (by decide), br_f (by rw [nI_clamp (by omega)]; exact hm e i hi) (nm_r (nI_1 i) hk)⟩))
theorem fy_rem_some {post : Int32 → SY → Prop} {f : Nat} {x : Int32} {hd' my' vs' : Nat → Int32} (hx : ¬ x ≤ 0) (hf : f < 6) (e : nb f = x) (hm : ∀ g, g < f → ¬ nb g = x)
    (hW : ∀ P : SY → Prop, P (rl, bl, md, pc, ht, sa, cn, po, ac, bm, ck, cg, tc, tf, th, tp, ds, wx, wy, wz, upd nb f 0, kd, fl, hd', my', vs', pr) → wpY_settle P (rl, bl, md, pc, ht, sa, cn, po, ac, bm, ck, cg, tc, tf, th, tp, ds, wx, wy, wz, upd nb f 0, kd, fl, hd, my, vs, pr))
    (h : post 1 (rl, bl, md, pc, ht, sa, cn, po, ac, bm, ck, cg, tc, tf, th, tp, ds, wx, wy, wz, upd nb f 0, kd, fl, hd', my', vs', pr)) : wpY_remove post (rl, bl, md, pc, ht, sa, cn, po, ac, bm, ck, cg, tc, tf, th, tp, ds, wx, wy, wz, nb, kd, fl, hd, my, vs, pr) x := by
  refine ⟨f + 1, fr_upto (fun n i => wY_remove_2 post x rl bl md pc ht sa cn po ac bm ck cg tc tf th tp ds wx wy wz nb kd fl hd my vs pr n (nI i)) f ?_ ?_⟩
  · intro n
    exact br_f (nI_ge (b := 6) hf (by decide)) (br_f hx ⟨vp_in_nI hf (by decide), br_t (by rw [nI_clamp (by omega)]; exact e) ⟨vp_in_nI hf (by decide), nm_r (e' := upd nb f 0) (by rw [nI_clamp (by omega)]) (hW _ h)⟩⟩)
  · intro n i hi hk
    exact br_f (nI_ge (b := 6) (by omega) (by decide)) (br_f hx ⟨vp_in_nI (by omega) (by decide), br_f (by rw [nI_clamp (by omega)]; exact hm i hi) (nm_r (nI_1 i) hk)⟩)
/-! ===== add, remove ===== -/
theorem i_vc_add {k : Nat} {u : SX} {v : SY} (I : i_Rel k u v) (hk : k + 5 ≤ 2560) (v1 : Int32) (v2 : Int32) (v3 : Int32) (v4 : Int32) : wpX_add (fun r u' => wpY_add (fun r' v' => r' = r ∧ i_Rel (k + 5) u' v') v v1 v2 v3 v4) u v1 v2 v3 v4 := by
  have up := i_up I
  obtain ⟨R, B, fc, md, rl, bl, pc, ht, nb, kd, fl, sa, po, ng, tt, ac, ha, bd, bp, bf, ck, cg, tc, tf, th, tp, aw, ak, ao, cs, ex, mx, va, ff, fv, pr, cn, bm, ds, wx, wy, wz, hd, my, vs, rfl, rfl, h1, rfl, h3, rfl, h5, h6, h7, h8, h9⟩ := I
  by_cases n0 : v1 < 0
  · exact br_t n0 (br_t rfl (fy_add_bad (Or.inl n0) ⟨rfl, up⟩))
  · by_cases n4 : 4 ≤ v1
    · refine br_f n0 (br_t n4 (br_t rfl (fy_add_bad (Or.inr ⟨n0, ?_⟩) ⟨rfl, up⟩)))
      have e3 : (3 : Int32).toInt = 3 := by decide
      have e4 : (4 : Int32).toInt = 4 := by decide
      rw [Int32.le_iff_toInt_le, e4] at n4
      rw [Int32.lt_iff_toInt_lt, e3]
      omega
    · obtain ⟨kk, hkk, rfl⟩ := fr_kind (n := 4) (by omega) n0 n4
      refine br_f n0 (br_f n4 (br_f (by decide) ?_))
      rcases fr_fst (fun f => nb f = 0) 6 with ⟨f, hf, e, hm⟩ | hm
      · obtain ⟨ex', mx', va', hSx, hWx⟩ := fx_settle (fc := fc + 1) (md := md + 1) (rl := nI R) (bl := nI B) (pc := pc) (nb := upd nb f (md + 1)) (kd := upd kd f (nI kk)) (fl := upd (upd (upd fl (3 * f) v2) (3 * f + 1) v3) (3 * f + 2) v4) (sa := sa) (po := po) (ng := ng) (tt := tt) (ac := ac) (ha := ha) (bd := bd) (bp := bp) (bf := bf) (ck := ck) (cg := cg) (tc := tc) (tf := tf) (th := th) (tp := tp) (aw := aw) (ak := ak) (ao := ao) (cs := cs) (ex := ex) (mx := mx) (va := va) (ff := ff) (fv := fv) (pr := pr) (fin := R - B) h7 h6.1 h6.2.1 h6.2.2.1 h6.2.2.2.1 (by omega) (fr_fin h3 h5)
        obtain ⟨hd', my', vs', hSy, hWy⟩ := fy_settle (rl := nI R) (bl := nI B) (md := md + 1) (pc := pc) (ht := ht) (sa := sa) (cn := cn) (po := po) (ac := ac) (bm := bm) (ck := ck) (cg := cg) (tc := tc) (tf := tf) (th := th) (tp := tp) (ds := ds) (wx := wx) (wy := wy) (wz := wz) (nb := upd nb f (md + 1)) (kd := upd kd f (nI kk)) (fl := upd (upd (upd fl (3 * f) v2) (3 * f + 1) v3) (3 * f + 2) v4) (hd := hd) (my := my) (vs := vs) (pr := pr) (fin := R - B) h6.1 h6.2.1 h6.2.2.1 (by omega) (fr_fin h3 h5)
        refine fx_store_some hf e hm (hWx _ (fy_add_some hkk hf e hm hWy ⟨rfl, ?_⟩))
        exact fr_mk ⟨h1, rfl, h3, rfl, h5, h6, h7, fr_FB_up (fr_FB_add h8 (by omega) hf e).1 (by omega), fr_FL_2 h9 (Nat.le_refl _) hSx hSy⟩
      · obtain ⟨ex', mx', va', hSx, hWx⟩ := fx_settle (fc := fc) (md := md) (rl := nI R) (bl := nI B) (pc := pc) (nb := nb) (kd := kd) (fl := fl) (sa := sa) (po := po) (ng := ng) (tt := tt) (ac := ac) (ha := ha) (bd := bd) (bp := bp) (bf := bf) (ck := ck) (cg := cg) (tc := tc) (tf := tf) (th := th) (tp := tp) (aw := aw) (ak := ak) (ao := ao) (cs := cs) (ex := ex) (mx := mx) (va := va) (ff := ff) (fv := fv) (pr := pr) (fin := R - B) h7 h6.1 h6.2.1 h6.2.2.1 h6.2.2.2.1 (by omega) (fr_fin h3 h5)
        refine fx_store_none hm (hWx _ (fy_add_none hm ⟨rfl, ?_⟩))
        exact fr_mk ⟨h1, rfl, h3, rfl, h5, h6, h7, fr_FB_up h8 (by omega), fr_FL_1 h9 hSx⟩
theorem i_vc_remove {k : Nat} {u : SX} {v : SY} (I : i_Rel k u v) (hk : k + 5 ≤ 2560) (v1 : Int32) : wpX_remove (fun r u' => wpY_remove (fun r' v' => r' = r ∧ i_Rel (k + 5) u' v') v v1) u v1 := by
  obtain ⟨R, B, fc, md, rl, bl, pc, ht, nb, kd, fl, sa, po, ng, tt, ac, ha, bd, bp, bf, ck, cg, tc, tf, th, tp, aw, ak, ao, cs, ex, mx, va, ff, fv, pr, cn, bm, ds, wx, wy, wz, hd, my, vs, rfl, rfl, h1, rfl, h3, rfl, h5, h6, h7, h8, h9⟩ := I
  have hn := fr_FB_n h8
  have h31 : ∀ f, f < 6 → fr_n (nb f) < 2 ^ 31 := by
    obtain ⟨⟨m, g1, g2, g3⟩, _, _⟩ := h8
    intro f hf
    have := (g3 f hf).1
    omega
  rcases fr_fst (fun f => nb f = v1 ∧ ¬ v1 ≤ 0) 6 with ⟨f, hf, ⟨e, hpos⟩, hm⟩ | hm
  · have hm' : ∀ g, g < f → ¬ nb g = v1 := fun g hg h => hm g hg ⟨h, hpos⟩
    have hv0 : v1 ≠ 0 := fun h => hpos (by rw [h]; decide)
    obtain ⟨ex', mx', va', hSx, hWx⟩ := fx_settle (fc := fc - 1) (md := md) (rl := nI R) (bl := nI B) (pc := pc) (nb := upd nb f 0) (kd := kd) (fl := fl) (sa := sa) (po := po) (ng := ng) (tt := tt) (ac := ac) (ha := ha) (bd := bd) (bp := bp) (bf := bf) (ck := ck) (cg := cg) (tc := tc) (tf := tf) (th := th) (tp := tp) (aw := aw) (ak := ak) (ao := ao) (cs := cs) (ex := ex) (mx := mx) (va := va) (ff := ff) (fv := fv) (pr := pr) (fin := R - B) h7 h6.1 h6.2.1 h6.2.2.1 h6.2.2.2.1 (by omega) (fr_fin h3 h5)
    obtain ⟨hd', my', vs', hSy, hWy⟩ := fy_settle (rl := nI R) (bl := nI B) (md := md) (pc := pc) (ht := ht) (sa := sa) (cn := cn) (po := po) (ac := ac) (bm := bm) (ck := ck) (cg := cg) (tc := tc) (tf := tf) (th := th) (tp := tp) (ds := ds) (wx := wx) (wy := wy) (wz := wz) (nb := upd nb f 0) (kd := kd) (fl := fl) (hd := hd) (my := my) (vs := vs) (pr := pr) (fin := R - B) h6.1 h6.2.1 h6.2.2.1 (by omega) (fr_fin h3 h5)
    unfold wpX_remove
    refine fx_erase_some hv0 hf e hm' ?_
    refine hWx _ ⟨rfl, fy_rem_some hpos hf e hm' hWy ⟨rfl, ?_⟩⟩
    exact fr_mk ⟨h1, rfl, h3, rfl, h5, h6, h7, fr_FB_up (fr_FB_del h8 hf (by rw [e]; exact hv0) (by omega)) (by omega), fr_FL_2 h9 (Nat.le_refl _) hSx hSy⟩
  · obtain ⟨ex', mx', va', hSx, hWx⟩ := fx_settle (fc := fc) (md := md) (rl := nI R) (bl := nI B) (pc := pc) (nb := nb) (kd := kd) (fl := fl) (sa := sa) (po := po) (ng := ng) (tt := tt) (ac := ac) (ha := ha) (bd := bd) (bp := bp) (bf := bf) (ck := ck) (cg := cg) (tc := tc) (tf := tf) (th := th) (tp := tp) (aw := aw) (ak := ak) (ao := ao) (cs := cs) (ex := ex) (mx := mx) (va := va) (ff := ff) (fv := fv) (pr := pr) (fin := R - B) h7 h6.1 h6.2.1 h6.2.2.1 h6.2.2.2.1 (by omega) (fr_fin h3 h5)
    unfold wpX_remove
    refine fx_erase_none (fun hv0 g hg e => hm g hg ⟨e, fun hl => ?_⟩) ?_
    · rw [← e, hn g hg] at hl
      have := (nI_leI (b := 0) (h31 g hg) (by omega)).mp hl
      rw [← e, hn g hg] at hv0
      exact hv0 (by rw [show fr_n (nb g) = 0 from by omega]; rfl)
    · refine hWx _ ⟨rfl, fy_rem_none (fun hpos g hg e => hm g hg ⟨e, hpos⟩) ⟨rfl, ?_⟩⟩
      exact fr_mk ⟨h1, rfl, h3, rfl, h5, h6, h7, fr_FB_up h8 (by omega), fr_FL_1 h9 hSx⟩
end
end
section
section
variable {fc md rl bl pc ht : Int32} {nb kd fl sa po ng tt ac ha bd bp bf ck cg tc tf th tp aw ak ao cs ex mx va ff fv pr cn bm ds wx wy wz hd my vs : Nat → Int32} {R : Nat}
/-! ===== agenda ===== -/
theorem fr_ct_t {f : Nat → Bool} {n : Nat} (h : f n = true) : fr_ct f (n + 1) = fr_ct f n + 1 := by
  show fr_ct f n + (f n).toNat = _
  rw [h]; rfl
theorem fr_ct_f {f : Nat → Bool} {n : Nat} (h : f n = false) : fr_ct f (n + 1) = fr_ct f n := by
  show fr_ct f n + (f n).toNat = _
  rw [h]; rfl
theorem fx_agenda {post : Int32 → Prop} (h : post (nI (fr_ct (fun x => decide (ex x ≠ 0 ∧ mx x = 0)) 864))) : wpX_agenda post (fc, md, rl, bl, pc, nb, kd, fl, sa, po, ng, tt, ac, ha, bd, bp, bf, ck, cg, tc, tf, th, tp, aw, ak, ao, cs, ex, mx, va, ff, fv, pr) := by
  refine ⟨864 + 1, fr_upto (fun n i => wX_agenda_4 post fc md rl bl pc nb kd fl sa po ng tt ac ha bd bp bf ck cg tc tf th tp aw ak ao cs ex mx va ff fv pr n (nI (fr_ct (fun x => decide (ex x ≠ 0 ∧ mx x = 0)) i)) (nI i)) 864 ?_ ?_⟩
  · intro n
    exact br_t (nI_le (a := 864) (b := 864) (by omega) (by decide)) h
  · intro n i hi hk
    refine br_f (nI_ge (b := 864) hi (by decide)) (fx_waiting hi (fr_brf (fun w => ?_) (fun w => ?_)))
    · rw [fr_ct_f (decide_eq_false w)] at hk
      exact nm_r (nI_1 i) hk
    · rw [fr_ct_t (decide_eq_true w)] at hk
      exact nm_r (nI_1 _) (nm_r (nI_1 i) hk)
theorem fy_agenda {post : Int32 → Prop} (h : post (nI (fr_ct (fun x => decide (hd x ≠ 0 ∧ my x = 0)) 864))) : wpY_agenda post (rl, bl, md, pc, ht, sa, cn, po, ac, bm, ck, cg, tc, tf, th, tp, ds, wx, wy, wz, nb, kd, fl, hd, my, vs, pr) := by
  refine ⟨864 + 1, fr_upto (fun n i => wY_agenda_4 post rl bl md pc ht sa cn po ac bm ck cg tc tf th tp ds wx wy wz nb kd fl hd my vs pr n (nI (fr_ct (fun x => decide (hd x ≠ 0 ∧ my x = 0)) i)) (nI i)) 864 ?_ ?_⟩
  · intro n
    exact br_t (nI_le (a := 864) (b := 864) (by omega) (by decide)) h
  · intro n i hi hk
    have hin : vp_in (nI i) 864 := vp_in_nI hi (by decide)
    have hcl : (nI i).toNatClampNeg = i := nI_clamp (by omega)
    refine br_f (nI_ge (b := 864) hi (by decide)) ⟨hin, ?_⟩
    rw [hcl]
    refine br_c (fun e => ?_) (fun e => ⟨hin, br_c (fun e2 => ?_) (fun e2 => ?_)⟩)
    · rw [fr_ct_f (decide_eq_false (fun k => k.1 e))] at hk
      exact nm_r (nI_1 i) hk
    · rw [fr_ct_t (decide_eq_true ⟨e, e2⟩)] at hk
      exact nm_r (nI_1 _) (nm_r (nI_1 i) hk)
    · rw [fr_ct_f (decide_eq_false (fun k => e2 k.2))] at hk
      exact nm_r (nI_1 i) hk
theorem fr_FL_x {fin : Nat} {M : Nat → Prop} {x : Nat} (h : fr_FL fin M ex mx hd my) (hx : x < 864) : ex x = hd (fr_sg x) ∧ mx x = my (fr_sg x) := by
  have := h (fr_sg x) (fr_sg_864 hx)
  rw [fr_sg_sg] at this
  exact ⟨this.1, this.2.1⟩
theorem i_vc_agenda {k : Nat} {u : SX} {v : SY} (I : i_Rel k u v) (hk : k + 5 ≤ 2560) : wpX_agenda (fun r => wpY_agenda (fun r' => r' = r ∧ i_Rel (k + 5) u v) v) u := by
  have up := i_up I
  obtain ⟨R, B, fc, md, rl, bl, pc, ht, nb, kd, fl, sa, po, ng, tt, ac, ha, bd, bp, bf, ck, cg, tc, tf, th, tp, aw, ak, ao, cs, ex, mx, va, ff, fv, pr, cn, bm, ds, wx, wy, wz, hd, my, vs, rfl, rfl, h1, h2, h3, h4, h5, h6, h7, h8, h9⟩ := I
  refine fx_agenda (fy_agenda ⟨congrArg nI ?_, up⟩)
  rw [← fr_ct_sg (fun x => decide (hd x ≠ 0 ∧ my x = 0))]
  refine fr_ct_c (fun i hi => ?_)
  have := fr_FL_x h9 hi
  rw [this.1, this.2]
/-! ===== the k-th of the agenda ===== -/
def fr_rel (hd my : Nat → Int32) (r q : Int32) : Prop := (r = -1 ∧ q = -1) ∨ ∃ c, c < 864 ∧ r = nI c ∧ q = nI (fr_sg c) ∧ hd (fr_sg c) ≠ 0 ∧ my (fr_sg c) = 0
theorem fr_GX {fin : Nat} (h : fr_FL fin (fr_M nb kd fl po ng ck cg tc tf th tp bp bf) ex mx hd my) : ∀ y, y < 864 → hd y ≠ 0 → fr_G nb po y := by
  intro y hy h0
  obtain ⟨_, _, c, d⟩ := h y hy
  by_cases hl : y < 216 * fin
  · by_cases hM : fr_M nb kd fl po ng ck cg tc tf th tp bp bf y
    · exact hM.1
    · rw [(c hl).1, fr_bf hM] at h0
      exact absurd rfl h0
  · exact absurd (d (by omega)) h0
theorem fr_nextXY {b fin : Nat} {p q : Int32} (hcs : fr_CS cs) (h2 : fr_R2 R po ng cn ac cg) (h3 : fr_R3 po ng tc tt) (hFB : fr_FB b fc md nb) (hb : b + 2 < 2 ^ 31) (hFL : fr_FL fin (fr_M nb kd fl po ng ck cg tc tf th tp bp bf) ex mx hd my)
    (hpq : (p = -1 ∧ q = -1) ∨ ∃ c, c < 864 ∧ p = nI c ∧ q = nI (fr_sg c)) :
    ∃ r s, fr_rel hd my r s ∧ (∀ post : Int32 → Prop, post r → wpX_firstAfter post (fc, md, rl, bl, pc, nb, kd, fl, sa, po, ng, tt, ac, ha, bd, bp, bf, ck, cg, tc, tf, th, tp, aw, ak, ao, cs, ex, mx, va, ff, fv, pr) p) ∧ (∀ post : Int32 → Prop, post s → wpY_next post (rl, bl, md, pc, ht, sa, cn, po, ac, bm, ck, cg, tc, tf, th, tp, ds, wx, wy, wz, nb, kd, fl, hd, my, vs, pr) q) := by
  have hn := fr_FB_n hFB
  have h31 : ∀ f, f < 6 → fr_n (nb f) < 2 ^ 31 := by
    obtain ⟨⟨m, g1, g2, g3⟩, _, _⟩ := hFB
    intro f hf
    have := (g3 f hf).1
    omega
  have hGY := fr_GX hFL
  have hGx : ∀ x, x < 864 → ex x ≠ 0 → fr_G nb po (fr_sg x) := fun x hx h0 => hGY _ (fr_sg_864 hx) (by rw [← (fr_FL_x hFL hx).1]; exact h0)
  have hp : p = -1 ∨ ∃ c, c < 864 ∧ p = nI c := hpq.elim (fun h => Or.inl h.1) (fun ⟨c, h, e, _⟩ => Or.inr ⟨c, h, e⟩)
  have hq : q = -1 ∨ ∃ c, c < 864 ∧ q = nI c := hpq.elim (fun h => Or.inl h.2) (fun ⟨c, h, _, e⟩ => Or.inr ⟨fr_sg c, fr_sg_864 h, e⟩)
  obtain ⟨r, hr, hWx⟩ := fx_first (fc := fc) (md := md) (rl := rl) (bl := bl) (pc := pc) (nb := nb) (kd := kd) (fl := fl) (sa := sa) (po := po) (ng := ng) (tt := tt) (ac := ac) (ha := ha) (bd := bd) (bp := bp) (bf := bf) (ck := ck) (cg := cg) (tc := tc) (tf := tf) (th := th) (tp := tp) (aw := aw) (ak := ak) (ao := ao) (cs := cs) (ex := ex) (mx := mx) (va := va) (ff := ff) (fv := fv) (pr := pr) (prev := p) hcs h2 h3 hn h31 hFB.2.1 hGx hp
  obtain ⟨s, hs, hWy⟩ := fy_next (rl := rl) (bl := bl) (md := md) (pc := pc) (ht := ht) (sa := sa) (cn := cn) (po := po) (ac := ac) (bm := bm) (ck := ck) (cg := cg) (tc := tc) (tf := tf) (th := th) (tp := tp) (ds := ds) (wx := wx) (wy := wy) (wz := wz) (nb := nb) (kd := kd) (fl := fl) (hd := hd) (my := my) (vs := vs) (pr := pr) (prev := q) h2 h3 hn h31 hFB.2.1 hGY hq
  refine ⟨r, s, ?_, hWx, hWy⟩
  have hr' : fr_Nx (fun a b => fr_B nb sa po ng tc (fr_sg a) (fr_sg b)) (fun a => fr_P (fr_B nb sa po ng tc) hd my q (fr_sg a)) 864 r := by
    refine fr_Nx_c hr (fun c hc => ?_)
    have hfx := fr_FL_x hFL hc
    unfold fr_P
    rw [hfx.1, hfx.2]
    rcases hpq with ⟨e1, e2⟩ | ⟨c0, hc0, e1, e2⟩
    · rw [e1, e2]
      exact ⟨fun H => ⟨H.1, H.2.1, fun p hp e => absurd e.symm (fr_m1 (by omega))⟩, fun H => ⟨H.1, H.2.1, fun p hp e => absurd e.symm (fr_m1 (by omega))⟩⟩
    · have h0 := fr_sg_864 hc0
      rw [e1, e2]
      constructor
      · intro H
        refine ⟨H.1, H.2.1, fun p hp e => ?_⟩
        have : fr_sg c0 = p := (nI_eq (by omega) (by omega)).mp e
        rw [← this]
        exact H.2.2 c0 hc0 rfl
      · intro H
        refine ⟨H.1, H.2.1, fun p hp e => ?_⟩
        have : c0 = p := (nI_eq (by omega) (by omega)).mp e
        rw [← this]
        exact H.2.2 (fr_sg c0) h0 rfl
  rcases fr_Nx_sg (B := fr_B nb sa po ng tc) (P := fr_P (fr_B nb sa po ng tc) hd my q) fr_B_as hr' hs with ⟨e1, e2⟩ | ⟨c, hc, e1, e2, hP⟩
  · exact Or.inl ⟨e1, e2⟩
  · exact Or.inr ⟨c, hc, e1, e2, hP.1, hP.2.1⟩
theorem fr_atXY {b fin : Nat} (v1 : Int32) (hcs : fr_CS cs) (h2 : fr_R2 R po ng cn ac cg) (h3 : fr_R3 po ng tc tt) (hFB : fr_FB b fc md nb) (hb : b + 2 < 2 ^ 31) (hFL : fr_FL fin (fr_M nb kd fl po ng ck cg tc tf th tp bp bf) ex mx hd my) :
    ∃ r s, fr_rel hd my r s ∧ (∀ post : Int32 → Prop, post r → wpX_candidateAt post (fc, md, rl, bl, pc, nb, kd, fl, sa, po, ng, tt, ac, ha, bd, bp, bf, ck, cg, tc, tf, th, tp, aw, ak, ao, cs, ex, mx, va, ff, fv, pr) v1) ∧ (∀ post : Int32 → Prop, post s → wpY_at post (rl, bl, md, pc, ht, sa, cn, po, ac, bm, ck, cg, tc, tf, th, tp, ds, wx, wy, wz, nb, kd, fl, hd, my, vs, pr) v1) := by
  by_cases n0 : v1 < 0
  · exact ⟨-1, -1, Or.inl ⟨rfl, rfl⟩, fun post h => br_t n0 h, fun post h => br_t n0 h⟩
  · by_cases n16 : 16 ≤ v1
    · have e15 : (15 : Int32).toInt = 15 := by decide
      have e16 : (16 : Int32).toInt = 16 := by decide
      refine ⟨-1, -1, Or.inl ⟨rfl, rfl⟩, fun post h => br_f n0 (br_f (Int32.not_lt.mpr n16) h), fun post h => br_f n0 (br_f ?_ h)⟩
      rw [Int32.le_iff_toInt_le, e16] at n16
      rw [Int32.le_iff_toInt_le, e15]
      omega
    · obtain ⟨k, hk, rfl⟩ := fr_kind (n := 16) (by omega) n0 n16
      have key : ∀ d i r s, i + d = k → fr_rel hd my r s → ∃ r' s', fr_rel hd my r' s' ∧ (∀ post : Int32 → Prop, post r' → wX_candidateAt_20 post (nI k) fc md rl bl pc nb kd fl sa po ng tt ac ha bd bp bf ck cg tc tf th tp aw ak ao cs ex mx va ff fv pr (d + 1) r (nI i)) ∧ (∀ post : Int32 → Prop, post s' → wY_at_20 post (nI k) rl bl md pc ht sa cn po ac bm ck cg tc tf th tp ds wx wy wz nb kd fl hd my vs pr (d + 1) s (nI i)) := by
        intro d
        induction d with
        | zero =>
          intro i r s hi hrs
          have : i = k := by omega
          subst this
          exact ⟨r, s, hrs, fun post h => br_t (Int32.le_refl _) h, fun post h => br_t (Int32.le_refl _) h⟩
        | succ d ih =>
          intro i r s hi hrs
          have hge : ¬ nI k ≤ nI i := nI_ge (by omega) (by omega)
          rcases hrs with ⟨rfl, rfl⟩ | ⟨c, hc, rfl, rfl, hh⟩
          · exact ⟨-1, -1, Or.inl ⟨rfl, rfl⟩, fun post h => br_f hge (br_t rfl h), fun post h => br_f hge (br_t (by decide) h)⟩
          · have h8 := fr_sg_864 hc
            obtain ⟨r1, s1, h1, hX, hY⟩ := fr_nextXY (fc := fc) (md := md) (rl := rl) (bl := bl) (pc := pc) (nb := nb) (kd := kd) (fl := fl) (sa := sa) (po := po) (ng := ng) (tt := tt) (ac := ac) (ha := ha) (bd := bd) (bp := bp) (bf := bf) (ck := ck) (cg := cg) (tc := tc) (tf := tf) (th := th) (tp := tp) (aw := aw) (ak := ak) (ao := ao) (cs := cs) (ex := ex) (mx := mx) (va := va) (ff := ff) (fv := fv) (pr := pr) (ht := ht) (cn := cn) (bm := bm) (ds := ds) (wx := wx) (wy := wy) (wz := wz) (hd := hd) (my := my) (vs := vs) hcs h2 h3 hFB hb hFL (Or.inr ⟨c, hc, rfl, rfl⟩)
            obtain ⟨r2, s2, h2', hX2, hY2⟩ := ih (i + 1) r1 s1 (by omega) h1
            exact ⟨r2, s2, h2', fun post h => br_f hge (br_f (fr_m1 (by omega)) (hX _ (nm_r (nI_1 i) (hX2 post h)))), fun post h => br_f hge (br_f (nI_pos (by omega)) (hY _ (nm_r (nI_1 i) (hY2 post h))))⟩
      obtain ⟨r1, s1, h1, hX, hY⟩ := fr_nextXY (fc := fc) (md := md) (rl := rl) (bl := bl) (pc := pc) (nb := nb) (kd := kd) (fl := fl) (sa := sa) (po := po) (ng := ng) (tt := tt) (ac := ac) (ha := ha) (bd := bd) (bp := bp) (bf := bf) (ck := ck) (cg := cg) (tc := tc) (tf := tf) (th := th) (tp := tp) (aw := aw) (ak := ak) (ao := ao) (cs := cs) (ex := ex) (mx := mx) (va := va) (ff := ff) (fv := fv) (pr := pr) (ht := ht) (cn := cn) (bm := bm) (ds := ds) (wx := wx) (wy := wy) (wz := wz) (hd := hd) (my := my) (vs := vs) (p := -1) (q := -1) hcs h2 h3 hFB hb hFL (Or.inl ⟨rfl, rfl⟩)
      obtain ⟨r2, s2, h2', hX2, hY2⟩ := key k 0 r1 s1 (by omega) h1
      exact ⟨r2, s2, h2', fun post h => br_f n0 (br_t (nI_lt (b := 16) hk (by decide)) (hX _ ⟨k + 1, hX2 post h⟩)), fun post h => br_f n0 (br_t (nI_le (b := 15) (by omega) (by decide)) (hY _ ⟨k + 1, hY2 post h⟩))⟩
theorem i_vc_ruleAt {k : Nat} {u : SX} {v : SY} (I : i_Rel k u v) (hk : k + 5 ≤ 2560) (v1 : Int32) : wpX_ruleAt (fun r => wpY_ruleAt (fun r' => r' = r ∧ i_Rel (k + 5) u v) v v1) u v1 := by
  have up := i_up I
  obtain ⟨R, B, fc, md, rl, bl, pc, ht, nb, kd, fl, sa, po, ng, tt, ac, ha, bd, bp, bf, ck, cg, tc, tf, th, tp, aw, ak, ao, cs, ex, mx, va, ff, fv, pr, cn, bm, ds, wx, wy, wz, hd, my, vs, rfl, rfl, h1, h2, h3, h4, h5, h6, h7, h8, h9⟩ := I
  obtain ⟨r, s, hrs, hX, hY⟩ := fr_atXY (fc := fc) (md := md) (rl := rl) (bl := bl) (pc := pc) (nb := nb) (kd := kd) (fl := fl) (sa := sa) (po := po) (ng := ng) (tt := tt) (ac := ac) (ha := ha) (bd := bd) (bp := bp) (bf := bf) (ck := ck) (cg := cg) (tc := tc) (tf := tf) (th := th) (tp := tp) (aw := aw) (ak := ak) (ao := ao) (cs := cs) (ex := ex) (mx := mx) (va := va) (ff := ff) (fv := fv) (pr := pr) (ht := ht) (cn := cn) (bm := bm) (ds := ds) (wx := wx) (wy := wy) (wz := wz) (hd := hd) (my := my) (vs := vs) v1 h7 h6.1 h6.2.1 h8 (by omega) h9
  unfold wpX_ruleAt
  refine hX _ ?_
  rcases hrs with ⟨rfl, rfl⟩ | ⟨c, hc, rfl, rfl, _⟩
  · refine br_t rfl ?_
    unfold wpY_ruleAt
    exact hY _ (br_f (by decide) ⟨rfl, up⟩)
  · have h8 := fr_sg_864 hc
    refine br_f (fr_m1 (by omega)) ⟨by decide, ?_⟩
    unfold wpY_ruleAt
    refine hY _ (br_t (nI_pos' (by omega)) ⟨by decide, ?_, up⟩)
    rw [fr_d216 (by omega), fr_d216 (by omega), fr_sg_r]
theorem i_vc_factAt {k : Nat} {u : SX} {v : SY} (I : i_Rel k u v) (hk : k + 5 ≤ 2560) (v1 : Int32) (v2 : Int32) : wpX_factAt (fun r => wpY_factAt (fun r' => r' = r ∧ i_Rel (k + 5) u v) v v1 v2) u v1 v2 := by
  have up := i_up I
  obtain ⟨R, B, fc, md, rl, bl, pc, ht, nb, kd, fl, sa, po, ng, tt, ac, ha, bd, bp, bf, ck, cg, tc, tf, th, tp, aw, ak, ao, cs, ex, mx, va, ff, fv, pr, cn, bm, ds, wx, wy, wz, hd, my, vs, rfl, rfl, h1, h2, h3, h4, h5, h6, h7, h8, h9⟩ := I
  obtain ⟨r, s, hrs, hX, hY⟩ := fr_atXY (fc := fc) (md := md) (rl := rl) (bl := bl) (pc := pc) (nb := nb) (kd := kd) (fl := fl) (sa := sa) (po := po) (ng := ng) (tt := tt) (ac := ac) (ha := ha) (bd := bd) (bp := bp) (bf := bf) (ck := ck) (cg := cg) (tc := tc) (tf := tf) (th := th) (tp := tp) (aw := aw) (ak := ak) (ao := ao) (cs := cs) (ex := ex) (mx := mx) (va := va) (ff := ff) (fv := fv) (pr := pr) (ht := ht) (cn := cn) (bm := bm) (ds := ds) (wx := wx) (wy := wy) (wz := wz) (hd := hd) (my := my) (vs := vs) v1 h7 h6.1 h6.2.1 h8 (by omega) h9
  have hp : ∀ r, r < 4 → fr_Lt (po r) 4 := fun r hr => (h6.1 r hr).1
  have hn := fr_FB_n h8
  by_cases n0 : v2 < 0
  · refine br_t n0 ?_
    unfold wpY_factAt
    exact hY _ (br_c (fun _ => ⟨rfl, up⟩) (fun _ => br_t n0 ⟨rfl, up⟩))
  · by_cases n3 : 3 ≤ v2
    · refine br_f n0 (br_f (Int32.not_lt.mpr n3) ?_)
      unfold wpY_factAt
      refine hY _ (br_c (fun _ => ⟨rfl, up⟩) (fun _ => br_f n0 (br_f ?_ ⟨rfl, up⟩)))
      have e2 : (2 : Int32).toInt = 2 := by decide
      have e3 : (3 : Int32).toInt = 3 := by decide
      rw [Int32.le_iff_toInt_le, e3] at n3
      rw [Int32.le_iff_toInt_le, e2]
      omega
    · obtain ⟨j, hj, rfl⟩ := fr_kind (n := 3) (by omega) n0 n3
      refine br_f n0 (br_t (nI_lt (b := 3) hj (by decide)) (hX _ ?_))
      rcases hrs with ⟨rfl, rfl⟩ | ⟨c, hc, rfl, rfl, _⟩
      · refine br_t rfl ?_
        unfold wpY_factAt
        exact hY _ (br_t (by decide) ⟨rfl, up⟩)
      · have h864 := fr_sg_864 hc
        refine br_f (fr_m1 (by omega)) (fx_given h7 hp hn hc hj ?_)
        unfold wpY_factAt
        exact hY _ (br_f (nI_pos (by omega)) (br_f n0 (br_t (nI_le (b := 2) (by omega) (by decide)) (fy_number hp hn h864 hj ⟨rfl, up⟩))))
/-! ===== facts, fact, printed ===== -/
theorem fy_facts {post : Int32 → Prop} (h : post (nI (fr_ct (fun f => decide (nb f ≠ 0)) 6) + 8 * md)) : wpY_facts post (rl, bl, md, pc, ht, sa, cn, po, ac, bm, ck, cg, tc, tf, th, tp, ds, wx, wy, wz, nb, kd, fl, hd, my, vs, pr) := by
  refine ⟨6 + 1, fr_upto (fun n i => wY_facts_4 post rl bl md pc ht sa cn po ac bm ck cg tc tf th tp ds wx wy wz nb kd fl hd my vs pr n (nI (fr_ct (fun f => decide (nb f ≠ 0)) i)) (nI i)) 6 ?_ ?_⟩
  · intro n
    exact br_t (nI_le (a := 6) (b := 6) (by omega) (by decide)) h
  · intro n i hi hk
    refine br_f (nI_ge (b := 6) hi (by decide)) ⟨vp_in_nI hi (by decide), ?_⟩
    rw [nI_clamp (by omega)]
    refine br_c (fun e => ?_) (fun e => ?_)
    · rw [fr_ct_f (decide_eq_false (fun k => k e))] at hk
      exact nm_r (nI_1 i) hk
    · rw [fr_ct_t (decide_eq_true e)] at hk
      exact nm_r (nI_1 _) (nm_r (nI_1 i) hk)
theorem i_vc_facts {k : Nat} {u : SX} {v : SY} (I : i_Rel k u v) (hk : k + 5 ≤ 2560) : wpX_facts (fun r => wpY_facts (fun r' => r' = r ∧ i_Rel (k + 5) u v) v) u := by
  have up := i_up I
  obtain ⟨R, B, fc, md, rl, bl, pc, ht, nb, kd, fl, sa, po, ng, tt, ac, ha, bd, bp, bf, ck, cg, tc, tf, th, tp, aw, ak, ao, cs, ex, mx, va, ff, fv, pr, cn, bm, ds, wx, wy, wz, hd, my, vs, rfl, rfl, h1, h2, h3, h4, h5, h6, h7, h8, h9⟩ := I
  refine fy_facts ⟨?_, up⟩
  rw [h8.2.2]
theorem i_vc_printed {k : Nat} {u : SX} {v : SY} (I : i_Rel k u v) (hk : k + 5 ≤ 2560) (v1 : Int32) : wpX_printed (fun r => wpY_printed (fun r' => r' = r ∧ i_Rel (k + 5) u v) v v1) u v1 := by
  have up := i_up I
  obtain ⟨R, B, fc, md, rl, bl, pc, ht, nb, kd, fl, sa, po, ng, tt, ac, ha, bd, bp, bf, ck, cg, tc, tf, th, tp, aw, ak, ao, cs, ex, mx, va, ff, fv, pr, cn, bm, ds, wx, wy, wz, hd, my, vs, rfl, rfl, _⟩ := I
  have e15 : (15 : Int32).toInt = 15 := by decide
  have e16 : (16 : Int32).toInt = 16 := by decide
  have h16 : 16 ≤ v1 ↔ 15 < v1 := by
    rw [Int32.le_iff_toInt_le, Int32.lt_iff_toInt_lt, e15, e16]
    omega
  have hin : vp_in (((pc - 1) - v1) &&& 15) 16 := pk_andIn _ 4 (by decide) (by decide)
  by_cases g1 : v1 = -1
  · exact br_t g1 (br_t g1 ⟨rfl, up⟩)
  · by_cases g2 : v1 < 0
    · exact br_f g1 (br_t g2 (br_f g1 (br_t g2 ⟨rfl, up⟩)))
    · by_cases g3 : 16 ≤ v1
      · exact br_f g1 (br_f g2 (br_t g3 (br_f g1 (br_f g2 (br_t (h16.mp g3) ⟨rfl, up⟩)))))
      · have g3' : ¬ 15 < v1 := fun h => g3 (h16.mpr h)
        by_cases g4 : v1 < pc
        · exact br_f g1 (br_f g2 (br_f g3 (br_t g4 ⟨hin, br_f g1 (br_f g2 (br_f g3' (br_t g4 ⟨hin, rfl, up⟩)))⟩)))
        · exact br_f g1 (br_f g2 (br_f g3 (br_f g4 (br_f g1 (br_f g2 (br_f g3' (br_f g4 ⟨rfl, up⟩)))))))
end
end
section
section
variable {fc md rl bl pc ht : Int32} {nb kd fl sa po ng tt ac ha bd bp bf ck cg tc tf th tp aw ak ao cs ex mx va ff fv pr cn bm ds wx wy wz hd my vs : Nat → Int32} {R : Nat}
/-! ===== fact ===== -/
theorem fx_older {post : Int32 → Prop} {f : Nat} (hf : f < 6) (h : post (nI (fr_ct (fun g => decide (nb g ≠ 0 ∧ ¬ nb f ≤ nb g)) 6))) : wpX_olderFacts post (fc, md, rl, bl, pc, nb, kd, fl, sa, po, ng, tt, ac, ha, bd, bp, bf, ck, cg, tc, tf, th, tp, aw, ak, ao, cs, ex, mx, va, ff, fv, pr) (nI f) := by
  refine ⟨6 + 1, fr_upto (fun n i => wX_olderFacts_4 post (nI f) fc md rl bl pc nb kd fl sa po ng tt ac ha bd bp bf ck cg tc tf th tp aw ak ao cs ex mx va ff fv pr n (nI (fr_ct (fun g => decide (nb g ≠ 0 ∧ ¬ nb f ≤ nb g)) i)) (nI i)) 6 ?_ ?_⟩
  · intro n
    exact br_t (nI_le (a := 6) (b := 6) (by omega) (by decide)) h
  · intro n i hi hk
    have hin : vp_in (nI i) 6 := vp_in_nI hi (by decide)
    refine br_f (nI_ge (b := 6) hi (by decide)) ⟨hin, ?_⟩
    rw [nI_clamp (n := i) (by omega), nI_clamp (n := f) (by omega)]
    refine br_c (fun e => ?_) (fun e => ⟨hin, vp_in_nI hf (by decide), br_c (fun e2 => ?_) (fun e2 => ?_)⟩)
    · rw [fr_ct_f (decide_eq_false (fun k => k.1 e))] at hk
      exact nm_r (nI_1 i) hk
    · rw [fr_ct_f (decide_eq_false (fun k => k.2 e2))] at hk
      exact nm_r (nI_1 i) hk
    · rw [fr_ct_t (decide_eq_true ⟨e, e2⟩)] at hk
      exact nm_r (nI_1 _) (nm_r (nI_1 i) hk)
def fr_ag (nb : Nat → Int32) (v : Int32) (f : Nat) : Prop := nb f ≠ 0 ∧ nI (fr_ct (fun g => decide (nb g ≠ 0 ∧ ¬ nb f ≤ nb g)) 6) = v
theorem fx_age_st {post : Int32 → Prop} {v : Int32} {n i : Nat} (hi : i < 6) (hm : ¬ fr_ag nb v i) (hk : wX_slotByAge_2 post v fc md rl bl pc nb kd fl sa po ng tt ac ha bd bp bf ck cg tc tf th tp aw ak ao cs ex mx va ff fv pr n (nI (i + 1))) : wX_slotByAge_2 post v fc md rl bl pc nb kd fl sa po ng tt ac ha bd bp bf ck cg tc tf th tp aw ak ao cs ex mx va ff fv pr (n + 1) (nI i) := by
  refine br_f (nI_ge (b := 6) hi (by decide)) ⟨vp_in_nI hi (by decide), ?_⟩
  rw [nI_clamp (by omega)]
  exact br_c (fun e => nm_r (nI_1 i) hk) (fun e => fx_older hi (br_f (fun e2 => hm ⟨e, e2⟩) (nm_r (nI_1 i) hk)))
theorem fx_age_some {post : Int32 → Prop} {v : Int32} {f : Nat} (hf : f < 6) (hP : fr_ag nb v f) (hm : ∀ g, g < f → ¬ fr_ag nb v g) (h : post (nI f)) : wpX_slotByAge post (fc, md, rl, bl, pc, nb, kd, fl, sa, po, ng, tt, ac, ha, bd, bp, bf, ck, cg, tc, tf, th, tp, aw, ak, ao, cs, ex, mx, va, ff, fv, pr) v := by
  refine ⟨f + 1, fr_upto (fun n i => wX_slotByAge_2 post v fc md rl bl pc nb kd fl sa po ng tt ac ha bd bp bf ck cg tc tf th tp aw ak ao cs ex mx va ff fv pr n (nI i)) f ?_ ?_⟩
  · intro n
    refine br_f (nI_ge (b := 6) hf (by decide)) ⟨vp_in_nI hf (by decide), ?_⟩
    rw [nI_clamp (by omega)]
    exact br_f hP.1 (fx_older hf (br_t hP.2 h))
  · intro n i hi hk
    exact fx_age_st (by omega) (hm i hi) hk
theorem fx_age_none {post : Int32 → Prop} {v : Int32} (hm : ∀ g, g < 6 → ¬ fr_ag nb v g) (h : post (-1)) : wpX_slotByAge post (fc, md, rl, bl, pc, nb, kd, fl, sa, po, ng, tt, ac, ha, bd, bp, bf, ck, cg, tc, tf, th, tp, aw, ak, ao, cs, ex, mx, va, ff, fv, pr) v := by
  refine ⟨6 + 1, fr_upto (fun n i => wX_slotByAge_2 post v fc md rl bl pc nb kd fl sa po ng tt ac ha bd bp bf ck cg tc tf th tp aw ak ao cs ex mx va ff fv pr n (nI i)) 6 ?_ ?_⟩
  · intro n
    exact br_t (nI_le (a := 6) (b := 6) (by omega) (by decide)) h
  · intro n i hi hk
    exact fx_age_st hi (hm i hi) hk
theorem fy_f29 {post : Int32 → Prop} {J : Int32 → Prop} {v w : Int32} {f : Nat} (hf : f < 6)
    (h : (nb f = 0 → J (nI (f + 1))) ∧ (¬ nb f = 0 → (nI (fr_ct (fun g => decide (nb g ≠ 0 ∧ ¬ nb f ≤ nb g)) 6) = v → (w = 0 → post (nb f)) ∧ (¬ w = 0 → (w = 1 → post (kd f)) ∧ (¬ w = 1 → vp_in ((3 * nI f + w) - 2) 18 ∧ post (fl ((3 * nI f + w) - 2).toNatClampNeg)))) ∧ (¬ nI (fr_ct (fun g => decide (nb g ≠ 0 ∧ ¬ nb f ≤ nb g)) 6) = v → J (nI (f + 1))))) :
    ∃ n, wY_fact_29 post J v w (nI f) rl bl md pc ht sa cn po ac bm ck cg tc tf th tp ds wx wy wz nb kd fl hd my vs pr n 0 0 := by
  have hinf : vp_in (nI f) 6 := vp_in_nI hf (by decide)
  refine ⟨6 + 1, fr_upto (fun n i => wY_fact_29 post J v w (nI f) rl bl md pc ht sa cn po ac bm ck cg tc tf th tp ds wx wy wz nb kd fl hd my vs pr n (nI (fr_ct (fun g => decide (nb g ≠ 0 ∧ ¬ nb f ≤ nb g)) i)) (nI i)) 6 ?_ ?_⟩
  · intro n
    refine br_t (nI_le (a := 6) (b := 6) (by omega) (by decide)) ⟨hinf, ?_⟩
    rw [nI_clamp (n := f) (by omega)]
    refine br_c (fun e => nm_r (nI_1 f) (h.1 e)) (fun e => br_c (fun e2 => ?_) (fun e2 => nm_r (nI_1 f) ((h.2 e).2 e2)))
    have hr := (h.2 e).1 e2
    exact br_c (fun e3 => ⟨hinf, hr.1 e3⟩) (fun e3 => br_c (fun e4 => ⟨hinf, (hr.2 e3).1 e4⟩) (fun e4 => (hr.2 e3).2 e4))
  · intro n i hi hk
    have hin : vp_in (nI i) 6 := vp_in_nI hi (by decide)
    refine br_f (nI_ge (b := 6) hi (by decide)) ⟨hin, ?_⟩
    rw [nI_clamp (n := i) (by omega), nI_clamp (n := f) (by omega)]
    refine br_c (fun e => ?_) (fun e => ⟨hin, hinf, br_c (fun e2 => ?_) (fun e2 => ?_)⟩)
    · rw [fr_ct_f (decide_eq_false (fun k => k.1 e))] at hk
      exact nm_r (nI_1 i) hk
    · rw [fr_ct_f (decide_eq_false (fun k => k.2 e2))] at hk
      exact nm_r (nI_1 i) hk
    · rw [fr_ct_t (decide_eq_true ⟨e, e2⟩)] at hk
      exact nm_r (nI_1 _) (nm_r (nI_1 i) hk)
theorem fy_f17_st {post : Int32 → Prop} {v w : Int32} {n i : Nat} (hi : i < 6) (hm : ¬ fr_ag nb v i) (hk : wY_fact_17 post v w rl bl md pc ht sa cn po ac bm ck cg tc tf th tp ds wx wy wz nb kd fl hd my vs pr n (nI (i + 1))) : wY_fact_17 post v w rl bl md pc ht sa cn po ac bm ck cg tc tf th tp ds wx wy wz nb kd fl hd my vs pr (n + 1) (nI i) :=
  br_f (nI_ge (b := 6) hi (by decide)) (fy_f29 hi ⟨fun _ => hk, fun e => ⟨fun e2 => absurd ⟨e, e2⟩ hm, fun _ => hk⟩⟩)
theorem i_vc_fact {k : Nat} {u : SX} {v : SY} (I : i_Rel k u v) (hk : k + 5 ≤ 2560) (v1 : Int32) (v2 : Int32) : wpX_fact (fun r => wpY_fact (fun r' => r' = r ∧ i_Rel (k + 5) u v) v v1 v2) u v1 v2 := by
  have up := i_up I
  obtain ⟨R, B, fc, md, rl, bl, pc, ht, nb, kd, fl, sa, po, ng, tt, ac, ha, bd, bp, bf, ck, cg, tc, tf, th, tp, aw, ak, ao, cs, ex, mx, va, ff, fv, pr, cn, bm, ds, wx, wy, wz, hd, my, vs, rfl, rfl, _⟩ := I
  unfold wpX_fact
  by_cases w0 : v2 < 0
  · have hY : wpY_fact (fun r' => r' = -1 ∧ i_Rel (k + 5) (fc, md, rl, bl, pc, nb, kd, fl, sa, po, ng, tt, ac, ha, bd, bp, bf, ck, cg, tc, tf, th, tp, aw, ak, ao, cs, ex, mx, va, ff, fv, pr) (rl, bl, md, pc, ht, sa, cn, po, ac, bm, ck, cg, tc, tf, th, tp, ds, wx, wy, wz, nb, kd, fl, hd, my, vs, pr)) (rl, bl, md, pc, ht, sa, cn, po, ac, bm, ck, cg, tc, tf, th, tp, ds, wx, wy, wz, nb, kd, fl, hd, my, vs, pr) v1 v2 := br_t w0 ⟨rfl, up⟩
    rcases fr_fst (fr_ag nb v1) 6 with ⟨f, hf, hP, hm⟩ | hm
    · exact fx_age_some hf hP hm (br_f (fr_m1 (by omega)) (br_t w0 hY))
    · exact fx_age_none hm (br_t rfl hY)
  · by_cases w4 : 4 < v2
    · have hY : wpY_fact (fun r' => r' = -1 ∧ i_Rel (k + 5) (fc, md, rl, bl, pc, nb, kd, fl, sa, po, ng, tt, ac, ha, bd, bp, bf, ck, cg, tc, tf, th, tp, aw, ak, ao, cs, ex, mx, va, ff, fv, pr) (rl, bl, md, pc, ht, sa, cn, po, ac, bm, ck, cg, tc, tf, th, tp, ds, wx, wy, wz, nb, kd, fl, hd, my, vs, pr)) (rl, bl, md, pc, ht, sa, cn, po, ac, bm, ck, cg, tc, tf, th, tp, ds, wx, wy, wz, nb, kd, fl, hd, my, vs, pr) v1 v2 := br_f w0 (br_t w4 ⟨rfl, up⟩)
      rcases fr_fst (fr_ag nb v1) 6 with ⟨f, hf, hP, hm⟩ | hm
      · exact fx_age_some hf hP hm (br_f (fr_m1 (by omega)) (br_f w0 (br_t w4 hY)))
      · exact fx_age_none hm (br_t rfl hY)
    · by_cases g0 : 0 ≤ v1
      · rcases fr_fst (fr_ag nb v1) 6 with ⟨f, hf, hP, hm⟩ | hm
        · refine fx_age_some hf hP hm (br_f (fr_m1 (by omega)) (br_f w0 (br_f w4 ?_)))
          have hin : vp_in (nI f) 6 := vp_in_nI hf (by decide)
          have hcl : (nI f).toNatClampNeg = f := nI_clamp (by omega)
          have hY : ∀ post : Int32 → Prop, ((v2 = 0 → post (nb f)) ∧ (¬ v2 = 0 → (v2 = 1 → post (kd f)) ∧ (¬ v2 = 1 → vp_in ((3 * nI f + v2) - 2) 18 ∧ post (fl ((3 * nI f + v2) - 2).toNatClampNeg)))) → wpY_fact post (rl, bl, md, pc, ht, sa, cn, po, ac, bm, ck, cg, tc, tf, th, tp, ds, wx, wy, wz, nb, kd, fl, hd, my, vs, pr) v1 v2 := by
            intro post hpost
            refine br_f w0 (br_f w4 (br_t g0 ⟨f + 1, fr_upto (fun n i => wY_fact_17 post v1 v2 rl bl md pc ht sa cn po ac bm ck cg tc tf th tp ds wx wy wz nb kd fl hd my vs pr n (nI i)) f ?_ ?_⟩))
            · intro n
              exact br_f (nI_ge (b := 6) hf (by decide)) (fy_f29 hf ⟨fun e => absurd e hP.1, fun _ => ⟨fun _ => hpost, fun e2 => absurd hP.2 e2⟩⟩)
            · intro n i hi hk2
              exact fy_f17_st (by omega) (hm i hi) hk2
          obtain ⟨w, hw, rfl⟩ := fr_kind2 (M := 4) (n := 4) (by decide) w0 w4
          have e62 : ∀ w, 2 ≤ w → w < 5 → (nI f * 3 + nI w) - 2 = nI (3 * f + w - 2) := fun w h1 h2 => by
            rw [fr_m3, nI_add]; exact pk_sub (b := 2) (by omega)
          have y62 : ∀ w, 2 ≤ w → w < 5 → (3 * nI f + nI w) - 2 = nI (3 * f + w - 2) := fun w h1 h2 => by
            rw [fr_3m, nI_add]; exact pk_sub (b := 2) (by omega)
          have h62 : 2 ≤ w → wX_fact_62 (fun r => wpY_fact (fun r' => r' = r ∧ i_Rel (k + 5) (fc, md, rl, bl, pc, nb, kd, fl, sa, po, ng, tt, ac, ha, bd, bp, bf, ck, cg, tc, tf, th, tp, aw, ak, ao, cs, ex, mx, va, ff, fv, pr) (rl, bl, md, pc, ht, sa, cn, po, ac, bm, ck, cg, tc, tf, th, tp, ds, wx, wy, wz, nb, kd, fl, hd, my, vs, pr)) (rl, bl, md, pc, ht, sa, cn, po, ac, bm, ck, cg, tc, tf, th, tp, ds, wx, wy, wz, nb, kd, fl, hd, my, vs, pr) v1 (nI w)) (nI w) (nI f) fc md rl bl pc nb kd fl sa po ng tt ac ha bd bp bf ck cg tc tf th tp aw ak ao cs ex mx va ff fv pr := by
            intro h2
            refine ⟨by rw [e62 w h2 (by omega)]; exact vp_in_nI (by omega) (by decide), hY _ (br_f (nI_ne0 (by omega) (by omega)) (br_f ?_ ⟨?_, ?_, up⟩))⟩
            · intro e
              have := (nI_eq (a := w) (b := 1) (by omega) (by omega)).mp e
              omega
            · rw [y62 w h2 (by omega)]; exact vp_in_nI (by omega) (by decide)
            · rw [y62 w h2 (by omega), e62 w h2 (by omega)]
          match w, hw, h62 with
          | 0, _, _ => exact br_t nI_0 ⟨hin, hY _ (br_t nI_0 ⟨by rw [hcl], up⟩)⟩
          | 1, _, _ => exact br_f (by decide) (br_t rfl ⟨hin, hY _ (br_f (by decide) (br_t rfl ⟨by rw [hcl], up⟩))⟩)
          | 2, _, h62 => exact br_f (by decide) (br_f (by decide) (br_t rfl (h62 (by omega))))
          | 3, _, h62 => exact br_f (by decide) (br_f (by decide) (br_f (by decide) (br_t rfl (h62 (by omega)))))
          | 4, _, h62 => exact br_f (by decide) (br_f (by decide) (br_f (by decide) (br_f (by decide) (br_t rfl (h62 (by omega))))))
        · refine fx_age_none hm (br_t rfl (br_f w0 (br_f w4 (br_t g0 ⟨6 + 1, fr_upto (fun n i => wY_fact_17 _ v1 v2 rl bl md pc ht sa cn po ac bm ck cg tc tf th tp ds wx wy wz nb kd fl hd my vs pr n (nI i)) 6 ?_ ?_⟩))))
          · intro n
            exact br_t (nI_le (a := 6) (b := 6) (by omega) (by decide)) ⟨rfl, up⟩
          · intro n i hi hk2
            exact fy_f17_st hi (hm i hi) hk2
      · refine fx_age_none (fun g hg hP => g0 ?_) (br_t rfl (br_f w0 (br_f w4 (br_f g0 ⟨rfl, up⟩))))
        rw [← hP.2]
        exact nI_pos' (by have := fr_ct_le (fun g' => decide (nb g' ≠ 0 ∧ ¬ nb g ≤ nb g')) 6; omega)
/-! ===== the two constructors ===== -/
theorem fr_cs1 {a : Nat → Int32} {i : Nat} (hi : i < 216) (h : ∀ m j, m < i → j < 3 → a (3 * m + j) = nI (fr_dg (fr_sg m) j)) :
    ∀ m j, m < i + 1 → j < 3 → upd (upd (upd a (3 * i) (nI (i % 6))) (3 * i + 1) (nI (i / 6 % 6))) (3 * i + 2) (nI (i / 36 % 6)) (3 * m + j) = nI (fr_dg (fr_sg m) j) := by
  intro m j hm hj
  by_cases e : m = i
  · subst e
    match j, hj with
    | 0, _ =>
      rw [pk_un (by omega), pk_un (by omega), fr_sg_0]
      exact pk_us
    | 1, _ =>
      rw [pk_un (by omega), fr_sg_1]
      exact pk_us
    | 2, _ =>
      rw [fr_sg_2]
      exact pk_us
  · rw [pk_un (by omega), pk_un (by omega), pk_un (by omega)]
    exact h m j (by omega) hj
theorem fr_z {a : Nat → Int32} (h : ∀ i, a i = 0) (i b : Nat) (hb : 0 < b) (hb2 : b ≤ 2 ^ 31) : fr_Lt (a i) b := by
  rw [h i]; exact fr_Lt_0 hb hb2
theorem fr_np_z (r : Nat) : fr_np (fun _ => 0) r 0 = 0 := rfl
theorem fr_RB0 : fr_RB 0 (fun _ => 0) (fun _ => 0) (fun _ => 0) (fun _ => 0) (fun _ => 0) (fun _ => 0) (fun _ => 0) (fun _ => 0) (fun _ => 0) (fun _ => 0) (fun _ => 0) (fun _ => 0) (fun _ => 0) (fun _ => 0) (fun _ => 0) (fun _ => 0) (fun _ => 0) (fun _ => 0) (fun _ => 0) (fun _ => 0) (fun _ => 0) (fun _ => 0) := by
  have z : ∀ b, 0 < b → b ≤ 2 ^ 31 → fr_Lt 0 b := fun b h1 h2 => fr_Lt_0 h1 h2
  have n0 : fr_n 0 = 0 := by decide
  refine ⟨fun r hr => ⟨z 4 (by omega) (by omega), z 3 (by omega) (by omega), ?_, z 5 (by omega) (by omega), ?_, fun _ => ⟨rfl, rfl, rfl⟩⟩, fun r hr => ⟨fun i hi => ⟨z 5 (by omega) (by omega), fun _ => rfl⟩, ?_⟩, fun r i s hr hi hs => ?_, fun r hr => ⟨z 16 (by omega) (by omega), fun _ => rfl, fun x hx => ⟨⟨fun h => ?_, fun h => absurd rfl h⟩, Or.inl rfl, fun h => absurd rfl h⟩⟩, fun r s hr hs => ?_, fun r hr => ⟨fun h => absurd rfl h, fun ⟨s, hs, _⟩ => ?_⟩⟩
  · show (0 : Int32) = nI (fr_n 0 + fr_n 0)
    rw [n0]; rfl
  · show fr_np (fun _ => 0) r (fr_n 0 + fr_n 0) = fr_n 0
    rw [n0]; rfl
  · show (0 : Int32) = nI (fr_tt (fun _ => 0) r (fr_n 0 + fr_n 0))
    rw [n0]; rfl
  · have hs' : s < fr_n 0 := hs
    rw [n0] at hs'
    omega
  · have h' : fr_n 0 / 2 ^ x % 2 = 1 := h
    rw [n0, Nat.zero_div] at h'
    omega
  · have hs' : s < fr_n 0 := hs
    rw [n0] at hs'
    omega
  · have hs' : s < fr_n 0 := hs
    rw [n0] at hs'
    omega
theorem i_vc0 : wpX_init (fun u => wpY_init (fun v => i_Rel 0 u v)) := by
  refine ⟨216 + 1, loop_i (σ := Nat → Int32) (fun n i a => wX_init_249 (fun u => wpY_init (fun v => i_Rel 0 u v)) 0 0 0 0 0 n (nI i) (fun _ => 0) (fun _ => 0) (fun _ => 0) (fun _ => 0) (fun _ => 0) (fun _ => 0) (fun _ => 0) (fun _ => 0) (fun _ => 0) (fun _ => 0) (fun _ => 0) (fun _ => 0) (fun _ => 0) (fun _ => 0) (fun _ => 0) (fun _ => 0) (fun _ => 0) (fun _ => 0) (fun _ => 0) (fun _ => 0) (fun _ => 0) a (fun _ => 0) (fun _ => 0) (fun _ => 0) (fun _ => 0) (fun _ => 0) (fun _ => 0))
    (fun i a => ∀ m j, m < i → j < 3 → a (3 * m + j) = nI (fr_dg (fr_sg m) j)) 216 ?_ ?_ (216 + 1) 0 (fun _ => 0) (by omega) (by omega) (fun m j h => absurd h (Nat.not_lt_zero m))⟩
  · intro n a hI
    refine br_t (nI_le (a := 216) (b := 216) (by omega) (by decide)) ?_
    refine fr_mk (R := 0) (B := 0) ⟨by omega, rfl, by omega, rfl, by omega, fr_RB0, hI, ⟨⟨0, by omega, rfl, fun f hf => fr_Lt_0 (by omega) (by omega)⟩, fun f g hf hg h => absurd rfl h, by decide⟩, fun y hy => ⟨rfl, rfl, fun h => absurd h (by omega), fun _ => rfl⟩⟩
  · intro n i a hi hI hk
    have hge : ¬ (216 : Int32) ≤ nI i := nI_ge (b := 216) hi (by decide)
    have e0 : nI i - nI i / 6 * 6 = nI (i % 6) := fr_r6 (by omega)
    have e1 : nI i / 6 - nI i / 6 / 6 * 6 = nI (i / 6 % 6) := by rw [fr_d6 (by omega), fr_r6 (by omega)]
    have e2 : nI i / 6 / 6 = nI (i / 36 % 6) := by
      rw [fr_d6 (by omega), fr_d6 (by omega)]
      exact congrArg nI (by omega)
    refine br_f hge (nm_r (fr_m3 i) ⟨by decide, vp_in_nI (by omega) (by decide), nm_r (e' := upd a (3 * i) (nI (i % 6))) (by rw [nI_clamp (by omega), e0]) ⟨by decide, by decide, ?_, nm_r (e' := upd (upd a (3 * i) (nI (i % 6))) (3 * i + 1) (nI (i / 6 % 6))) ?_ ⟨by decide, by decide, ?_, nm_r (e' := upd (upd (upd a (3 * i) (nI (i % 6))) (3 * i + 1) (nI (i / 6 % 6))) (3 * i + 2) (nI (i / 36 % 6))) ?_ (nm_r (nI_1 i) (hk _ (fr_cs1 hi hI)))⟩⟩⟩)
    · rw [nI_1]; exact vp_in_nI (by omega) (by decide)
    · rw [nI_1, nI_clamp (by omega), e1]
    · rw [show nI (3 * i) + 2 = nI (3 * i + 2) from nI_add _ 2]; exact vp_in_nI (by omega) (by decide)
    · rw [show nI (3 * i) + 2 = nI (3 * i + 2) from nI_add _ 2, nI_clamp (by omega), e2]
end
end
section
section
variable {fc md rl bl pc ht : Int32} {nb kd fl sa po ng tt ac ha bd bp bf ck cg tc tf th tp aw ak ao cs ex mx va ff fv pr cn bm ds wx wy wz hd my vs : Nat → Int32} {R : Nat}
/-! ===== the component performs an action ===== -/
theorem fx_perf {post : SX → Prop} {z w : Nat} (hz : z < 16) (hw : w < 4) (e1 : aw z = nI w)
    (h0 : w = 0 → vp_in (ao (3 * z)) 3 ∧ wpX_eraseFact (fun r u => match u with | (fc, md, rl, bl, pc, nb, kd, fl, sa, po, ng, tt, ac, ha, bd, bp, bf, ck, cg, tc, tf, th, tp, aw, ak, ao, cs, ex, mx, va, ff, fv, pr) => post (fc, md, rl, bl, pc, nb, kd, fl, sa, po, ng, tt, ac, ha, bd, bp, bf, ck, cg, tc, tf, th, tp, aw, ak, ao, cs, ex, mx, va, ff, fv, pr)) (fc, md, rl, bl, pc, nb, kd, fl, sa, po, ng, tt, ac, ha, bd, bp, bf, ck, cg, tc, tf, th, tp, aw, ak, ao, cs, ex, mx, va, ff, fv, pr) (ff (ao (3 * z)).toNatClampNeg))
    (h1 : w = 1 → post (fc, md, rl, bl, pc + 1, nb, kd, fl, sa, po, ng, tt, ac, ha, bd, bp, bf, ck, cg, tc, tf, th, tp, aw, ak, ao, cs, ex, mx, va, ff, fv, upd pr (pc &&& 15).toNatClampNeg (fr_ov fv (ao (3 * z)))))
    (h2 : w = 2 → post (fc, md, rl, bl, pc, nb, kd, fl, sa, po, ng, tt, ac, ha, bd, bp, bf, ck, cg, tc, tf, th, tp, aw, ak, ao, cs, ex, mx, va, ff, fv, pr))
    (h3 : w = 3 → wpX_storeFact (fun r u => match u with | (fc, md, rl, bl, pc, nb, kd, fl, sa, po, ng, tt, ac, ha, bd, bp, bf, ck, cg, tc, tf, th, tp, aw, ak, ao, cs, ex, mx, va, ff, fv, pr) => post (fc, md, rl, bl, pc, nb, kd, fl, sa, po, ng, tt, ac, ha, bd, bp, bf, ck, cg, tc, tf, th, tp, aw, ak, ao, cs, ex, mx, va, ff, fv, pr)) (fc, md, rl, bl, pc, nb, kd, fl, sa, po, ng, tt, ac, ha, bd, bp, bf, ck, cg, tc, tf, th, tp, aw, ak, ao, cs, ex, mx, va, ff, fv, pr) (ak z) (fr_ov fv (ao (3 * z))) (fr_ov fv (ao (3 * z + 1))) (fr_ov fv (ao (3 * z + 2)))) :
    wpX_perform post (fc, md, rl, bl, pc, nb, kd, fl, sa, po, ng, tt, ac, ha, bd, bp, bf, ck, cg, tc, tf, th, tp, aw, ak, ao, cs, ex, mx, va, ff, fv, pr) (nI z) := by
  have e0 : nI z * 3 = nI (3 * z) := fr_m3 _
  have c0 : (nI (3 * z)).toNatClampNeg = 3 * z := nI_clamp (by omega)
  have cz : (nI z).toNatClampNeg = z := nI_clamp (by omega)
  have h16 : vp_in (nI z) 16 := vp_in_nI hz (by decide)
  refine ⟨by rw [e0]; exact vp_in_nI (by omega) (by decide), nm_r (e' := ao (3 * z)) (by rw [e0, c0]) ⟨h16, nm_r (e' := nI w) (by rw [cz, e1]) (br_f (nI_pos (by omega)) (br_f (nI_nlt (a := 3) (by omega) (by decide)) ?_))⟩⟩
  match w, hw, e1, h0, h1, h2, h3 with
  | 0, _, _, h0, _, _, _ => exact br_t nI_0 (h0 rfl)
  | 1, _, _, _, h1, _, _ => exact br_f (by decide) (br_t rfl (fx_value_f ⟨pk_andIn _ 4 (by decide) (by decide), nm_e (nm_e (h1 rfl))⟩))
  | 2, _, _, _, _, h2, _ => exact br_f (by decide) (br_f (by decide) (br_t rfl (h2 rfl)))
  | 3, _, _, _, _, _, h3 =>
    refine br_f (by decide) (br_f (by decide) (br_f (by decide) (br_t rfl ?_)))
    have ea : nI (3 * z) + 1 = nI (3 * z + 1) := nI_1 _
    have eb : nI (3 * z) + 2 = nI (3 * z + 2) := nI_add _ 2
    refine nm_r e0 ⟨vp_in_nI (by omega) (by decide), ?_⟩
    rw [c0]
    refine fx_value_f ⟨by rw [ea]; exact vp_in_nI (by omega) (by decide), ?_⟩
    rw [ea, nI_clamp (n := 3 * z + 1) (by omega)]
    refine fx_value_f ⟨by rw [eb]; exact vp_in_nI (by omega) (by decide), ?_⟩
    rw [eb, nI_clamp (n := 3 * z + 2) (by omega)]
    refine fx_value_f ⟨h16, ?_⟩
    rw [cz]
    exact h3 rfl
theorem fx_begin {x : Nat} (hcs : fr_CS cs) (hp : ∀ r, r < 4 → fr_Lt (po r) 4) (hb : ∀ f, f < 6 → nb f = nI (fr_n (nb f))) (h5 : fr_R5 R tc th tp bd bp bf bm) (hx : x < 864) :
    ∃ ff' fv' : Nat → Int32, (∀ j, j < 3 → ff' j = nI (fr_gv nb po (fr_sg x) j)) ∧ (∀ z, z < 4 → bd (4 * (x / 216) + z) ≠ 0 → fv' z = fr_val bp bf fl (fr_sg x) z) ∧
      ∀ post : SX → Prop, post (fc, md, rl, bl, pc, nb, kd, fl, sa, po, ng, tt, ac, ha, bd, bp, bf, ck, cg, tc, tf, th, tp, aw, ak, ao, cs, ex, upd mx x 1, va, ff', fv', pr) → wpX_beginFiring post (fc, md, rl, bl, pc, nb, kd, fl, sa, po, ng, tt, ac, ha, bd, bp, bf, ck, cg, tc, tf, th, tp, aw, ak, ao, cs, ex, mx, va, ff, fv, pr) (nI x) := by
  obtain ⟨w, hw, hW⟩ := fx_read_f (fc := fc) (md := md) (rl := rl) (bl := bl) (pc := pc) (nb := nb) (kd := kd) (fl := fl) (sa := sa) (po := po) (ng := ng) (tt := tt) (ac := ac) (ha := ha) (bd := bd) (bp := bp) (bf := bf) (ck := ck) (cg := cg) (tc := tc) (tf := tf) (th := th) (tp := tp) (aw := aw) (ak := ak) (ao := ao) (cs := cs) (ex := ex) (mx := upd mx x 1) (va := va) (ff := ff) (fv := fv) (pr := pr) hcs h5 hx
  have key := fr_exl (σ := Nat → Int32) (Q := SX → Prop) (fun P n j a => wX_beginFiring_18 P (nI x) fc md rl bl pc n (nI j) nb kd fl sa po ng tt ac ha bd bp bf ck cg tc tf th tp aw ak ao cs ex (upd mx x 1) va a w pr)
    (fun j a => ∀ j', j' < j → a j' = nI (fr_gv nb po (fr_sg x) j')) 3 (fun j a hj hI => by
      refine ⟨upd a j (nI (fr_gv nb po (fr_sg x) j)), fun j' hj' => ?_, fun P n hk => br_f (nI_ge (b := 3) hj (by decide)) (fx_given hcs hp hb hx hj ⟨vp_in_nI hj (by decide), nm_r (e' := upd a j (nI (fr_gv nb po (fr_sg x) j))) (by rw [nI_clamp (by omega)]) (nm_r (nI_1 j) hk)⟩)⟩
      by_cases e : j' = j
      · rw [e, pk_us]
      · rw [pk_un e]; exact hI j' (by omega)) ff (fun j h => absurd h (Nat.not_lt_zero j))
  obtain ⟨ff', hf, hWf⟩ := key
  refine ⟨ff', w, hf, hw, fun post hp => ⟨vp_in_nI hx (by decide), nm_r (e' := upd mx x 1) (by rw [nI_clamp (by omega), fr_b1]) (hW _ ⟨1 + 3, hWf post 1 ?_⟩)⟩⟩
  exact br_t (nI_le (a := 3) (b := 3) (by omega) (by decide)) hp
/-! ===== the reference's actions: with w, the variables set anew ===== -/
abbrev fr_vq (vs : Nat → Int32) (v0 v1 v2 v3 : Int32) : Nat → Int32 := upd (upd (upd (upd vs 0 v0) 1 v1) 2 v2) 3 v3
theorem fy_72_in {post : SY → Prop} {r s a n : Nat} {xa xb xc v0 v1 v2 v3 : Int32} (hr : r < 4) (ea : ac r = nI a) (ha4 : a ≤ 4) (hs : s < a)
    (h0 : ds (4 * r + s) = 0 → wY_fire_161 post (wY_fire_72 post (nI r) xa xb xc v0 v1 v2 v3 n) (nI r) xa xb xc v0 v1 v2 v3 (nI (4 * r + s)) (wx (4 * r + s)) rl bl md pc ht sa cn po ac bm ck cg tc tf th tp ds wx wy wz nb kd fl hd my (fr_vq vs v0 v1 v2 v3) pr)
    (h2 : ds (4 * r + s) = 2 → wY_fire_161 post (wY_fire_72 post (nI r) xa xb xc v0 v1 v2 v3 n) (nI r) xa xb xc v0 v1 v2 v3 (nI (4 * r + s)) (wx (4 * r + s)) rl bl md pc ht sa cn po ac bm ck cg tc tf th tp ds wx wy wz nb kd fl hd my (fr_vq vs v0 v1 v2 v3) pr)
    (h1 : ds (4 * r + s) ≠ 0 → ds (4 * r + s) ≠ 2 → (wx (4 * r + s) &&& 1 ≠ 0 → ∃ x, x < 4 ∧ wx (4 * r + s) >>> ((1 : Int32) &&& 31) = nI x) ∧ wY_fire_161 post (wY_fire_72 post (nI r) xa xb xc v0 v1 v2 v3 n) (nI r) xa xb xc v0 v1 v2 v3 (nI (4 * r + s)) (fr_ov (fr_vq vs v0 v1 v2 v3) (wx (4 * r + s))) rl bl md pc ht sa cn po ac bm ck cg tc tf th tp ds wx wy wz nb kd fl hd my (fr_vq vs v0 v1 v2 v3) pr) :
    wY_fire_72 post (nI r) xa xb xc v0 v1 v2 v3 (n + 1) (nI (4 * r + s)) rl bl md pc ht sa cn po ac bm ck cg tc tf th tp ds wx wy wz nb kd fl hd my vs pr := by
  have h16 : vp_in (nI (4 * r + s)) 16 := vp_in_nI (by omega) (by decide)
  have hcl : (nI (4 * r + s)).toNatClampNeg = 4 * r + s := nI_clamp (by omega)
  have hle : ¬ (4 * nI r + ac (nI r).toNatClampNeg ≤ nI (4 * r + s)) := by
    rw [nI_clamp (by omega), ea, fr_4m, nI_add]
    exact nI_ge (by omega) (by omega)
  refine ⟨vp_in_nI hr (by decide), br_f hle (nm_e (nm_e (nm_e (nm_e ⟨h16, ?_⟩))))⟩
  rw [hcl]
  refine br_c (fun e => ⟨h16, ?_⟩) (fun e => ⟨h16, br_c (fun e2 => ⟨h16, ?_⟩) (fun e2 => ⟨h16, fy_value (h1 e e2).1 (h1 e e2).2⟩)⟩)
  · rw [hcl]; exact h0 e
  · rw [hcl]; exact h2 e2
end
end
section
section
variable {fc md rl bl pc ht : Int32} {nb kd fl sa po ng tt ac ha bd bp bf ck cg tc tf th tp aw ak ao cs ex mx va ff fv pr cn bm ds wx wy wz hd my vs : Nat → Int32} {R : Nat}
theorem fr_vq_at {v0 v1 v2 v3 : Int32} : fr_vq vs v0 v1 v2 v3 0 = v0 ∧ fr_vq vs v0 v1 v2 v3 1 = v1 ∧ fr_vq vs v0 v1 v2 v3 2 = v2 ∧ fr_vq vs v0 v1 v2 v3 3 = v3 := by
  exact ⟨rfl, rfl, rfl, rfl⟩
theorem fr_ov_us {w w' : Nat → Int32} {r : Nat} {o : Int32} (hu : fr_Us bd r o) (hw : ∀ x, x < 4 → bd (4 * r + x) ≠ 0 → w x = w' x) : fr_ov w o = fr_ov w' o := by
  by_cases ho : o &&& 1 = 0
  · rw [fr_ov_e ho, fr_ov_e ho]
  · obtain ⟨x, hx, e, hb⟩ := hu ho
    rw [fr_ov_o ho hx e, fr_ov_o ho hx e, hw x hx hb]
theorem fr_us_ix {r : Nat} {o : Int32} (hu : fr_Us bd r o) : o &&& 1 ≠ 0 → ∃ x, x < 4 ∧ o >>> ((1 : Int32) &&& 31) = nI x := fun ho => by
  obtain ⟨x, hx, e, _⟩ := hu ho
  exact ⟨x, hx, e⟩
/-! one action on both sides, the component settling behind it -/
theorem fr_action {b fin r s a : Nat} {xa xb xc v0 v1 v2 v3 y1 y2 : Int32} (hcs : fr_CS cs) (hRB : fr_RB R po ng cn ac tt ha bd bp bf bm cg tc tf th tp aw ak ao ds wx wy wz) (hfin : fin ≤ 4) (hfe : (bl = 0 → rl = nI fin) ∧ (¬ bl = 0 → rl - 1 = nI fin))
    (hr : r < 4) (na : fr_n (ac r) = a) (hs : s < a)
    (hff : ∀ o, o < fr_n (po r) → (∃ g, g < 2 ^ 31 ∧ ff o = nI g) ∧ ff o = (if o = 0 then xa else if o = 1 then xb else xc))
    (hfv : ∀ w : Nat → Int32, ∀ x, x < 4 → bd (4 * r + x) ≠ 0 → fv x = fr_vq w v0 v1 v2 v3 x)
    (hFB : fr_FB b fc md nb) (hb : b + 2 < 2 ^ 31) (hFL : fr_FL fin (fr_M nb kd fl po ng ck cg tc tf th tp bp bf) ex mx hd my) :
    ∃ (fc' md' pc' ht' : Int32) (nb' kd' fl' ex' mx' va' hd' my' vs' pr' : Nat → Int32),
      fr_FB (b + 1) fc' md' nb' ∧ fr_FL fin (fr_M nb' kd' fl' po ng ck cg tc tf th tp bp bf) ex' mx' hd' my' ∧ ((ds (4 * r + s) = 2 → ht' = 1) ∧ (ds (4 * r + s) ≠ 2 → ht' = ht)) ∧
      (∀ (post : Int32 → SX → Prop) J n, wX_run_57 post J y1 y2 (nI r) (nI a) n (nI (s + 1)) fc' md' rl bl pc' nb' kd' fl' sa po ng tt ac ha bd bp bf ck cg tc tf th tp aw ak ao cs ex' mx' va' ff fv pr' → wX_run_57 post J y1 y2 (nI r) (nI a) (n + 1) (nI s) fc md rl bl pc nb kd fl sa po ng tt ac ha bd bp bf ck cg tc tf th tp aw ak ao cs ex mx va ff fv pr) ∧
      (∀ (post : SY → Prop) n, wY_fire_72 post (nI r) xa xb xc v0 v1 v2 v3 n (nI (4 * r + (s + 1))) rl bl md' pc' ht' sa cn po ac bm ck cg tc tf th tp ds wx wy wz nb' kd' fl' hd' my' vs' pr' → wY_fire_72 post (nI r) xa xb xc v0 v1 v2 v3 (n + 1) (nI (4 * r + s)) rl bl md pc ht sa cn po ac bm ck cg tc tf th tp ds wx wy wz nb kd fl hd my vs pr) := by
  obtain ⟨h2, h3, h4, h5, h6, h7⟩ := hRB
  obtain ⟨q1, q2, q3, q4, q5, q6⟩ := h2 r hr
  have ea : ac r = nI a := by rw [← na]; exact q4.2
  have ha4 : a ≤ 4 := by have := q4.1; omega
  have hgeX : ¬ nI a ≤ nI s := nI_ge hs (by omega)
  have ez : nI r * 4 + nI s = nI (4 * r + s) := by rw [fr_m4, nI_add]
  have hz16 : 4 * r + s < 16 := by omega
  have h16 : vp_in (nI (4 * r + s)) 16 := vp_in_nI hz16 (by decide)
  have hcl : (nI (4 * r + s)).toNatClampNeg = 4 * r + s := nI_clamp (by omega)
  have hp3 := q1.1
  rcases h6 r s hr (by rw [na]; exact hs) with ⟨d1, d2, d3, o, d4, d5⟩ | ⟨d1, d2, d3, d4⟩ | ⟨d1, d2⟩ | ⟨kk, hkk, d1, d2, d3, d4, d5, d6, d8, d9, d10⟩
  · -- DROP
    have hds2 : ds (4 * r + s) ≠ 2 := by rw [d1]; decide
    obtain ⟨⟨g, hg, eg⟩, esel⟩ := hff o d4
    have ho3 : o < 3 := by omega
    have hcho : (ao (3 * (4 * r + s))).toNatClampNeg = o := by rw [d3, d5]; exact nI_clamp (by omega)
    have hvin : vp_in (ao (3 * (4 * r + s))) 3 := by rw [d3, d5]; exact vp_in_nI ho3 (by decide)
    have h161 : ∀ (post : SY → Prop) n, wY_fire_196 post (wY_fire_72 post (nI r) xa xb xc v0 v1 v2 v3 n) (nI r) xa xb xc v0 v1 v2 v3 (nI (4 * r + s)) (ff o) rl bl md pc ht sa cn po ac bm ck cg tc tf th tp ds wx wy wz nb kd fl hd my (fr_vq vs v0 v1 v2 v3) pr → wY_fire_72 post (nI r) xa xb xc v0 v1 v2 v3 (n + 1) (nI (4 * r + s)) rl bl md pc ht sa cn po ac bm ck cg tc tf th tp ds wx wy wz nb kd fl hd my vs pr := by
      intro post n hk
      refine fy_72_in hr ea ha4 hs (fun _ => ?_) (fun e => absurd e hds2) (fun e => absurd d1 e)
      refine ⟨h16, br_t (by rw [hcl]; exact d1) ?_⟩
      rw [d5]
      rw [esel] at hk
      by_cases o0 : o = 0
      · subst o0
        rw [if_pos rfl] at hk
        exact br_t nI_0 hk
      · rw [if_neg o0] at hk
        refine br_f (nI_ne0 (by omega) (by omega)) ?_
        by_cases o1 : o = 1
        · subst o1
          rw [if_pos rfl] at hk
          exact br_t rfl hk
        · rw [if_neg o1] at hk
          refine br_f (fun e => o1 ((nI_eq (b := 1) (by omega) (by omega)).mp e)) hk
    have hn := fr_FB_n hFB
    by_cases hE : ff o ≠ 0 ∧ ∃ f, f < 6 ∧ nb f = ff o
    · obtain ⟨hne, hex⟩ := hE
      rcases fr_fst (fun f => nb f = ff o) 6 with ⟨f, hf, e, hm⟩ | hm
      · obtain ⟨ex', mx', va', hSx, hWx⟩ := fx_settle (fc := fc - 1) (md := md) (rl := rl) (bl := bl) (pc := pc) (nb := upd nb f 0) (kd := kd) (fl := fl) (sa := sa) (po := po) (ng := ng) (tt := tt) (ac := ac) (ha := ha) (bd := bd) (bp := bp) (bf := bf) (ck := ck) (cg := cg) (tc := tc) (tf := tf) (th := th) (tp := tp) (aw := aw) (ak := ak) (ao := ao) (cs := cs) (ex := ex) (mx := mx) (va := va) (ff := ff) (fv := fv) (pr := pr) (fin := fin) hcs h2 h3 h4 h5 hfin hfe
        obtain ⟨hd', my', vs', hSy, hWy⟩ := fy_settle (rl := rl) (bl := bl) (md := md) (pc := pc) (ht := ht) (sa := sa) (cn := cn) (po := po) (ac := ac) (bm := bm) (ck := ck) (cg := cg) (tc := tc) (tf := tf) (th := th) (tp := tp) (ds := ds) (wx := wx) (wy := wy) (wz := wz) (nb := upd nb f 0) (kd := kd) (fl := fl) (hd := hd) (my := my) (vs := fr_vq vs v0 v1 v2 v3) (pr := pr) (fin := fin) h2 h3 h4 hfin hfe
        refine ⟨fc - 1, md, pc, ht, upd nb f 0, kd, fl, ex', mx', va', hd', my', vs', pr, fr_FB_up (fr_FB_del hFB hf (by rw [e]; exact hne) hb) (by omega), fr_FL_2 hFL (Nat.le_refl _) hSx hSy, ⟨fun e => absurd e hds2, fun _ => rfl⟩, fun post J n hk => ?_, fun post n hk => ?_⟩
        · refine br_f hgeX ?_
          rw [ez]
          refine fx_perf (w := 0) hz16 (by omega) d2 (fun _ => ⟨hvin, ?_⟩) (fun h => absurd h (by omega)) (fun h => absurd h (by omega)) (fun h => absurd h (by omega))
          rw [hcho]
          exact fx_erase_some hne hf e hm (hWx _ (nm_r (nI_1 s) hk))
        · refine h161 post n ?_
          refine fy_rem_some (fun hl => hne ?_) hf e hm hWy (nm_r (nI_1 _) hk)
          rw [eg] at hl ⊢
          have := (nI_leI (b := 0) hg (by omega)).mp hl
          rw [show g = 0 from by omega]
          rfl
      · obtain ⟨f, hf, e⟩ := hex
        exact absurd e (hm f hf)
    · have hno : ff o ≠ 0 → ∀ g, g < 6 → ¬ nb g = ff o := fun hne g hg e => hE ⟨hne, g, hg, e⟩
      obtain ⟨ex', mx', va', hSx, hWx⟩ := fx_settle (fc := fc) (md := md) (rl := rl) (bl := bl) (pc := pc) (nb := nb) (kd := kd) (fl := fl) (sa := sa) (po := po) (ng := ng) (tt := tt) (ac := ac) (ha := ha) (bd := bd) (bp := bp) (bf := bf) (ck := ck) (cg := cg) (tc := tc) (tf := tf) (th := th) (tp := tp) (aw := aw) (ak := ak) (ao := ao) (cs := cs) (ex := ex) (mx := mx) (va := va) (ff := ff) (fv := fv) (pr := pr) (fin := fin) hcs h2 h3 h4 h5 hfin hfe
      refine ⟨fc, md, pc, ht, nb, kd, fl, ex', mx', va', hd, my, fr_vq vs v0 v1 v2 v3, pr, fr_FB_up hFB (by omega), fr_FL_1 hFL hSx, ⟨fun e => absurd e hds2, fun _ => rfl⟩, fun post J n hk => ?_, fun post n hk => ?_⟩
      · refine br_f hgeX ?_
        rw [ez]
        refine fx_perf (w := 0) hz16 (by omega) d2 (fun _ => ⟨hvin, ?_⟩) (fun h => absurd h (by omega)) (fun h => absurd h (by omega)) (fun h => absurd h (by omega))
        rw [hcho]
        exact fx_erase_none hno (hWx _ (nm_r (nI_1 s) hk))
      · refine h161 post n ?_
        exact fy_rem_none (fun hl g hg => hno (fun e => hl (by rw [e]; exact Int32.le_refl _)) g hg) (nm_r (nI_1 _) hk)
  · -- PRINT
    have hds2 : ds (4 * r + s) ≠ 2 := by rw [d1]; decide
    have hds0 : ds (4 * r + s) ≠ 0 := by rw [d1]; decide
    obtain ⟨ex', mx', va', hSx, hWx⟩ := fx_settle (fc := fc) (md := md) (rl := rl) (bl := bl) (pc := pc + 1) (nb := nb) (kd := kd) (fl := fl) (sa := sa) (po := po) (ng := ng) (tt := tt) (ac := ac) (ha := ha) (bd := bd) (bp := bp) (bf := bf) (ck := ck) (cg := cg) (tc := tc) (tf := tf) (th := th) (tp := tp) (aw := aw) (ak := ak) (ao := ao) (cs := cs) (ex := ex) (mx := mx) (va := va) (ff := ff) (fv := fv) (pr := upd pr (pc &&& 15).toNatClampNeg (fr_ov fv (ao (3 * (4 * r + s))))) (fin := fin) hcs h2 h3 h4 h5 hfin hfe
    refine ⟨fc, md, pc + 1, ht, nb, kd, fl, ex', mx', va', hd, my, fr_vq vs v0 v1 v2 v3, upd pr (pc &&& 15).toNatClampNeg (fr_ov fv (ao (3 * (4 * r + s)))), fr_FB_up hFB (by omega), fr_FL_1 hFL hSx, ⟨fun e => absurd e hds2, fun _ => rfl⟩, fun post J n hk => ?_, fun post n hk => ?_⟩
    · refine br_f hgeX ?_
      rw [ez]
      exact fx_perf (w := 1) hz16 (by omega) d2 (fun h => absurd h (by omega)) (fun _ => hWx _ (nm_r (nI_1 s) hk)) (fun h => absurd h (by omega)) (fun h => absurd h (by omega))
    · rw [d3, fr_ov_us d4 (hfv vs)] at hk
      exact fy_72_in hr ea ha4 hs (fun e => absurd e hds0) (fun e => absurd e hds2) (fun _ _ => ⟨fr_us_ix d4, ⟨h16, br_f (by rw [hcl]; exact hds0) ⟨h16, br_t (by rw [hcl]; exact d1) (nm_e ⟨pk_andIn _ 4 (by decide) (by decide), nm_e (nm_r (nI_1 _) hk)⟩)⟩⟩⟩)
  · -- HALT
    have hds0 : ds (4 * r + s) ≠ 0 := by rw [d1]; decide
    have hds1 : ds (4 * r + s) ≠ 1 := by rw [d1]; decide
    obtain ⟨ex', mx', va', hSx, hWx⟩ := fx_settle (fc := fc) (md := md) (rl := rl) (bl := bl) (pc := pc) (nb := nb) (kd := kd) (fl := fl) (sa := sa) (po := po) (ng := ng) (tt := tt) (ac := ac) (ha := ha) (bd := bd) (bp := bp) (bf := bf) (ck := ck) (cg := cg) (tc := tc) (tf := tf) (th := th) (tp := tp) (aw := aw) (ak := ak) (ao := ao) (cs := cs) (ex := ex) (mx := mx) (va := va) (ff := ff) (fv := fv) (pr := pr) (fin := fin) hcs h2 h3 h4 h5 hfin hfe
    refine ⟨fc, md, pc, 1, nb, kd, fl, ex', mx', va', hd, my, fr_vq vs v0 v1 v2 v3, pr, fr_FB_up hFB (by omega), fr_FL_1 hFL hSx, ⟨fun _ => rfl, fun e => absurd d1 e⟩, fun post J n hk => ?_, fun post n hk => ?_⟩
    · refine br_f hgeX ?_
      rw [ez]
      exact fx_perf (w := 2) hz16 (by omega) d2 (fun h => absurd h (by omega)) (fun h => absurd h (by omega)) (fun _ => hWx _ (nm_r (nI_1 s) hk)) (fun h => absurd h (by omega))
    · exact fy_72_in hr ea ha4 hs (fun e => absurd e hds0) (fun _ => ⟨h16, br_f (by rw [hcl]; exact hds0) ⟨h16, br_f (by rw [hcl]; exact hds1) ⟨h16, br_t (by rw [hcl]; exact d1) (nm_r (nI_1 _) hk)⟩⟩⟩) (fun _ e => absurd d1 e)
  · -- MAKE
    have hds0 : ds (4 * r + s) ≠ 0 := by rw [d1]; exact nI_ne0 (by omega) (by omega)
    have hds1 : ds (4 * r + s) ≠ 1 := fun e => by
      have := (nI_eq (a := 10 + kk) (b := 1) (by omega) (by omega)).mp (d1.symm.trans e)
      omega
    have hds2 : ds (4 * r + s) ≠ 2 := fun e => by
      have := (nI_eq (a := 10 + kk) (b := 2) (by omega) (by omega)).mp (d1.symm.trans e)
      omega
    have hY : ∀ (post : SY → Prop) n, wpY_add (fun _ u => match u with | (rl, bl, md, pc, ht, sa, cn, po, ac, bm, ck, cg, tc, tf, th, tp, ds, wx, wy, wz, nb, kd, fl, hd, my, vs, pr) => ∀ x10, x10 = nI (4 * r + s) + 1 → wY_fire_72 post (nI r) xa xb xc v0 v1 v2 v3 n x10 rl bl md pc ht sa cn po ac bm ck cg tc tf th tp ds wx wy wz nb kd fl hd my vs pr) (rl, bl, md, pc, ht, sa, cn, po, ac, bm, ck, cg, tc, tf, th, tp, ds, wx, wy, wz, nb, kd, fl, hd, my, fr_vq vs v0 v1 v2 v3, pr) (nI kk) (fr_ov fv (ao (3 * (4 * r + s)))) (fr_ov fv (ao (3 * (4 * r + s) + 1))) (fr_ov fv (ao (3 * (4 * r + s) + 2))) →
        wY_fire_72 post (nI r) xa xb xc v0 v1 v2 v3 (n + 1) (nI (4 * r + s)) rl bl md pc ht sa cn po ac bm ck cg tc tf th tp ds wx wy wz nb kd fl hd my vs pr := by
      intro post n hk
      rw [d4, d5, d6, fr_ov_us d8 (hfv vs), fr_ov_us d9 (hfv vs), fr_ov_us d10 (hfv vs)] at hk
      refine fy_72_in hr ea ha4 hs (fun e => absurd e hds0) (fun e => absurd e hds2) (fun _ _ => ⟨fr_us_ix d8, ⟨h16, br_f (by rw [hcl]; exact hds0) ⟨h16, br_f (by rw [hcl]; exact hds1) ⟨h16, br_f (by rw [hcl]; exact hds2) ⟨h16, h16, h16, ?_⟩⟩⟩⟩⟩)
      rw [hcl, d1, show nI (10 + kk) - 10 = nI kk from (pk_sub (b := 10) (by omega)).trans (congrArg nI (by omega))]
      unfold wpY_makeFact
      refine fy_value (fr_us_ix d9) ?_
      exact fy_value (fr_us_ix d10) hk
    rcases fr_fst (fun f => nb f = 0) 6 with ⟨f, hf, e, hm⟩ | hm
    · obtain ⟨ex', mx', va', hSx, hWx⟩ := fx_settle (fc := fc + 1) (md := md + 1) (rl := rl) (bl := bl) (pc := pc) (nb := upd nb f (md + 1)) (kd := upd kd f (nI kk)) (fl := upd (upd (upd fl (3 * f) (fr_ov fv (ao (3 * (4 * r + s))))) (3 * f + 1) (fr_ov fv (ao (3 * (4 * r + s) + 1)))) (3 * f + 2) (fr_ov fv (ao (3 * (4 * r + s) + 2)))) (sa := sa) (po := po) (ng := ng) (tt := tt) (ac := ac) (ha := ha) (bd := bd) (bp := bp) (bf := bf) (ck := ck) (cg := cg) (tc := tc) (tf := tf) (th := th) (tp := tp) (aw := aw) (ak := ak) (ao := ao) (cs := cs) (ex := ex) (mx := mx) (va := va) (ff := ff) (fv := fv) (pr := pr) (fin := fin) hcs h2 h3 h4 h5 hfin hfe
      obtain ⟨hd', my', vs', hSy, hWy⟩ := fy_settle (rl := rl) (bl := bl) (md := md + 1) (pc := pc) (ht := ht) (sa := sa) (cn := cn) (po := po) (ac := ac) (bm := bm) (ck := ck) (cg := cg) (tc := tc) (tf := tf) (th := th) (tp := tp) (ds := ds) (wx := wx) (wy := wy) (wz := wz) (nb := upd nb f (md + 1)) (kd := upd kd f (nI kk)) (fl := upd (upd (upd fl (3 * f) (fr_ov fv (ao (3 * (4 * r + s))))) (3 * f + 1) (fr_ov fv (ao (3 * (4 * r + s) + 1)))) (3 * f + 2) (fr_ov fv (ao (3 * (4 * r + s) + 2)))) (hd := hd) (my := my) (vs := fr_vq vs v0 v1 v2 v3) (pr := pr) (fin := fin) h2 h3 h4 hfin hfe
      refine ⟨fc + 1, md + 1, pc, ht, upd nb f (md + 1), upd kd f (nI kk), upd (upd (upd fl (3 * f) (fr_ov fv (ao (3 * (4 * r + s))))) (3 * f + 1) (fr_ov fv (ao (3 * (4 * r + s) + 1)))) (3 * f + 2) (fr_ov fv (ao (3 * (4 * r + s) + 2))), ex', mx', va', hd', my', vs', pr, (fr_FB_add hFB hb hf e).1, fr_FL_2 hFL (Nat.le_refl _) hSx hSy, ⟨fun e => absurd e hds2, fun _ => rfl⟩, fun post J n hk => ?_, fun post n hk => hY post n (fy_add_some hkk hf e hm hWy (nm_r (nI_1 _) hk))⟩
      refine br_f hgeX ?_
      rw [ez]
      refine fx_perf (w := 3) hz16 (by omega) d2 (fun h => absurd h (by omega)) (fun h => absurd h (by omega)) (fun h => absurd h (by omega)) (fun _ => ?_)
      rw [d3]
      exact fx_store_some hf e hm (hWx _ (nm_r (nI_1 s) hk))
    · obtain ⟨ex', mx', va', hSx, hWx⟩ := fx_settle (fc := fc) (md := md) (rl := rl) (bl := bl) (pc := pc) (nb := nb) (kd := kd) (fl := fl) (sa := sa) (po := po) (ng := ng) (tt := tt) (ac := ac) (ha := ha) (bd := bd) (bp := bp) (bf := bf) (ck := ck) (cg := cg) (tc := tc) (tf := tf) (th := th) (tp := tp) (aw := aw) (ak := ak) (ao := ao) (cs := cs) (ex := ex) (mx := mx) (va := va) (ff := ff) (fv := fv) (pr := pr) (fin := fin) hcs h2 h3 h4 h5 hfin hfe
      refine ⟨fc, md, pc, ht, nb, kd, fl, ex', mx', va', hd, my, fr_vq vs v0 v1 v2 v3, pr, fr_FB_up hFB (by omega), fr_FL_1 hFL hSx, ⟨fun e => absurd e hds2, fun _ => rfl⟩, fun post J n hk => ?_, fun post n hk => hY post n (fy_add_none hm (nm_r (nI_1 _) hk))⟩
      refine br_f hgeX ?_
      rw [ez]
      refine fx_perf (w := 3) hz16 (by omega) d2 (fun h => absurd h (by omega)) (fun h => absurd h (by omega)) (fun h => absurd h (by omega)) (fun _ => ?_)
      exact fx_store_none hm (hWx _ (nm_r (nI_1 s) hk))
end
end
section
section
variable {fc md rl bl pc ht : Int32} {nb kd fl sa po ng tt ac ha bd bp bf ck cg tc tf th tp aw ak ao cs ex mx va ff fv pr cn bm ds wx wy wz hd my vs : Nat → Int32} {R : Nat}
theorem fr_acts_loop {fin r a : Nat} {xa xb xc v0 v1 v2 v3 y1 y2 : Int32} (hcs : fr_CS cs) (hRB : fr_RB R po ng cn ac tt ha bd bp bf bm cg tc tf th tp aw ak ao ds wx wy wz) (hfin : fin ≤ 4) (hfe : (bl = 0 → rl = nI fin) ∧ (¬ bl = 0 → rl - 1 = nI fin))
    (hr : r < 4) (na : fr_n (ac r) = a)
    (hff : ∀ o, o < fr_n (po r) → (∃ g, g < 2 ^ 31 ∧ ff o = nI g) ∧ ff o = (if o = 0 then xa else if o = 1 then xb else xc))
    (hfv : ∀ w : Nat → Int32, ∀ x, x < 4 → bd (4 * r + x) ≠ 0 → fv x = fr_vq w v0 v1 v2 v3 x) :
    ∀ (d s b : Nat) (fc md pc ht : Int32) (nb kd fl ex mx va hd my vs pr : Nat → Int32), s + d = a → fr_FB b fc md nb → b + d + 2 < 2 ^ 31 → fr_FL fin (fr_M nb kd fl po ng ck cg tc tf th tp bp bf) ex mx hd my →
    ∃ (fc' md' pc' ht' : Int32) (nb' kd' fl' ex' mx' va' hd' my' vs' pr' : Nat → Int32),
      fr_FB (b + d) fc' md' nb' ∧ fr_FL fin (fr_M nb' kd' fl' po ng ck cg tc tf th tp bp bf) ex' mx' hd' my' ∧ ((ht' = 1 ∧ ∃ s', s ≤ s' ∧ s' < a ∧ ds (4 * r + s') = 2) ∨ (ht' = ht ∧ ∀ s', s ≤ s' → s' < a → ds (4 * r + s') ≠ 2)) ∧
      (∀ (post : Int32 → SX → Prop) J n, wX_run_57 post J y1 y2 (nI r) (nI a) n (nI a) fc' md' rl bl pc' nb' kd' fl' sa po ng tt ac ha bd bp bf ck cg tc tf th tp aw ak ao cs ex' mx' va' ff fv pr' → wX_run_57 post J y1 y2 (nI r) (nI a) (n + d) (nI s) fc md rl bl pc nb kd fl sa po ng tt ac ha bd bp bf ck cg tc tf th tp aw ak ao cs ex mx va ff fv pr) ∧
      (∀ (post : SY → Prop) n, wY_fire_72 post (nI r) xa xb xc v0 v1 v2 v3 n (nI (4 * r + a)) rl bl md' pc' ht' sa cn po ac bm ck cg tc tf th tp ds wx wy wz nb' kd' fl' hd' my' vs' pr' → wY_fire_72 post (nI r) xa xb xc v0 v1 v2 v3 (n + d) (nI (4 * r + s)) rl bl md pc ht sa cn po ac bm ck cg tc tf th tp ds wx wy wz nb kd fl hd my vs pr) := by
  intro d
  induction d with
  | zero =>
    intro s b fc md pc ht nb kd fl ex mx va hd my vs pr hs hFB hb hFL
    have : s = a := by omega
    subst this
    exact ⟨fc, md, pc, ht, nb, kd, fl, ex, mx, va, hd, my, vs, pr, hFB, hFL, Or.inr ⟨rfl, fun s' h1 h2 => absurd h1 (by omega)⟩, fun post J n h => h, fun post n h => h⟩
  | succ d ih =>
    intro s b fc md pc ht nb kd fl ex mx va hd my vs pr hs hFB hb hFL
    obtain ⟨fc1, md1, pc1, ht1, nb1, kd1, fl1, ex1, mx1, va1, hd1, my1, vs1, pr1, a1, a2, a3, a4, a5⟩ := fr_action (fc := fc) (md := md) (rl := rl) (bl := bl) (pc := pc) (nb := nb) (kd := kd) (fl := fl) (sa := sa) (po := po) (ng := ng) (tt := tt) (ac := ac) (ha := ha) (bd := bd) (bp := bp) (bf := bf) (ck := ck) (cg := cg) (tc := tc) (tf := tf) (th := th) (tp := tp) (aw := aw) (ak := ak) (ao := ao) (cs := cs) (ex := ex) (mx := mx) (va := va) (ff := ff) (fv := fv) (pr := pr) (ht := ht) (cn := cn) (bm := bm) (ds := ds) (wx := wx) (wy := wy) (wz := wz) (hd := hd) (my := my) (vs := vs) (s := s) (y1 := y1) (y2 := y2) hcs hRB hfin hfe hr na (by omega) hff hfv hFB (by omega) hFL
    obtain ⟨fc2, md2, pc2, ht2, nb2, kd2, fl2, ex2, mx2, va2, hd2, my2, vs2, pr2, b1, b2, b3, b4, b5⟩ := ih (s + 1) (b + 1) fc1 md1 pc1 ht1 nb1 kd1 fl1 ex1 mx1 va1 hd1 my1 vs1 pr1 (by omega) a1 (by omega) a2
    refine ⟨fc2, md2, pc2, ht2, nb2, kd2, fl2, ex2, mx2, va2, hd2, my2, vs2, pr2, fr_FB_up b1 (by omega), b2, ?_, fun post J n h => a4 post J (n + d) (b4 post J n h), fun post n h => a5 post (n + d) (b5 post n h)⟩
    by_cases e : ds (4 * r + s) = 2
    · rcases b3 with ⟨c1, _⟩ | ⟨c1, _⟩
      · exact Or.inl ⟨c1, s, Nat.le_refl s, by omega, e⟩
      · exact Or.inl ⟨c1.trans (a3.1 e), s, Nat.le_refl s, by omega, e⟩
    · rcases b3 with ⟨c1, s', c2, c3, c4⟩ | ⟨c1, c2⟩
      · exact Or.inl ⟨c1, s', by omega, c3, c4⟩
      · refine Or.inr ⟨c1.trans (a3.2 e), fun s' h1 h2 => ?_⟩
        by_cases es : s' = s
        · rw [es]; exact e
        · exact c2 s' (by omega) h2
/-! one firing on both sides -/
theorem fr_fire {b fin c : Nat} {y1 y2 : Int32} (hcs : fr_CS cs) (hRB : fr_RB R po ng cn ac tt ha bd bp bf bm cg tc tf th tp aw ak ao ds wx wy wz) (hfin : fin ≤ 4) (hfe : (bl = 0 → rl = nI fin) ∧ (¬ bl = 0 → rl - 1 = nI fin))
    (hc : c < 864) (hFB : fr_FB b fc md nb) (hb : b + 6 < 2 ^ 31) (hFL : fr_FL fin (fr_M nb kd fl po ng ck cg tc tf th tp bp bf) ex mx hd my) (h0 : hd (fr_sg c) ≠ 0) :
    ∃ (fc' md' pc' ht' : Int32) (nb' kd' fl' ex' mx' va' hd' my' vs' pr' ff' fv' : Nat → Int32),
      fr_FB (b + 4) fc' md' nb' ∧ fr_FL fin (fr_M nb' kd' fl' po ng ck cg tc tf th tp bp bf) ex' mx' hd' my' ∧ ((ht' = 1 ∧ ha (c / 216) ≠ 0) ∨ (ht' = ht ∧ ha (c / 216) = 0)) ∧
      (∀ P : SX → Prop, P (fc, md, rl, bl, pc, nb, kd, fl, sa, po, ng, tt, ac, ha, bd, bp, bf, ck, cg, tc, tf, th, tp, aw, ak, ao, cs, ex, upd mx c 1, va, ff', fv', pr) → wpX_beginFiring P (fc, md, rl, bl, pc, nb, kd, fl, sa, po, ng, tt, ac, ha, bd, bp, bf, ck, cg, tc, tf, th, tp, aw, ak, ao, cs, ex, mx, va, ff, fv, pr) (nI c)) ∧
      (∀ (post : Int32 → SX → Prop) J n, wX_run_57 post J y1 y2 (nI (c / 216)) (ac (c / 216)) n (ac (c / 216)) fc' md' rl bl pc' nb' kd' fl' sa po ng tt ac ha bd bp bf ck cg tc tf th tp aw ak ao cs ex' mx' va' ff' fv' pr' → ∃ m, wX_run_57 post J y1 y2 (nI (c / 216)) (ac (c / 216)) m 0 fc md rl bl pc nb kd fl sa po ng tt ac ha bd bp bf ck cg tc tf th tp aw ak ao cs ex (upd mx c 1) va ff' fv' pr) ∧
      (∀ post : SY → Prop, post (rl, bl, md', pc', ht', sa, cn, po, ac, bm, ck, cg, tc, tf, th, tp, ds, wx, wy, wz, nb', kd', fl', hd', my', vs', pr') → wpY_fire post (rl, bl, md, pc, ht, sa, cn, po, ac, bm, ck, cg, tc, tf, th, tp, ds, wx, wy, wz, nb, kd, fl, hd, upd my (fr_sg c) 1, vs, pr) (nI (fr_sg c))) := by
  have hRB' := hRB
  obtain ⟨h2, h3, h4, h5, h6, h7⟩ := hRB'
  have hr : c / 216 < 4 := by omega
  have hy8 := fr_sg_864 hc
  have hyr := fr_sg_r c
  obtain ⟨q1, q2, q3, q4, q5, q6⟩ := h2 _ hr
  have hp : ∀ r, r < 4 → fr_Lt (po r) 4 := fun r hr => (h2 r hr).1
  have hn := fr_FB_n hFB
  have h31 : ∀ f, f < 6 → fr_n (nb f) < 2 ^ 31 := by
    obtain ⟨⟨m, g1, g2, g3⟩, _, _⟩ := hFB
    intro f hf
    have := (g3 f hf).1
    omega
  obtain ⟨a, ha5, ea, na⟩ := fr_Lt_ex q4
  have hM : fr_M nb kd fl po ng ck cg tc tf th tp bp bf (fr_sg c) := by
    obtain ⟨_, _, c1, d1⟩ := hFL _ hy8
    by_cases hl : fr_sg c < 216 * fin
    · by_cases hM : fr_M nb kd fl po ng ck cg tc tf th tp bp bf (fr_sg c)
      · exact hM
      · rw [(c1 hl).1, fr_bf hM] at h0
        exact absurd rfl h0
    · exact absurd (d1 (by omega)) h0
  obtain ⟨ff', fv', hf1, hf2, hWb⟩ := fx_begin (fc := fc) (md := md) (rl := rl) (bl := bl) (pc := pc) (nb := nb) (kd := kd) (fl := fl) (sa := sa) (po := po) (ng := ng) (tt := tt) (ac := ac) (ha := ha) (bd := bd) (bp := bp) (bf := bf) (ck := ck) (cg := cg) (tc := tc) (tf := tf) (th := th) (tp := tp) (aw := aw) (ak := ak) (ao := ao) (cs := cs) (ex := ex) (mx := mx) (va := va) (ff := ff) (fv := fv) (pr := pr) hcs hp hn h5 hc
  obtain ⟨w, hw, hWm⟩ := fy_match (rl := rl) (bl := bl) (md := md) (pc := pc) (ht := ht) (sa := sa) (cn := cn) (po := po) (ac := ac) (bm := bm) (ck := ck) (cg := cg) (tc := tc) (tf := tf) (th := th) (tp := tp) (ds := ds) (wx := wx) (wy := wy) (wz := wz) (nb := nb) (kd := kd) (fl := fl) (hd := hd) (my := upd my (fr_sg c) 1) (vs := vs) (pr := pr) h2 h3 h4 hy8
  have hwv : ∀ x, x < 4 → bd (4 * (c / 216) + x) ≠ 0 → w x = fr_val bp bf fl (fr_sg c) x := fun x hx hbd => hw hM x hx (by rw [hyr]; exact (((h5 _ hr).2.2 x hx).2.2 hbd).1)
  have hff : ∀ o, o < fr_n (po (c / 216)) → (∃ g, g < 2 ^ 31 ∧ ff' o = nI g) ∧ ff' o = (if o = 0 then nI (fr_gv nb po (fr_sg c) 0) else if o = 1 then nI (fr_gv nb po (fr_sg c) 1) else nI (fr_gv nb po (fr_sg c) 2)) := by
    intro o ho
    have := q1.1
    have ho3 : o < 3 := by omega
    refine ⟨⟨_, fr_gv_lt h31 (by decide), hf1 o ho3⟩, ?_⟩
    rw [hf1 o ho3]
    match o, ho3 with
    | 0, _ => rfl
    | 1, _ => rfl
    | 2, _ => rfl
  have hfv : ∀ w' : Nat → Int32, ∀ x, x < 4 → bd (4 * (c / 216) + x) ≠ 0 → fv' x = fr_vq w' (w 0) (w 1) (w 2) (w 3) x := by
    intro w' x hx hbd
    rw [hf2 x hx hbd, ← hwv x hx hbd]
    match x, hx with
    | 0, _ => rfl
    | 1, _ => rfl
    | 2, _ => rfl
    | 3, _ => rfl
  obtain ⟨fc2, md2, pc2, ht2, nb2, kd2, fl2, ex2, mx2, va2, hd2, my2, vs2, pr2, b1, b2, b3, b4, b5⟩ := fr_acts_loop (fin := fin) (r := c / 216) (a := a) (xa := nI (fr_gv nb po (fr_sg c) 0)) (xb := nI (fr_gv nb po (fr_sg c) 1)) (xc := nI (fr_gv nb po (fr_sg c) 2)) (v0 := w 0) (v1 := w 1) (v2 := w 2) (v3 := w 3) (y1 := y1) (y2 := y2) (sa := sa) (ff := ff') (fv := fv') (rl := rl) (bl := bl) (ck := ck) (cs := cs)
    hcs hRB hfin hfe hr na hff hfv a 0 b fc md pc ht nb kd fl ex (upd mx c 1) va hd (upd my (fr_sg c) 1) w pr (by omega) hFB (by omega) (fr_FL_m hFL hc h0)
  refine ⟨fc2, md2, pc2, ht2, nb2, kd2, fl2, ex2, mx2, va2, hd2, my2, vs2, pr2, ff', fv', fr_FB_up b1 (by omega), b2, ?_, hWb, fun post J n h => ?_, fun post h => ?_⟩
  · rcases b3 with ⟨c1, s', c2, c3, c4⟩ | ⟨c1, c2⟩
    · exact Or.inl ⟨c1, (h7 _ hr).mpr ⟨s', by omega, c4⟩⟩
    · refine Or.inr ⟨c1, Classical.byContradiction (fun hh => ?_)⟩
      obtain ⟨s', d1, d2⟩ := (h7 _ hr).mp hh
      exact c2 s' (by omega) (by omega) d2
  · rw [ea] at h ⊢
    exact ⟨n + a, b4 post J n h⟩
  · refine ⟨by decide, nm_r (e' := nI (c / 216)) (by rw [fr_d216 (by omega), hyr]) ?_⟩
    refine fy_number (j := 0) hp hn hy8 (by omega) ?_
    refine fy_number (j := 1) hp hn hy8 (by omega) ?_
    refine fy_number (j := 2) hp hn hy8 (by omega) ?_
    refine hWm _ (nm_e (nm_e (nm_e (nm_e (nm_r (e' := nI (4 * (c / 216))) (fr_4m _) ⟨1 + a, b5 post 1 ⟨vp_in_nI hr (by decide), br_t ?_ h⟩⟩)))))
    rw [nI_clamp (by omega), ea, fr_4m, nI_add]
    exact Int32.le_refl _
/-! ===== run ===== -/
theorem fr_runXY {fin N : Nat} (hcs : fr_CS cs) (hRB : fr_RB R po ng cn ac tt ha bd bp bf bm cg tc tf th tp aw ak ao ds wx wy wz) (hfin : fin ≤ 4) (hfe : (bl = 0 → rl = nI fin) ∧ (¬ bl = 0 → rl - 1 = nI fin)) (hN : N ≤ 20) :
    ∀ (d i b : Nat) (fc md pc ht : Int32) (nb kd fl ex mx va ff fv hd my vs pr : Nat → Int32), i + d = N → fr_FB b fc md nb → b + 4 * d + 2 < 2 ^ 31 → fr_FL fin (fr_M nb kd fl po ng ck cg tc tf th tp bp bf) ex mx hd my → ht = 0 →
    ∃ (res fc' md' pc' ht' : Int32) (nb' kd' fl' ex' mx' va' ff' fv' hd' my' vs' pr' : Nat → Int32),
      fr_FB (b + 4 * d) fc' md' nb' ∧ fr_FL fin (fr_M nb' kd' fl' po ng ck cg tc tf th tp bp bf) ex' mx' hd' my' ∧
      (∀ post : Int32 → SX → Prop, post res (fc', md', rl, bl, pc', nb', kd', fl', sa, po, ng, tt, ac, ha, bd, bp, bf, ck, cg, tc, tf, th, tp, aw, ak, ao, cs, ex', mx', va', ff', fv', pr') → wX_run_15 post (nI N) (d + 1) (nI i) fc md rl bl pc nb kd fl sa po ng tt ac ha bd bp bf ck cg tc tf th tp aw ak ao cs ex mx va ff fv pr) ∧
      (∀ post : Int32 → SY → Prop, post res (rl, bl, md', pc', ht', sa, cn, po, ac, bm, ck, cg, tc, tf, th, tp, ds, wx, wy, wz, nb', kd', fl', hd', my', vs', pr') → wY_run_20 post (nI N) (d + 1) (nI i) rl bl md pc ht sa cn po ac bm ck cg tc tf th tp ds wx wy wz nb kd fl hd my vs pr) := by
  intro d
  induction d with
  | zero =>
    intro i b fc md pc ht nb kd fl ex mx va ff fv hd my vs pr hi hFB hb hFL ht0
    have : i = N := by omega
    subst this
    exact ⟨nI i, fc, md, pc, ht, nb, kd, fl, ex, mx, va, ff, fv, hd, my, vs, pr, hFB, hFL, fun post h => br_t (Int32.le_refl _) h, fun post h => br_t (Int32.le_refl _) h⟩
  | succ d ih =>
    intro i b fc md pc ht nb kd fl ex mx va ff fv hd my vs pr hi hFB hb hFL ht0
    have hge : ¬ nI N ≤ nI i := nI_ge (by omega) (by omega)
    obtain ⟨r, s, hrs, hX, hY⟩ := fr_nextXY (fc := fc) (md := md) (rl := rl) (bl := bl) (pc := pc) (nb := nb) (kd := kd) (fl := fl) (sa := sa) (po := po) (ng := ng) (tt := tt) (ac := ac) (ha := ha) (bd := bd) (bp := bp) (bf := bf) (ck := ck) (cg := cg) (tc := tc) (tf := tf) (th := th) (tp := tp) (aw := aw) (ak := ak) (ao := ao) (cs := cs) (ex := ex) (mx := mx) (va := va) (ff := ff) (fv := fv) (pr := pr) (ht := ht) (cn := cn) (bm := bm) (ds := ds) (wx := wx) (wy := wy) (wz := wz) (hd := hd) (my := my) (vs := vs) (p := -1) (q := -1) hcs hRB.1 hRB.2.1 hFB (by omega) hFL (Or.inl ⟨rfl, rfl⟩)
    rcases hrs with ⟨rfl, rfl⟩ | ⟨c, hc, rfl, rfl, he, hm⟩
    · exact ⟨nI i, fc, md, pc, ht, nb, kd, fl, ex, mx, va, ff, fv, hd, my, vs, pr, fr_FB_up hFB (by omega), hFL, fun post h => br_f hge (hX _ (br_t rfl h)), fun post h => br_f hge (br_t ht0 (hY _ (br_f (by decide) h)))⟩
    · have hr : c / 216 < 4 := by omega
      have hy8 := fr_sg_864 hc
      have hinr : vp_in (nI (c / 216)) 4 := vp_in_nI hr (by decide)
      have hclr : (nI (c / 216)).toNatClampNeg = c / 216 := nI_clamp (by omega)
      have hcly : (nI (fr_sg c)).toNatClampNeg = fr_sg c := nI_clamp (by omega)
      obtain ⟨fc1, md1, pc1, ht1, nb1, kd1, fl1, ex1, mx1, va1, hd1, my1, vs1, pr1, ff1, fv1, a1, a2, a3, a4, a5, a6⟩ := fr_fire (fc := fc) (md := md) (rl := rl) (bl := bl) (pc := pc) (nb := nb) (kd := kd) (fl := fl) (sa := sa) (po := po) (ng := ng) (tt := tt) (ac := ac) (ha := ha) (bd := bd) (bp := bp) (bf := bf) (ck := ck) (cg := cg) (tc := tc) (tf := tf) (th := th) (tp := tp) (aw := aw) (ak := ak) (ao := ao) (cs := cs) (ex := ex) (mx := mx) (va := va) (ff := ff) (fv := fv) (pr := pr) (ht := ht) (cn := cn) (bm := bm) (ds := ds) (wx := wx) (wy := wy) (wz := wz) (hd := hd) (my := my) (vs := vs) (y1 := nI N) (y2 := nI i) hcs hRB hfin hfe hc hFB (by omega) hFL he
      have q4 := (hRB.1 _ hr).2.2.2.1
      have hXs : ∀ (post : Int32 → SX → Prop) n, (vp_in (nI (c / 216)) 4 ∧ ((ha (nI (c / 216)).toNatClampNeg = 0 → ∀ x2, x2 = nI i + 1 → wX_run_15 post (nI N) n x2 fc1 md1 rl bl pc1 nb1 kd1 fl1 sa po ng tt ac ha bd bp bf ck cg tc tf th tp aw ak ao cs ex1 mx1 va1 ff1 fv1 pr1) ∧ (¬ ha (nI (c / 216)).toNatClampNeg = 0 → post (nI i + 1) (fc1, md1, rl, bl, pc1, nb1, kd1, fl1, sa, po, ng, tt, ac, ha, bd, bp, bf, ck, cg, tc, tf, th, tp, aw, ak, ao, cs, ex1, mx1, va1, ff1, fv1, pr1)))) →
          wX_run_15 post (nI N) (n + 1) (nI i) fc md rl bl pc nb kd fl sa po ng tt ac ha bd bp bf ck cg tc tf th tp aw ak ao cs ex mx va ff fv pr := by
        intro post n h
        refine br_f hge (hX _ (br_f (fr_m1 (by omega)) ⟨by decide, nm_r (fr_d216 (by omega)) ⟨hinr, nm_r (e' := ac (c / 216)) (by rw [hclr]) (a4 _ (a5 post _ 1 (br_t (Int32.le_refl _) h)))⟩⟩))
      have hYs : ∀ (post : Int32 → SY → Prop) n, wY_run_20 post (nI N) n (nI (i + 1)) rl bl md1 pc1 ht1 sa cn po ac bm ck cg tc tf th tp ds wx wy wz nb1 kd1 fl1 hd1 my1 vs1 pr1 → wY_run_20 post (nI N) (n + 1) (nI i) rl bl md pc ht sa cn po ac bm ck cg tc tf th tp ds wx wy wz nb kd fl hd my vs pr := by
        intro post n h
        exact br_f hge (br_t ht0 (hY _ (br_t (nI_pos' (by omega)) ⟨vp_in_nI hy8 (by decide), nm_r (e' := upd my (fr_sg c) 1) (by rw [hcly, fr_b1]) (nm_r (nI_1 i) (a6 _ h))⟩)))
      rcases a3 with ⟨g1, g2⟩ | ⟨g1, g2⟩
      · refine ⟨nI i + 1, fc1, md1, pc1, ht1, nb1, kd1, fl1, ex1, mx1, va1, ff1, fv1, hd1, my1, vs1, pr1, fr_FB_up a1 (by omega), a2, fun post h => hXs post _ ⟨hinr, br_f (by rw [hclr]; exact g2) h⟩, fun post h => hYs post _ ?_⟩
        rw [nI_1] at h
        exact br_c (fun _ => h) (fun _ => br_f (by rw [g1]; decide) h)
      · obtain ⟨res, fc2, md2, pc2, ht2, nb2, kd2, fl2, ex2, mx2, va2, ff2, fv2, hd2, my2, vs2, pr2, b1, b2, b3, b4⟩ := ih (i + 1) (b + 4) fc1 md1 pc1 ht1 nb1 kd1 fl1 ex1 mx1 va1 ff1 fv1 hd1 my1 vs1 pr1 (by omega) a1 (by omega) a2 (g1.trans ht0)
        exact ⟨res, fc2, md2, pc2, ht2, nb2, kd2, fl2, ex2, mx2, va2, ff2, fv2, hd2, my2, vs2, pr2, fr_FB_up b1 (by omega), b2, fun post h => hXs post _ ⟨hinr, br_t (by rw [hclr]; exact g2) (nm_r (nI_1 i) (b3 post h))⟩, fun post h => hYs post _ (b4 post h)⟩
end
end
section
theorem i_vc_run {k : Nat} {u : SX} {v : SY} (I : i_Rel k u v) (hk : k + 5 ≤ 2560) (v1 : Int32) : wpX_run (fun r u' => wpY_run (fun r' v' => r' = r ∧ i_Rel (k + 5) u' v') v v1) u v1 := by
  have up := i_up I
  obtain ⟨R, B, fc, md, rl, bl, pc, ht, nb, kd, fl, sa, po, ng, tt, ac, ha, bd, bp, bf, ck, cg, tc, tf, th, tp, aw, ak, ao, cs, ex, mx, va, ff, fv, pr, cn, bm, ds, wx, wy, wz, hd, my, vs, rfl, rfl, h1, rfl, h3, rfl, h5, h6, h7, h8, h9⟩ := I
  by_cases n1 : v1 < 1
  · exact br_t n1 (br_t n1 ⟨rfl, up⟩)
  · by_cases n2 : v1 ≤ 20
    · have n0 : ¬ v1 < 0 := fun h => n1 (by
        rw [Int32.lt_iff_toInt_lt] at h ⊢
        have e0 : (0 : Int32).toInt = 0 := by decide
        have e1 : (1 : Int32).toInt = 1 := by decide
        rw [e0] at h
        rw [e1]
        omega)
      obtain ⟨N, hN, rfl⟩ := fr_kind3 (M := 20) (n := 20) (by decide) n0 n2
      obtain ⟨res, fc2, md2, pc2, ht2, nb2, kd2, fl2, ex2, mx2, va2, ff2, fv2, hd2, my2, vs2, pr2, b1, b2, b3, b4⟩ := fr_runXY (fin := R - B) (N := N) (rl := nI R) (bl := nI B) (sa := sa) (ck := ck) (cs := cs) h7 h6 (by omega) (fr_fin h3 h5) (by omega) N 0 (16 * k) fc md pc 0 nb kd fl ex mx va ff fv hd my vs pr (by omega) h8 (by omega) h9 rfl
      refine br_f n1 (br_t n2 ⟨N + 1, b3 _ (br_f n1 (br_t n2 ⟨N + 1, b4 _ ⟨rfl, ?_⟩⟩))⟩)
      exact fr_mk ⟨h1, rfl, h3, rfl, h5, h6, h7, fr_FB_up b1 (by omega), b2⟩
    · exact br_f n1 (br_f n2 (br_f n1 (br_f n2 ⟨rfl, up⟩)))
end
