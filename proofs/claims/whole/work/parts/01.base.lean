theorem pk_us {f : Nat → Int32} {k : Nat} {x : Int32} : upd f k x k = x := if_pos rfl
theorem pk_un {f : Nat → Int32} {k j : Nat} {x : Int32} (h : j ≠ k) : upd f k x j = f j := if_neg h
theorem pk_sub {a b : Nat} (h : b ≤ a) : nI a - nI b = nI (a - b) := by
  obtain ⟨c, rfl⟩ : ∃ c, a = c + b := ⟨a - b, by omega⟩
  rw [← nI_add, Int32.add_sub_cancel, Nat.add_sub_cancel]
theorem pk_m1 (n : Nat) : nI (n + 1) + (-1) = nI n := by
  rw [← nI_1, Int32.add_assoc, show (1 : Int32) + (-1) = 0 from rfl, Int32.add_zero]
theorem pk_mul (a b : Nat) : nI a * nI b = nI (a * b) := (Int32.ofNat_mul a b).symm
theorem pk_div {a d : Nat} (ha : a < 2 ^ 31) (h0 : 0 < d) (hd : d < 2 ^ 31) : nI a / nI d = nI (a / d) := by
  apply Int32.toInt_inj.mp
  rw [lg_idiv_nonneg (by rw [nI_toInt ha]; omega) (by rw [nI_toInt hd]; omega), nI_toInt ha, nI_toInt hd, nI_toInt (Nat.lt_of_le_of_lt (Nat.div_le_self a d) ha)]
  first | rfl | exact (Int.natCast_ediv _ _).symm
theorem pk_rem {a d : Nat} (ha : a < 2 ^ 31) (h0 : 0 < d) (hd : d < 2 ^ 31) : nI a - nI a / nI d * nI d = nI (a % d) := by
  rw [pk_div ha h0 hd, pk_mul, pk_sub (Nat.div_mul_le_self a d)]
  exact congrArg nI (by have := Nat.div_add_mod' a d; omega)
theorem pk_ix (x : Int32) {n : Nat} (hn : n < 2 ^ 31) : x < 0 ∨ nI n ≤ x ∨ ∃ j : Nat, j < n ∧ x = nI j := by
  by_cases h : x < 0
  · exact Or.inl h
  · obtain ⟨j, hj, rfl⟩ := nI_of h
    by_cases h2 : j < n
    · exact Or.inr (Or.inr ⟨j, h2, rfl⟩)
    · exact Or.inr (Or.inl (nI_le (by omega) hj))
theorem pk_le {x y : Int32} {A B : Prop} (a b : Nat) (f : a ≤ b → A) (g : b < a → B) (hx : x = nI a := by rfl) (hy : y = nI b := by rfl) (ha : a < 2 ^ 31 := by omega) (hb : b < 2 ^ 31 := by omega) : (x ≤ y → A) ∧ (¬ x ≤ y → B) := by
  subst hx hy
  rw [nI_leI ha hb]
  exact ⟨f, fun z => g (by omega)⟩
theorem pk_lt {x y : Int32} {A B : Prop} (a b : Nat) (f : a < b → A) (g : b ≤ a → B) (hx : x = nI a := by rfl) (hy : y = nI b := by rfl) (ha : a < 2 ^ 31 := by omega) (hb : b < 2 ^ 31 := by omega) : (x < y → A) ∧ (¬ x < y → B) := by
  subst hx hy
  rw [nI_ltI ha hb]
  exact ⟨f, fun z => g (by omega)⟩
theorem pk_eq {x y : Int32} {A B : Prop} (a b : Nat) (f : a = b → A) (g : a ≠ b → B) (hx : x = nI a := by rfl) (hy : y = nI b := by rfl) (ha : a < 2 ^ 31 := by omega) (hb : b < 2 ^ 31 := by omega) : (x = y → A) ∧ (¬ x = y → B) := by
  subst hx hy
  rw [nI_eq ha hb]
  exact ⟨f, g⟩
theorem pk_in {x : Int32} (n N : Nat) (h : n < N) (hx : x = nI n := by rfl) (hN : N < 2 ^ 31 := by omega) : vp_in x N := by
  subst hx
  exact vp_in_nI h hN
theorem pk_cl {x : Int32} (n : Nat) (hx : x = nI n := by rfl) (h : n < 2 ^ 31 := by omega) : x.toNatClampNeg = n := by
  subst hx
  exact nI_clamp h
theorem pk_tn {n : Nat} (h : n < 2 ^ 32) : (nI n).toBitVec.toNat = n := Nat.mod_eq_of_lt h
theorem pk_and (x : Int32) {m : Int32} (k : Nat) (hm : m.toBitVec.toNat = 2 ^ k - 1) : x &&& m = nI (x.toBitVec.toNat % 2 ^ k) := by
  apply Int32.toBitVec_inj.mp
  apply BitVec.eq_of_toNat_eq
  rw [Int32.toBitVec_and, BitVec.toNat_and, hm, Nat.and_two_pow_sub_one_eq_mod]
  show _ = (BitVec.ofNat 32 _).toNat
  rw [BitVec.toNat_ofNat]
  exact (Nat.mod_eq_of_lt (Nat.lt_of_le_of_lt (Nat.mod_le _ _) x.toBitVec.isLt)).symm
theorem pk_andN {n : Nat} (h : n < 2 ^ 32) {m : Int32} (k : Nat) (hm : m.toBitVec.toNat = 2 ^ k - 1) : nI n &&& m = nI (n % 2 ^ k) := by
  rw [pk_and _ k hm, pk_tn h]
theorem pk_andE (x : Int32) {m : Int32} (k : Nat) (hm : m.toBitVec.toNat = 2 ^ k - 1) : ∃ j : Nat, j < 2 ^ k ∧ x &&& m = nI j := ⟨_, Nat.mod_lt _ (Nat.two_pow_pos k), pk_and x k hm⟩
theorem pk_andIn (x : Int32) {m : Int32} (k : Nat) (hm : m.toBitVec.toNat = 2 ^ k - 1) (hk : k ≤ 30) : vp_in (x &&& m) (2 ^ k) := by
  obtain ⟨j, hj, e⟩ := pk_andE x k hm
  rw [e]
  exact vp_in_nI hj (Nat.lt_of_le_of_lt (Nat.pow_le_pow_right (by decide) hk) (by decide))
theorem pk_shl (a s : Int32) (k : Nat) (hs : (s.toBitVec.smod 32).toNat = k) : (a <<< s).toBitVec.toNat = a.toBitVec.toNat * 2 ^ k % 2 ^ 32 := by
  show (a.toBitVec <<< (s.toBitVec.smod 32).toNat).toNat = _
  rw [hs, BitVec.toNat_shiftLeft, Nat.shiftLeft_eq]
theorem pk_shlN {n : Nat} (s : Int32) (k : Nat) (hs : (s.toBitVec.smod 32).toNat = k) (h : n * 2 ^ k < 2 ^ 32) : nI n <<< s = nI (n * 2 ^ k) := by
  apply Int32.toBitVec_inj.mp
  apply BitVec.eq_of_toNat_eq
  have hn : n < 2 ^ 32 := Nat.lt_of_le_of_lt (Nat.le_mul_of_pos_right n (Nat.two_pow_pos k)) h
  rw [pk_shl _ _ k hs, pk_tn hn, pk_tn h, Nat.mod_eq_of_lt h]
theorem pk_shr (a s : Int32) (k : Nat) (hs : (s.toBitVec.smod 32).toNat = k) : (a >>> s).toInt = a.toInt >>> k := by
  show (a.toBitVec.sshiftRight (s.toBitVec.smod 32).toNat).toInt = _
  rw [hs, BitVec.toInt_sshiftRight]
  rfl
theorem pk_shrN {n : Nat} (h : n < 2 ^ 31) (s : Int32) (k : Nat) (hs : (s.toBitVec.smod 32).toNat = k) : nI n >>> s = nI (n / 2 ^ k) := by
  apply Int32.toInt_inj.mp
  have h2 : n / 2 ^ k ≤ n := Nat.div_le_self _ _
  rw [pk_shr _ _ k hs, nI_toInt h, nI_toInt (by omega), Int.shiftRight_eq_div_pow]
  rfl
theorem pk_loop {σ : Type} (W : Nat → Nat → σ → Prop) (I : Nat → σ → Prop) (e i0 : Nat) (s : σ) (hi : i0 ≤ e) (h0 : I i0 s) (hx : ∀ n s, I e s → W (n + 1) e s)
    (hs : ∀ n i s, i < e → I i s → (∀ s', I (i + 1) s' → W n (i + 1) s') → W (n + 1) i s) : ∃ n, W n i0 s :=
  ⟨e + 1, loop_i W I e hx hs (e + 1) i0 s hi (by omega) h0⟩
/-! ===== flags, scans ===== -/
noncomputable def fr_b (p : Prop) : Int32 := @ite Int32 p (Classical.propDecidable p) 1 0
theorem fr_bt {p : Prop} (h : p) : fr_b p = 1 := by unfold fr_b; exact if_pos h
theorem fr_bf {p : Prop} (h : ¬ p) : fr_b p = 0 := by unfold fr_b; exact if_neg h
theorem fr_bi {p q : Prop} (h : p ↔ q) : fr_b p = fr_b q := congrArg fr_b (propext h)
theorem fr_b0 {p : Prop} : fr_b p = 0 ↔ ¬ p := by
  by_cases h : p
  · rw [fr_bt h]; exact ⟨fun e => absurd e (by decide), fun e => absurd h e⟩
  · rw [fr_bf h]; exact ⟨fun _ => h, fun _ => rfl⟩
theorem fr_b01 (p : Prop) : fr_b p = 0 ∨ fr_b p = 1 := by
  by_cases h : p
  · exact Or.inr (fr_bt h)
  · exact Or.inl (fr_bf h)
theorem fr_bn (p : Prop) : narrow .boolean (.int (fr_b p)) = .int (fr_b p) := by
  rcases fr_b01 p with h | h <;> rw [h] <;> rfl
theorem fr_bv (p : Prop) : vp_nar .boolean (fr_b p) = fr_b p := by
  unfold vp_nar; rw [fr_bn]
theorem fr_n8 {x : Nat} (h : x < 128) : vp_nar .byte (nI x) = nI x := by
  rw [vp_nar_byte]
  exact (by decide +kernel : ∀ x, x < 128 → (nI x).toInt8.toInt32 = nI x) x h
theorem fr_all (W : Nat → Nat → Prop) (C : Nat → Prop) (P : Int32 → Prop) (e : Nat)
    (hx : P 1 → ∀ n, W (n + 1) e) (hf : ∀ n i, i < e → ¬ C i → P 0 → W (n + 1) i)
    (hs : ∀ n i, i < e → C i → W n (i + 1) → W (n + 1) i)
    (h : P (fr_b (∀ i, i < e → C i))) : W (e + 1) 0 := by
  have key : ∀ d i, i + d = e → P (fr_b (∀ j, i ≤ j → j < e → C j)) → W (d + 1) i := by
    intro d
    induction d with
    | zero =>
      intro i hi hp
      rw [fr_bt (fun j h1 h2 => by omega)] at hp
      have : i = e := by omega
      rw [this]
      exact hx hp 0
    | succ d ih =>
      intro i hi hp
      by_cases hc : C i
      · refine hs (d + 1) i (by omega) hc (ih (i + 1) (by omega) ?_)
        rw [fr_bi (q := ∀ j, i + 1 ≤ j → j < e → C j)] at hp
        · exact hp
        · constructor
          · intro H j h1 h2
            exact H j (by omega) h2
          · intro H j h1 h2
            by_cases hj : j = i
            · rw [hj]; exact hc
            · exact H j (by omega) h2
      · refine hf (d + 1) i (by omega) hc ?_
        rw [fr_bf (fun H => hc (H i (Nat.le_refl i) (by omega)))] at hp
        exact hp
  refine key e 0 (by omega) ?_
  rw [fr_bi (q := ∀ i, i < e → C i)]
  · exact h
  · exact ⟨fun H j h2 => H j (Nat.zero_le j) h2, fun H j _ h2 => H j h2⟩
theorem fr_any (W : Nat → Nat → Prop) (C : Nat → Prop) (P : Int32 → Prop) (e : Nat)
    (hx : P 0 → ∀ n, W (n + 1) e) (hf : ∀ n i, i < e → C i → P 1 → W (n + 1) i)
    (hs : ∀ n i, i < e → ¬ C i → W n (i + 1) → W (n + 1) i)
    (h : P (fr_b (∃ i, i < e ∧ C i))) : W (e + 1) 0 := by
  have key : ∀ d i, i + d = e → P (fr_b (∃ j, i ≤ j ∧ j < e ∧ C j)) → W (d + 1) i := by
    intro d
    induction d with
    | zero =>
      intro i hi hp
      rw [fr_bf (fun ⟨j, h1, h2, _⟩ => by omega)] at hp
      have : i = e := by omega
      rw [this]
      exact hx hp 0
    | succ d ih =>
      intro i hi hp
      by_cases hc : C i
      · refine hf (d + 1) i (by omega) hc ?_
        rw [fr_bt ⟨i, Nat.le_refl i, by omega, hc⟩] at hp
        exact hp
      · refine hs (d + 1) i (by omega) hc (ih (i + 1) (by omega) ?_)
        rw [fr_bi (q := ∃ j, i + 1 ≤ j ∧ j < e ∧ C j)] at hp
        · exact hp
        · constructor
          · intro ⟨j, h1, h2, h3⟩
            refine ⟨j, ?_, h2, h3⟩
            by_cases hj : j = i
            · rw [hj] at h3; exact absurd h3 hc
            · omega
          · intro ⟨j, h1, h2, h3⟩
            exact ⟨j, by omega, h2, h3⟩
  refine key e 0 (by omega) ?_
  rw [fr_bi (q := ∃ i, i < e ∧ C i)]
  · exact h
  · exact ⟨fun ⟨j, _, h2, h3⟩ => ⟨j, h2, h3⟩, fun ⟨j, h2, h3⟩ => ⟨j, Nat.zero_le j, h2, h3⟩⟩
theorem fr_allS {σ : Type} (W : Nat → Nat → σ → Prop) (I : Nat → σ → Prop) (C : Nat → Prop) (P : Int32 → σ → Prop) (e : Nat)
    (hx : ∀ n s, I e s → P 1 s → W (n + 1) e s)
    (hf : ∀ n i s, i < e → I i s → ¬ C i → (∀ s', P 0 s') → W (n + 1) i s)
    (hs : ∀ n i s, i < e → I i s → C i → (∀ s', I (i + 1) s' → W n (i + 1) s') → W (n + 1) i s)
    (h1 : (∀ i, i < e → C i) → ∀ s, I e s → P 1 s) (h0 : ¬ (∀ i, i < e → C i) → ∀ s, P 0 s)
    (s : σ) (hI : I 0 s) : W (e + 1) 0 s := by
  have key : ∀ d i s, i + d = e → (∀ j, j < i → C j) → I i s → W (d + 1) i s := by
    intro d
    induction d with
    | zero =>
      intro i s hi hc hI
      have : i = e := by omega
      subst this
      exact hx 0 s hI (h1 hc s hI)
    | succ d ih =>
      intro i s hi hc hI
      by_cases hci : C i
      · refine hs (d + 1) i s (by omega) hI hci (fun s' h' => ih (i + 1) s' (by omega) ?_ h')
        intro j hj
        by_cases e1 : j = i
        · rw [e1]; exact hci
        · exact hc j (by omega)
      · exact hf (d + 1) i s (by omega) hI hci (fun s' => h0 (fun H => hci (H i (by omega))) s')
  exact key e 0 s (by omega) (fun j hj => absurd hj (Nat.not_lt_zero j)) hI
/-! a loop that never leaves early, its state carried by an invariant -/
theorem fr_run {σ : Type} (W : Nat → Nat → σ → Prop) (I : Nat → σ → Prop) (e : Nat)
    (hx : ∀ n s, I e s → W (n + 1) e s)
    (hs : ∀ n i s, i < e → I i s → (∀ s', I (i + 1) s' → W n (i + 1) s') → W (n + 1) i s)
    (s : σ) (hI : I 0 s) : W (e + 1) 0 s := loop_i W I e hx hs (e + 1) 0 s (by omega) (by omega) hI
/-! ===== digits ===== -/
def fr_dg (y j : Nat) : Nat := if j = 0 then y / 36 % 6 else if j = 1 then y / 6 % 6 else y % 6
def fr_sg (x : Nat) : Nat := 216 * (x / 216) + 36 * (x % 6) + 6 * (x / 6 % 6) + x / 36 % 6
theorem fr_dg0 (y : Nat) : fr_dg y 0 = y / 36 % 6 := rfl
theorem fr_dg1 (y : Nat) : fr_dg y 1 = y / 6 % 6 := rfl
theorem fr_dg2 (y : Nat) : fr_dg y 2 = y % 6 := rfl
theorem fr_dg_lt (y j : Nat) : fr_dg y j < 6 := by
  unfold fr_dg
  split
  · omega
  · split <;> omega
theorem fr_dec (x : Nat) : x = 216 * (x / 216) + 36 * (x / 36 % 6) + 6 * (x / 6 % 6) + x % 6 := by omega
theorem fr_dgs {r a b c : Nat} (ha : a < 6) (hb : b < 6) (hc : c < 6) : (216 * r + 36 * a + 6 * b + c) / 216 = r ∧ (216 * r + 36 * a + 6 * b + c) / 36 % 6 = a ∧ (216 * r + 36 * a + 6 * b + c) / 6 % 6 = b ∧ (216 * r + 36 * a + 6 * b + c) % 6 = c := by
  refine ⟨by omega, by omega, by omega, by omega⟩
theorem fr_sgd (x : Nat) : fr_sg x / 216 = x / 216 ∧ fr_sg x / 36 % 6 = x % 6 ∧ fr_sg x / 6 % 6 = x / 6 % 6 ∧ fr_sg x % 6 = x / 36 % 6 :=
  fr_dgs (r := x / 216) (a := x % 6) (b := x / 6 % 6) (c := x / 36 % 6) (by omega) (by omega) (by omega)
theorem fr_sg_r (x : Nat) : fr_sg x / 216 = x / 216 := (fr_sgd x).1
theorem fr_sg_0 (x : Nat) : fr_dg (fr_sg x) 0 = x % 6 := (fr_sgd x).2.1
theorem fr_sg_1 (x : Nat) : fr_dg (fr_sg x) 1 = x / 6 % 6 := (fr_sgd x).2.2.1
theorem fr_sg_2 (x : Nat) : fr_dg (fr_sg x) 2 = x / 36 % 6 := (fr_sgd x).2.2.2
theorem fr_sg_sg (x : Nat) : fr_sg (fr_sg x) = x := by
  have ⟨h0, h1, h2, h3⟩ := fr_sgd x
  show 216 * (fr_sg x / 216) + 36 * (fr_sg x % 6) + 6 * (fr_sg x / 6 % 6) + fr_sg x / 36 % 6 = x
  rw [h0, h1, h2, h3]
  exact (fr_dec x).symm
theorem fr_sg_lt {x n : Nat} (h : x < 216 * n) : fr_sg x < 216 * n := by
  unfold fr_sg; omega
theorem fr_sg_lti {x n : Nat} : fr_sg x < 216 * n ↔ x < 216 * n :=
  ⟨fun h => by have := fr_sg_lt h; rwa [fr_sg_sg] at this, fr_sg_lt⟩
theorem fr_sg_864 {x : Nat} (h : x < 864) : fr_sg x < 864 := fr_sg_lt (n := 4) h
theorem fr_sg_m (x : Nat) : fr_sg x = 216 * (x / 216) + fr_sg (x % 216) := by
  unfold fr_sg; omega
theorem fr_sg_mdg (x j : Nat) : fr_dg (fr_sg (x % 216)) j = fr_dg (fr_sg x) j := by
  have q1 : x % 216 % 6 = x % 6 := by omega
  have q2 : x % 216 / 6 % 6 = x / 6 % 6 := by omega
  have q3 : x % 216 / 36 % 6 = x / 36 % 6 := by omega
  unfold fr_dg
  have ⟨_, a1, a2, a3⟩ := fr_sgd x
  have ⟨_, b1, b2, b3⟩ := fr_sgd (x % 216)
  rw [a1, a2, a3, b1, b2, b3, q1, q2, q3]
theorem fr_dg_ext {y z : Nat} (hr : y / 216 = z / 216) (h0 : fr_dg y 0 = fr_dg z 0) (h1 : fr_dg y 1 = fr_dg z 1) (h2 : fr_dg y 2 = fr_dg z 2) : y = z := by
  rw [fr_dg0, fr_dg0] at h0
  rw [fr_dg1, fr_dg1] at h1
  rw [fr_dg2, fr_dg2] at h2
  rw [fr_dec y, fr_dec z, hr, h0, h1, h2]
/-! ===== counting ===== -/
def fr_ct (f : Nat → Bool) : Nat → Nat
  | 0 => 0
  | n + 1 => fr_ct f n + (f n).toNat
theorem fr_ct_l (f : Nat → Bool) (n : Nat) : fr_ct f n = (List.range n).countP f := by
  induction n with
  | zero => rfl
  | succ n ih =>
    rw [List.range_succ, List.countP_append, ← ih]
    show fr_ct f n + (f n).toNat = _
    cases h : f n <;> simp [List.countP_cons, h]
theorem fr_ct_le (f : Nat → Bool) (n : Nat) : fr_ct f n ≤ n := by
  induction n with
  | zero => exact Nat.le_refl 0
  | succ n ih =>
    show fr_ct f n + (f n).toNat ≤ n + 1
    cases f n <;> simp <;> omega
theorem fr_ct_c {f g : Nat → Bool} {n : Nat} (h : ∀ i, i < n → f i = g i) : fr_ct f n = fr_ct g n := by
  induction n with
  | zero => rfl
  | succ n ih =>
    show fr_ct f n + (f n).toNat = fr_ct g n + (g n).toNat
    rw [ih (fun i hi => h i (by omega)), h n (by omega)]
theorem fr_perm : List.Perm ((List.range 864).map fr_sg) (List.range 864) := by decide +kernel
theorem fr_ct_sg (f : Nat → Bool) : fr_ct (fun x => f (fr_sg x)) 864 = fr_ct f 864 := by
  rw [fr_ct_l, fr_ct_l, ← List.Perm.countP_eq f fr_perm, List.countP_map]
  rfl
/-! ===== a strict order on lists, greater first ===== -/
def fr_lx : List Int → List Int → Prop
  | [], _ => False
  | _ :: _, [] => False
  | a :: s, b :: t => b < a ∨ (a = b ∧ fr_lx s t)
theorem fr_lx_ir : ∀ s : List Int, ¬ fr_lx s s
  | [] => fun h => h
  | a :: s => fun h => by
    rcases h with h | ⟨_, h⟩
    · omega
    · exact fr_lx_ir s h
theorem fr_lx_tr : ∀ s t u : List Int, fr_lx s t → fr_lx t u → fr_lx s u
  | [], _, _ => fun h => h.elim
  | _ :: _, [], _ => fun h => h.elim
  | _ :: _, _ :: _, [] => fun _ h => h.elim
  | a :: s, b :: t, c :: u => fun h k => by
    rcases h with h | ⟨h, h'⟩
    · rcases k with k | ⟨k, _⟩
      · exact Or.inl (by omega)
      · exact Or.inl (by omega)
    · rcases k with k | ⟨k, k'⟩
      · exact Or.inl (by omega)
      · exact Or.inr ⟨by omega, fr_lx_tr s t u h' k'⟩
theorem fr_lx_to : ∀ s t : List Int, s.length = t.length → s ≠ t → fr_lx s t ∨ fr_lx t s
  | [], [] => fun _ h => absurd rfl h
  | [], _ :: _ => fun h => by simp at h
  | _ :: _, [] => fun h => by simp at h
  | a :: s, b :: t => fun hl hn => by
    by_cases e : a = b
    · have hn' : s ≠ t := fun h => hn (by rw [e, h])
      have hl' : s.length = t.length := by simpa using hl
      rcases fr_lx_to s t hl' hn' with h | h
      · exact Or.inl (Or.inr ⟨e, h⟩)
      · exact Or.inr (Or.inr ⟨e.symm, h⟩)
    · by_cases l : b < a
      · exact Or.inl (Or.inl l)
      · exact Or.inr (Or.inl (by omega))
/-! ===== the first one of those that a predicate names ===== -/
def fr_Nx (B : Nat → Nat → Prop) (P : Nat → Prop) (n : Nat) (r : Int32) : Prop :=
  (r = -1 ∧ ∀ c, c < n → ¬ P c) ∨ ∃ c, c < n ∧ r = nI c ∧ P c ∧ ∀ d, d < n → P d → d ≠ c → B c d
theorem fr_Nx_0 (B : Nat → Nat → Prop) (P : Nat → Prop) : fr_Nx B P 0 (-1) := Or.inl ⟨rfl, fun c h => absurd h (Nat.not_lt_zero c)⟩
theorem fr_Nx_no {B : Nat → Nat → Prop} {P : Nat → Prop} {n : Nat} {r : Int32} (h : fr_Nx B P n r) (hn : ¬ P n) : fr_Nx B P (n + 1) r := by
  rcases h with ⟨e, h⟩ | ⟨c, hc, e, hp, h⟩
  · refine Or.inl ⟨e, fun c hc => ?_⟩
    by_cases e1 : c = n
    · rw [e1]; exact hn
    · exact h c (by omega)
  · refine Or.inr ⟨c, by omega, e, hp, fun d hd hpd hne => ?_⟩
    by_cases e1 : d = n
    · rw [e1] at hpd; exact absurd hpd hn
    · exact h d (by omega) hpd hne
theorem fr_Nx_new {B : Nat → Nat → Prop} {P : Nat → Prop} {n : Nat} (h : fr_Nx B P n (-1)) (hn31 : n < 2 ^ 31) (hn : P n) : fr_Nx B P (n + 1) (nI n) := by
  rcases h with ⟨_, h⟩ | ⟨c, hc, e, _, _⟩
  · refine Or.inr ⟨n, by omega, rfl, hn, fun d hd hpd hne => absurd hpd (h d (by omega))⟩
  · have h1 := nI_pos (n := c) (by omega)
    rw [← e] at h1
    exact absurd (by decide) h1
theorem fr_Nx_less {B : Nat → Nat → Prop} {P : Nat → Prop} {n c : Nat} (tr : ∀ a b d, B a b → B b d → B a d) (hc31 : c < 2 ^ 31) (hn31 : n < 2 ^ 31) (h : fr_Nx B P n (nI c)) (hn : P n) (hb : B n c) : fr_Nx B P (n + 1) (nI n) := by
  rcases h with ⟨e, _⟩ | ⟨c', hc, e, _, h⟩
  · have h1 := nI_pos (n := c) hc31
    rw [e] at h1
    exact absurd (by decide) h1
  · have : c = c' := (nI_eq hc31 (by omega)).mp e
    subst this
    refine Or.inr ⟨n, by omega, rfl, hn, fun d hd hpd hne => ?_⟩
    by_cases e1 : d = c
    · rw [e1]; exact hb
    · exact tr _ _ _ hb (h d (by omega) hpd e1)
theorem fr_Nx_keep {B : Nat → Nat → Prop} {P : Nat → Prop} {n c : Nat} (to : ∀ a b, a < n + 1 → b < n + 1 → P a → P b → a ≠ b → B a b ∨ B b a) (hc31 : c < 2 ^ 31) (hn31 : n < 2 ^ 31) (h : fr_Nx B P n (nI c)) (hn : P n) (hb : ¬ B n c) : fr_Nx B P (n + 1) (nI c) := by
  rcases h with ⟨e, _⟩ | ⟨c', hc, e, hp, h⟩
  · have h1 := nI_pos (n := c) hc31
    rw [e] at h1
    exact absurd (by decide) h1
  · have : c = c' := (nI_eq hc31 (by omega)).mp e
    subst this
    refine Or.inr ⟨c, by omega, rfl, hp, fun d hd hpd hne => ?_⟩
    by_cases e1 : d = n
    · rw [e1]
      rcases to n c (by omega) (by omega) hn hp (by omega) with h1 | h1
      · exact absurd h1 hb
      · exact h1
    · exact h d (by omega) hpd hne
theorem fr_Nx_in {B : Nat → Nat → Prop} {P : Nat → Prop} {n : Nat} {r : Int32} (h : fr_Nx B P n r) : r = -1 ∨ ∃ c, c < n ∧ r = nI c ∧ P c := by
  rcases h with ⟨e, _⟩ | ⟨c, hc, e, hp, _⟩
  · exact Or.inl e
  · exact Or.inr ⟨c, hc, e, hp⟩
theorem fr_Nx_sg {B : Nat → Nat → Prop} {P : Nat → Prop} (as : ∀ a b, B a b → ¬ B b a) {r q : Int32}
    (hr : fr_Nx (fun a b => B (fr_sg a) (fr_sg b)) (fun a => P (fr_sg a)) 864 r) (hq : fr_Nx B P 864 q) :
    (r = -1 ∧ q = -1) ∨ ∃ c, c < 864 ∧ r = nI c ∧ q = nI (fr_sg c) ∧ P (fr_sg c) := by
  rcases hr with ⟨er, hr⟩ | ⟨c, hc, er, hp, hr⟩
  · rcases hq with ⟨eq, hq⟩ | ⟨d, hd, eq, hp, hq⟩
    · exact Or.inl ⟨er, eq⟩
    · have h1 : ¬ P (fr_sg (fr_sg d)) := hr (fr_sg d) (fr_sg_864 hd)
      rw [fr_sg_sg] at h1
      exact absurd hp h1
  · rcases hq with ⟨eq, hq⟩ | ⟨d, hd, eq, hpd, hq⟩
    · exact absurd hp (hq (fr_sg c) (fr_sg_864 hc))
    · refine Or.inr ⟨c, hc, er, ?_, hp⟩
      by_cases e1 : d = fr_sg c
      · rw [eq, e1]
      · have h1 := hq (fr_sg c) (fr_sg_864 hc) hp (fun h => e1 h.symm)
        have hpd' : P (fr_sg (fr_sg d)) := by rw [fr_sg_sg]; exact hpd
        have h2 : B (fr_sg c) (fr_sg (fr_sg d)) := hr (fr_sg d) (fr_sg_864 hd) hpd' (fun h => e1 (by rw [← h, fr_sg_sg]))
        rw [fr_sg_sg] at h2
        exact absurd h1 (as _ _ h2)
/-! ===== reading and storing ===== -/
abbrev fr_n (x : Int32) : Nat := x.toNatClampNeg
theorem fr_nn {n : Nat} (h : n < 2 ^ 31 := by omega) : fr_n (nI n) = n := nI_clamp h
theorem fr_ne {x : Int32} {n : Nat} (e : x = nI n) (h : n < 2 ^ 31 := by omega) : fr_n x = n := by rw [e]; exact nI_clamp h
theorem fr_rd {a : Nat → Int32} {x y : Int32} {i : Nat} (hx : x = nI i) (h : a i = y) (hi : i < 2 ^ 31 := by omega) : a x.toNatClampNeg = y := by
  rw [hx, nI_clamp hi, h]
/-- the value is a number below b -/
def fr_Lt (x : Int32) (b : Nat) : Prop := fr_n x < b ∧ x = nI (fr_n x)
theorem fr_Lt_of {x : Int32} {b n : Nat} (e : x = nI n) (h : n < b) (hb : b ≤ 2 ^ 31) : fr_Lt x b := by
  have : fr_n x = n := fr_ne e (by omega)
  unfold fr_Lt
  rw [this]
  exact ⟨h, e⟩
theorem fr_Lt_n {b n : Nat} (h : n < b) (hb : b ≤ 2 ^ 31) : fr_Lt (nI n) b := fr_Lt_of rfl h hb
theorem fr_Lt_0 {b : Nat} (h : 0 < b) (hb : b ≤ 2 ^ 31) : fr_Lt 0 b := fr_Lt_of (n := 0) rfl h hb
theorem fr_Lt_ex {x : Int32} {b : Nat} (h : fr_Lt x b) : ∃ n, n < b ∧ x = nI n ∧ fr_n x = n := ⟨fr_n x, h.1, h.2, rfl⟩
theorem fr_us {a : Nat → Int32} {k : Nat} {x : Int32} (h : a k = x) : upd a k x = a := by
  funext j
  by_cases e : j = k
  · rw [e, pk_us, h]
  · rw [pk_un e]
theorem fr_upto (W : Nat → Nat → Prop) (f : Nat) (hx : ∀ n, W (n + 1) f) (hs : ∀ n i, i < f → W n (i + 1) → W (n + 1) i) : W (f + 1) 0 :=
  loop_i (σ := Unit) (fun n i _ => W n i) (fun _ _ => True) f (fun n _ _ => hx n) (fun n i _ hi _ hk => hs n i hi (hk () trivial)) (f + 1) 0 () (by omega) (by omega) trivial
theorem fr_fst (P : Nat → Prop) (n : Nat) : (∃ f, f < n ∧ P f ∧ ∀ g, g < f → ¬ P g) ∨ ∀ f, f < n → ¬ P f := by
  induction n with
  | zero => exact Or.inr (fun f h => absurd h (Nat.not_lt_zero f))
  | succ n ih =>
    rcases ih with ⟨f, h1, h2, h3⟩ | h
    · exact Or.inl ⟨f, by omega, h2, h3⟩
    · by_cases hp : P n
      · exact Or.inl ⟨n, by omega, hp, h⟩
      · refine Or.inr (fun f hf => ?_)
        by_cases e : f = n
        · rw [e]; exact hp
        · exact h f (by omega)
theorem fr_ct_on {g g' : Nat → Bool} {k : Nat} (hk : g k = false) (hk' : g' k = true) (ho : ∀ j, j ≠ k → g' j = g j) : ∀ n, k < n → fr_ct g' n = fr_ct g n + 1 := by
  intro n
  induction n with
  | zero => intro h; exact absurd h (Nat.not_lt_zero k)
  | succ n ih =>
    intro h
    show fr_ct g' n + (g' n).toNat = fr_ct g n + (g n).toNat + 1
    by_cases e : n = k
    · subst e
      rw [fr_ct_c (f := g') (g := g) (fun i hi => ho i (by omega)), hk, hk']
      rfl
    · rw [ih (by omega), ho n e]
      omega
/-! loops that end in some state, whatever is asked behind them -/
theorem fr_exl {σ Q : Type} (W : Q → Nat → Nat → σ → Prop) (I : Nat → σ → Prop) (e : Nat)
    (hs : ∀ i s, i < e → I i s → ∃ s', I (i + 1) s' ∧ ∀ P n, W P n (i + 1) s' → W P (n + 1) i s) :
    ∀ s, I 0 s → ∃ s', I e s' ∧ ∀ P n, W P n e s' → W P (n + e) 0 s := by
  have key : ∀ d i s, i + d = e → I i s → ∃ s', I e s' ∧ ∀ P n, W P n e s' → W P (n + d) i s := by
    intro d
    induction d with
    | zero =>
      intro i s h hI
      have : i = e := by omega
      subst this
      exact ⟨s, hI, fun P n h => h⟩
    | succ d ih =>
      intro i s h hI
      obtain ⟨s1, h1, h2⟩ := hs i s (by omega) hI
      obtain ⟨s2, h3, h4⟩ := ih (i + 1) s1 (by omega) h1
      exact ⟨s2, h3, fun P n h => h2 P (n + d) (h4 P n h)⟩
  intro s hI
  exact key e 0 s (by omega) hI
theorem fr_exr {σ Q ρ : Type} (W : Q → Nat → Nat → σ → Prop) (I : Nat → σ → Prop) (F : Q → ρ → Prop) (G : ρ → Prop) (e : Nat)
    (hs : ∀ i s, i < e → I i s → (∃ s', I (i + 1) s' ∧ ∀ P n, W P n (i + 1) s' → W P (n + 1) i s) ∨ (∃ q, G q ∧ ∀ P n, F P q → W P (n + 1) i s)) :
    ∀ s, I 0 s → (∃ s', I e s' ∧ ∀ P n, W P n e s' → W P (n + e) 0 s) ∨ (∃ q, G q ∧ ∀ P n, F P q → W P (n + e) 0 s) := by
  have key : ∀ d i s, i + d = e → I i s → (∃ s', I e s' ∧ ∀ P n, W P n e s' → W P (n + d) i s) ∨ (∃ q, G q ∧ ∀ P n, F P q → W P (n + d) i s) := by
    intro d
    induction d with
    | zero =>
      intro i s h hI
      have : i = e := by omega
      subst this
      exact Or.inl ⟨s, hI, fun P n h => h⟩
    | succ d ih =>
      intro i s h hI
      rcases hs i s (by omega) hI with ⟨s1, h1, h2⟩ | ⟨q, hG, h2⟩
      · rcases ih (i + 1) s1 (by omega) h1 with ⟨s2, h3, h4⟩ | ⟨q, h3, h4⟩
        · exact Or.inl ⟨s2, h3, fun P n h => h2 P (n + d) (h4 P n h)⟩
        · exact Or.inr ⟨q, h3, fun P n h => h2 P (n + d) (h4 P n h)⟩
      · exact Or.inr ⟨q, hG, fun P n h => h2 P (n + d) h⟩
  intro s hI
  exact key e 0 s (by omega) hI
theorem fr_Nx_c {B : Nat → Nat → Prop} {P P' : Nat → Prop} {n : Nat} {r : Int32} (h : fr_Nx B P n r) (e : ∀ c, c < n → (P c ↔ P' c)) : fr_Nx B P' n r := by
  rcases h with ⟨e1, h⟩ | ⟨c, hc, e1, hp, h⟩
  · exact Or.inl ⟨e1, fun c hc k => h c hc ((e c hc).mpr k)⟩
  · exact Or.inr ⟨c, hc, e1, (e c hc).mp hp, fun d hd hpd hne => h d hd ((e d hd).mpr hpd) hne⟩
theorem fr_m1 {n : Nat} (h : n < 2 ^ 31) : nI n ≠ -1 := fun e => by
  have h1 := nI_pos h
  rw [e] at h1
  exact absurd (by decide) h1
