section
/-! ===== rows pasted from kit/rows (PURE-ROWS, BITS) ===== -/
theorem pk_us {f : Nat → Int32} {k : Nat} {x : Int32} : upd f k x k = x := if_pos rfl
theorem pk_un {f : Nat → Int32} {k j : Nat} {x : Int32} (h : j ≠ k) : upd f k x j = f j := if_neg h
theorem pk_sub {a b : Nat} (h : b ≤ a) : nI a - nI b = nI (a - b) := by
  obtain ⟨c, rfl⟩ : ∃ c, a = c + b := ⟨a - b, by omega⟩
  rw [← nI_add, Int32.add_sub_cancel, Nat.add_sub_cancel]
theorem pk_m1 (n : Nat) : nI (n + 1) + (-1) = nI n := by
  rw [← nI_1, Int32.add_assoc, show (1 : Int32) + (-1) = 0 from rfl, Int32.add_zero]
theorem pk_mul (a b : Nat) : nI a * nI b = nI (a * b) := (Int32.ofNat_mul a b).symm
theorem pk_div {a d : Nat} (ha : a < 2 ^ 31) (h0 : 0 < d) (hd : d < 2 ^ 31) : nI a / nI d = nI (a / d) := by
  apply Int32.toInt_inj.mp
  rw [lg_idiv_nonneg (by rw [nI_toInt ha]; omega) (by rw [nI_toInt hd]; omega), nI_toInt ha, nI_toInt hd, nI_toInt (Nat.lt_of_le_of_lt (Nat.div_le_self a d) ha)]
  first | rfl | exact (Int.natCast_ediv _ _).symm
theorem pk_rem {a d : Nat} (ha : a < 2 ^ 31) (h0 : 0 < d) (hd : d < 2 ^ 31) : nI a - nI a / nI d * nI d = nI (a % d) := by
  rw [pk_div ha h0 hd, pk_mul, pk_sub (Nat.div_mul_le_self a d)]
  exact congrArg nI (by have := Nat.div_add_mod' a d; omega)
theorem pk_sub_toInt {a b : Nat} (ha : a < 2 ^ 30) (hb : b < 2 ^ 30) : (nI a - nI b).toInt = (a : Int) - b := by
  rw [Int32.toInt_sub, nI_toInt (by omega), nI_toInt (by omega)]
  exact Int.bmod_eq_of_le (by omega) (by omega)
theorem pk_sneg {a b : Nat} (hb : b < 2 ^ 30) (h : a < b) : nI a - nI b < 0 := by
  rw [Int32.lt_iff_toInt_lt, pk_sub_toInt (by omega) hb, show (0 : Int32).toInt = 0 from by decide]
  omega
theorem pk_ix (x : Int32) {n : Nat} (hn : n < 2 ^ 31) : x < 0 ∨ nI n ≤ x ∨ ∃ j : Nat, j < n ∧ x = nI j := by
  by_cases h : x < 0
  · exact Or.inl h
  · obtain ⟨j, hj, rfl⟩ := nI_of h
    by_cases h2 : j < n
    · exact Or.inr (Or.inr ⟨j, h2, rfl⟩)
    · exact Or.inr (Or.inl (nI_le (by omega) hj))
theorem pk_le {x y : Int32} {A B : Prop} (a b : Nat) (f : a ≤ b → A) (g : b < a → B) (hx : x = nI a := by rfl) (hy : y = nI b := by rfl) (ha : a < 2 ^ 31 := by omega) (hb : b < 2 ^ 31 := by omega) : (x ≤ y → A) ∧ (¬ x ≤ y → B) := by
  subst hx hy
  rw [nI_leI ha hb]
  exact ⟨f, fun z => g (by omega)⟩
theorem pk_lt {x y : Int32} {A B : Prop} (a b : Nat) (f : a < b → A) (g : b ≤ a → B) (hx : x = nI a := by rfl) (hy : y = nI b := by rfl) (ha : a < 2 ^ 31 := by omega) (hb : b < 2 ^ 31 := by omega) : (x < y → A) ∧ (¬ x < y → B) := by
  subst hx hy
  rw [nI_ltI ha hb]
  exact ⟨f, fun z => g (by omega)⟩
theorem pk_eq {x y : Int32} {A B : Prop} (a b : Nat) (f : a = b → A) (g : a ≠ b → B) (hx : x = nI a := by rfl) (hy : y = nI b := by rfl) (ha : a < 2 ^ 31 := by omega) (hb : b < 2 ^ 31 := by omega) : (x = y → A) ∧ (¬ x = y → B) := by
  subst hx hy
  rw [nI_eq ha hb]
  exact ⟨f, g⟩
theorem pk_in {x : Int32} (n N : Nat) (h : n < N) (hx : x = nI n := by rfl) (hN : N < 2 ^ 31 := by omega) : vp_in x N := by
  subst hx
  exact vp_in_nI h hN
theorem pk_cl {x : Int32} (n : Nat) (hx : x = nI n := by rfl) (h : n < 2 ^ 31 := by omega) : x.toNatClampNeg = n := by
  subst hx
  exact nI_clamp h
theorem pk_tn {n : Nat} (h : n < 2 ^ 32) : (nI n).toBitVec.toNat = n := Nat.mod_eq_of_lt h
theorem pk_and (x : Int32) {m : Int32} (k : Nat) (hm : m.toBitVec.toNat = 2 ^ k - 1) : x &&& m = nI (x.toBitVec.toNat % 2 ^ k) := by
  apply Int32.toBitVec_inj.mp
  apply BitVec.eq_of_toNat_eq
  rw [Int32.toBitVec_and, BitVec.toNat_and, hm, Nat.and_two_pow_sub_one_eq_mod]
  show _ = (BitVec.ofNat 32 _).toNat
  rw [BitVec.toNat_ofNat]
  exact (Nat.mod_eq_of_lt (Nat.lt_of_le_of_lt (Nat.mod_le _ _) x.toBitVec.isLt)).symm
theorem pk_andN {n : Nat} (h : n < 2 ^ 32) {m : Int32} (k : Nat) (hm : m.toBitVec.toNat = 2 ^ k - 1) : nI n &&& m = nI (n % 2 ^ k) := by
  rw [pk_and _ k hm, pk_tn h]
theorem pk_andE (x : Int32) {m : Int32} (k : Nat) (hm : m.toBitVec.toNat = 2 ^ k - 1) : ∃ j : Nat, j < 2 ^ k ∧ x &&& m = nI j := ⟨_, Nat.mod_lt _ (Nat.two_pow_pos k), pk_and x k hm⟩
theorem pk_andIn (x : Int32) {m : Int32} (k : Nat) (hm : m.toBitVec.toNat = 2 ^ k - 1) (hk : k ≤ 30) : vp_in (x &&& m) (2 ^ k) := by
  obtain ⟨j, hj, e⟩ := pk_andE x k hm
  rw [e]
  exact vp_in_nI hj (Nat.lt_of_le_of_lt (Nat.pow_le_pow_right (by decide) hk) (by decide))
theorem pk_shl (a s : Int32) (k : Nat) (hs : (s.toBitVec.smod 32).toNat = k) : (a <<< s).toBitVec.toNat = a.toBitVec.toNat * 2 ^ k % 2 ^ 32 := by
  show (a.toBitVec <<< (s.toBitVec.smod 32).toNat).toNat = _
  rw [hs, BitVec.toNat_shiftLeft, Nat.shiftLeft_eq]
theorem pk_shlN {n : Nat} (s : Int32) (k : Nat) (hs : (s.toBitVec.smod 32).toNat = k) (h : n * 2 ^ k < 2 ^ 32) : nI n <<< s = nI (n * 2 ^ k) := by
  apply Int32.toBitVec_inj.mp
  apply BitVec.eq_of_toNat_eq
  have hn : n < 2 ^ 32 := Nat.lt_of_le_of_lt (Nat.le_mul_of_pos_right n (Nat.two_pow_pos k)) h
  rw [pk_shl _ _ k hs, pk_tn hn, pk_tn h, Nat.mod_eq_of_lt h]
theorem pk_shr (a s : Int32) (k : Nat) (hs : (s.toBitVec.smod 32).toNat = k) : (a >>> s).toInt = a.toInt >>> k := by
  show (a.toBitVec.sshiftRight (s.toBitVec.smod 32).toNat).toInt = _
  rw [hs, BitVec.toInt_sshiftRight]
  rfl
theorem pk_shrN {n : Nat} (h : n < 2 ^ 31) (s : Int32) (k : Nat) (hs : (s.toBitVec.smod 32).toNat = k) : nI n >>> s = nI (n / 2 ^ k) := by
  apply Int32.toInt_inj.mp
  have h2 : n / 2 ^ k ≤ n := Nat.div_le_self _ _
  rw [pk_shr _ _ k hs, nI_toInt h, nI_toInt (by omega), Int.shiftRight_eq_div_pow]
  rfl
theorem pk_ushr (x s : Int32) (k : Nat) (hs : ((s.toUInt32 &&& Int32.toUInt32 31).toBitVec % 32).toNat = k) : (x.toUInt32 >>> (s.toUInt32 &&& Int32.toUInt32 31)).toInt32.toBitVec.toNat = x.toBitVec.toNat / 2 ^ k := by
  have e : (x.toUInt32 >>> (s.toUInt32 &&& Int32.toUInt32 31)).toInt32.toBitVec = x.toBitVec >>> k := by
    rw [← hs]
    exact UInt32.toBitVec_shiftRight _ _
  rw [e, BitVec.toNat_ushiftRight, Nat.shiftRight_eq_div_pow]
theorem pk_ushrN {n : Nat} (hn : n < 2 ^ 32) (s : Int32) (k : Nat) (hs : ((s.toUInt32 &&& Int32.toUInt32 31).toBitVec % 32).toNat = k) : ((nI n).toUInt32 >>> (s.toUInt32 &&& Int32.toUInt32 31)).toInt32 = nI (n / 2 ^ k) := by
  apply Int32.toBitVec_inj.mp
  apply BitVec.eq_of_toNat_eq
  rw [pk_ushr _ s k hs, pk_tn hn, pk_tn (Nat.lt_of_le_of_lt (Nat.div_le_self _ _) hn)]
theorem pk_nb (z : Int32) : narrow .byte (.int z.toInt8.toInt32) = .int z.toInt8.toInt32 := congrArg Value.int (by simp)
theorem pk_ns (z : Int32) : narrow .short (.int z.toInt16.toInt32) = .int z.toInt16.toInt32 := congrArg Value.int (by simp)
theorem pk_fb (r : Int32) : fits .byte (.int r.toInt8.toInt32) = true := by
  have ⟨a, b⟩ := lg_i2b_range r
  have h1 : (-128 : Int32).toInt = -128 := by decide
  have h2 : (127 : Int32).toInt = 127 := by decide
  simp only [fits, Bool.and_eq_true, decide_eq_true_eq, Int32.le_iff_toInt_le, h1, h2]
  omega
theorem pk_fs (r : Int32) : fits .short (.int r.toInt16.toInt32) = true := by
  have ⟨a, b⟩ := lg_i2s_range r
  have h1 : (-32768 : Int32).toInt = -32768 := by decide
  have h2 : (32767 : Int32).toInt = 32767 := by decide
  simp only [fits, Bool.and_eq_true, decide_eq_true_eq, Int32.le_iff_toInt_le, h1, h2]
  omega
theorem pk_charN {q : Nat} (hq : q < 65536) : narrow .char (.int (nI q)) = .int (nI q) ∧ fits .char (.int (nI q)) = true := by
  constructor
  · have e : (nI q).toUInt32.toUInt16.toUInt32.toInt32 = nI q := by
      apply Int32.toBitVec_inj.mp
      apply BitVec.eq_of_toNat_eq
      show (nI q).toUInt32.toUInt16.toUInt32.toNat = q % 2 ^ 32
      rw [UInt16.toNat_toUInt32, UInt32.toNat_toUInt16, show (nI q).toUInt32.toNat = q % 2 ^ 32 from rfl]
      omega
    exact congrArg Value.int e
  · have a : (0 : Int32) ≤ nI q := nI_pos' (by omega)
    have b : nI q ≤ 65535 := nI_le (b := 65535) (by omega) (by decide)
    show (decide ((0 : Int32) ≤ nI q) && decide (nI q ≤ 65535)) = true
    rw [decide_eq_true a, decide_eq_true b]
    rfl
theorem pk_char (x : Int32) : (x.toUInt32 % 65536).toInt32 = nI (x.toBitVec.toNat % 65536) := by
  apply Int32.toBitVec_inj.mp
  apply BitVec.eq_of_toNat_eq
  rw [pk_tn (by omega)]
  show (x.toUInt32 % 65536).toNat = _
  rw [UInt32.toNat_mod]
  rfl
theorem pk_nc (x : Int32) : narrow .char (.int (x.toUInt32 % 65536).toInt32) = .int (x.toUInt32 % 65536).toInt32 := by
  rw [pk_char]
  exact (pk_charN (Nat.mod_lt _ (by decide))).1
theorem pk_fc (x : Int32) : fits .char (.int (x.toUInt32 % 65536).toInt32) = true := by
  rw [pk_char]
  exact (pk_charN (Nat.mod_lt _ (by decide))).2
theorem pk_vb (z : Int32) : vp_nar .byte z.toInt8.toInt32 = z.toInt8.toInt32 := by rw [vp_nar_byte]; simp
theorem pk_vs (z : Int32) : vp_nar .short z.toInt16.toInt32 = z.toInt16.toInt32 := by rw [vp_nar_short]; simp
theorem pk_vc (z : Int32) : vp_nar .char (z.toUInt32 % 65536).toInt32 = (z.toUInt32 % 65536).toInt32 := Value.int.inj (pk_nc z)
theorem pk_loop {σ : Type} (W : Nat → Nat → σ → Prop) (I : Nat → σ → Prop) (e i0 : Nat) (s : σ) (hi : i0 ≤ e) (h0 : I i0 s) (hx : ∀ n s, I e s → W (n + 1) e s)
    (hs : ∀ n i s, i < e → I i s → (∀ s', I (i + 1) s' → W n (i + 1) s') → W (n + 1) i s) : ∃ n, W n i0 s :=
  ⟨e + 1, loop_i W I e hx hs (e + 1) i0 s hi (by omega) h0⟩
theorem pk_loopD {σ : Type} (W : Nat → Nat → σ → Prop) (I : Nat → σ → Prop) (hx : ∀ n s, I 0 s → W (n + 1) 0 s)
    (hs : ∀ n i s, I (i + 1) s → (∀ s', I i s' → W n i s') → W (n + 1) (i + 1) s) : ∀ (e : Nat) (s : σ), I e s → W (e + 1) e s := by
  intro e
  induction e with
  | zero => exact fun s h => hx 0 s h
  | succ e ih => exact fun s h => hs (e + 1) e s h (fun s' h' => ih s' h')
theorem lp1 {A1 : Type} (W : Nat → A1 → Prop) (I : A1 → Prop) (μ : A1 → Nat) (hs : ∀ (n : Nat) (a1 : A1), I a1 → (∀ (b1 : A1), I b1 → μ b1 < μ a1 → W n b1) → W (n + 1) a1) (a1 : A1) (h : I a1) : ∃ n, W n a1 :=
  loop_m (σ := A1) (fun n s => W n s) (fun s => I s) (fun s => μ s) (fun n s hI hk => hs n s hI (fun b1 h9 hm => hk b1 h9 hm)) a1 h
theorem lp2 {A1 A2 : Type} (W : Nat → A1 → A2 → Prop) (I : A1 → A2 → Prop) (μ : A1 → A2 → Nat) (hs : ∀ (n : Nat) (a1 : A1) (a2 : A2), I a1 a2 → (∀ (b1 : A1) (b2 : A2), I b1 b2 → μ b1 b2 < μ a1 a2 → W n b1 b2) → W (n + 1) a1 a2) (a1 : A1) (a2 : A2) (h : I a1 a2) : ∃ n, W n a1 a2 :=
  loop_m (σ := A1 × A2) (fun n s => W n s.1 s.2) (fun s => I s.1 s.2) (fun s => μ s.1 s.2) (fun n s hI hk => hs n s.1 s.2 hI (fun b1 b2 h9 hm => hk (b1, b2) h9 hm)) (a1, a2) h
theorem lp3 {A1 A2 A3 : Type} (W : Nat → A1 → A2 → A3 → Prop) (I : A1 → A2 → A3 → Prop) (μ : A1 → A2 → A3 → Nat) (hs : ∀ (n : Nat) (a1 : A1) (a2 : A2) (a3 : A3), I a1 a2 a3 → (∀ (b1 : A1) (b2 : A2) (b3 : A3), I b1 b2 b3 → μ b1 b2 b3 < μ a1 a2 a3 → W n b1 b2 b3) → W (n + 1) a1 a2 a3) (a1 : A1) (a2 : A2) (a3 : A3) (h : I a1 a2 a3) : ∃ n, W n a1 a2 a3 :=
  loop_m (σ := A1 × A2 × A3) (fun n s => W n s.1 s.2.1 s.2.2) (fun s => I s.1 s.2.1 s.2.2) (fun s => μ s.1 s.2.1 s.2.2) (fun n s hI hk => hs n s.1 s.2.1 s.2.2 hI (fun b1 b2 b3 h9 hm => hk (b1, b2, b3) h9 hm)) (a1, a2, a3) h
theorem lp4 {A1 A2 A3 A4 : Type} (W : Nat → A1 → A2 → A3 → A4 → Prop) (I : A1 → A2 → A3 → A4 → Prop) (μ : A1 → A2 → A3 → A4 → Nat) (hs : ∀ (n : Nat) (a1 : A1) (a2 : A2) (a3 : A3) (a4 : A4), I a1 a2 a3 a4 → (∀ (b1 : A1) (b2 : A2) (b3 : A3) (b4 : A4), I b1 b2 b3 b4 → μ b1 b2 b3 b4 < μ a1 a2 a3 a4 → W n b1 b2 b3 b4) → W (n + 1) a1 a2 a3 a4) (a1 : A1) (a2 : A2) (a3 : A3) (a4 : A4) (h : I a1 a2 a3 a4) : ∃ n, W n a1 a2 a3 a4 :=
  loop_m (σ := A1 × A2 × A3 × A4) (fun n s => W n s.1 s.2.1 s.2.2.1 s.2.2.2) (fun s => I s.1 s.2.1 s.2.2.1 s.2.2.2) (fun s => μ s.1 s.2.1 s.2.2.1 s.2.2.2) (fun n s hI hk => hs n s.1 s.2.1 s.2.2.1 s.2.2.2 hI (fun b1 b2 b3 b4 h9 hm => hk (b1, b2, b3, b4) h9 hm)) (a1, a2, a3, a4) h
theorem lp5 {A1 A2 A3 A4 A5 : Type} (W : Nat → A1 → A2 → A3 → A4 → A5 → Prop) (I : A1 → A2 → A3 → A4 → A5 → Prop) (μ : A1 → A2 → A3 → A4 → A5 → Nat) (hs : ∀ (n : Nat) (a1 : A1) (a2 : A2) (a3 : A3) (a4 : A4) (a5 : A5), I a1 a2 a3 a4 a5 → (∀ (b1 : A1) (b2 : A2) (b3 : A3) (b4 : A4) (b5 : A5), I b1 b2 b3 b4 b5 → μ b1 b2 b3 b4 b5 < μ a1 a2 a3 a4 a5 → W n b1 b2 b3 b4 b5) → W (n + 1) a1 a2 a3 a4 a5) (a1 : A1) (a2 : A2) (a3 : A3) (a4 : A4) (a5 : A5) (h : I a1 a2 a3 a4 a5) : ∃ n, W n a1 a2 a3 a4 a5 :=
  loop_m (σ := A1 × A2 × A3 × A4 × A5) (fun n s => W n s.1 s.2.1 s.2.2.1 s.2.2.2.1 s.2.2.2.2) (fun s => I s.1 s.2.1 s.2.2.1 s.2.2.2.1 s.2.2.2.2) (fun s => μ s.1 s.2.1 s.2.2.1 s.2.2.2.1 s.2.2.2.2) (fun n s hI hk => hs n s.1 s.2.1 s.2.2.1 s.2.2.2.1 s.2.2.2.2 hI (fun b1 b2 b3 b4 b5 h9 hm => hk (b1, b2, b3, b4, b5) h9 hm)) (a1, a2, a3, a4, a5) h
theorem lp6 {A1 A2 A3 A4 A5 A6 : Type} (W : Nat → A1 → A2 → A3 → A4 → A5 → A6 → Prop) (I : A1 → A2 → A3 → A4 → A5 → A6 → Prop) (μ : A1 → A2 → A3 → A4 → A5 → A6 → Nat) (hs : ∀ (n : Nat) (a1 : A1) (a2 : A2) (a3 : A3) (a4 : A4) (a5 : A5) (a6 : A6), I a1 a2 a3 a4 a5 a6 → (∀ (b1 : A1) (b2 : A2) (b3 : A3) (b4 : A4) (b5 : A5) (b6 : A6), I b1 b2 b3 b4 b5 b6 → μ b1 b2 b3 b4 b5 b6 < μ a1 a2 a3 a4 a5 a6 → W n b1 b2 b3 b4 b5 b6) → W (n + 1) a1 a2 a3 a4 a5 a6) (a1 : A1) (a2 : A2) (a3 : A3) (a4 : A4) (a5 : A5) (a6 : A6) (h : I a1 a2 a3 a4 a5 a6) : ∃ n, W n a1 a2 a3 a4 a5 a6 :=
  loop_m (σ := A1 × A2 × A3 × A4 × A5 × A6) (fun n s => W n s.1 s.2.1 s.2.2.1 s.2.2.2.1 s.2.2.2.2.1 s.2.2.2.2.2) (fun s => I s.1 s.2.1 s.2.2.1 s.2.2.2.1 s.2.2.2.2.1 s.2.2.2.2.2) (fun s => μ s.1 s.2.1 s.2.2.1 s.2.2.2.1 s.2.2.2.2.1 s.2.2.2.2.2) (fun n s hI hk => hs n s.1 s.2.1 s.2.2.1 s.2.2.2.1 s.2.2.2.2.1 s.2.2.2.2.2 hI (fun b1 b2 b3 b4 b5 b6 h9 hm => hk (b1, b2, b3, b4, b5, b6) h9 hm)) (a1, a2, a3, a4, a5, a6) h
theorem lp7 {A1 A2 A3 A4 A5 A6 A7 : Type} (W : Nat → A1 → A2 → A3 → A4 → A5 → A6 → A7 → Prop) (I : A1 → A2 → A3 → A4 → A5 → A6 → A7 → Prop) (μ : A1 → A2 → A3 → A4 → A5 → A6 → A7 → Nat) (hs : ∀ (n : Nat) (a1 : A1) (a2 : A2) (a3 : A3) (a4 : A4) (a5 : A5) (a6 : A6) (a7 : A7), I a1 a2 a3 a4 a5 a6 a7 → (∀ (b1 : A1) (b2 : A2) (b3 : A3) (b4 : A4) (b5 : A5) (b6 : A6) (b7 : A7), I b1 b2 b3 b4 b5 b6 b7 → μ b1 b2 b3 b4 b5 b6 b7 < μ a1 a2 a3 a4 a5 a6 a7 → W n b1 b2 b3 b4 b5 b6 b7) → W (n + 1) a1 a2 a3 a4 a5 a6 a7) (a1 : A1) (a2 : A2) (a3 : A3) (a4 : A4) (a5 : A5) (a6 : A6) (a7 : A7) (h : I a1 a2 a3 a4 a5 a6 a7) : ∃ n, W n a1 a2 a3 a4 a5 a6 a7 :=
  loop_m (σ := A1 × A2 × A3 × A4 × A5 × A6 × A7) (fun n s => W n s.1 s.2.1 s.2.2.1 s.2.2.2.1 s.2.2.2.2.1 s.2.2.2.2.2.1 s.2.2.2.2.2.2) (fun s => I s.1 s.2.1 s.2.2.1 s.2.2.2.1 s.2.2.2.2.1 s.2.2.2.2.2.1 s.2.2.2.2.2.2) (fun s => μ s.1 s.2.1 s.2.2.1 s.2.2.2.1 s.2.2.2.2.1 s.2.2.2.2.2.1 s.2.2.2.2.2.2) (fun n s hI hk => hs n s.1 s.2.1 s.2.2.1 s.2.2.2.1 s.2.2.2.2.1 s.2.2.2.2.2.1 s.2.2.2.2.2.2 hI (fun b1 b2 b3 b4 b5 b6 b7 h9 hm => hk (b1, b2, b3, b4, b5, b6, b7) h9 hm)) (a1, a2, a3, a4, a5, a6, a7) h
theorem lp8 {A1 A2 A3 A4 A5 A6 A7 A8 : Type} (W : Nat → A1 → A2 → A3 → A4 → A5 → A6 → A7 → A8 → Prop) (I : A1 → A2 → A3 → A4 → A5 → A6 → A7 → A8 → Prop) (μ : A1 → A2 → A3 → A4 → A5 → A6 → A7 → A8 → Nat) (hs : ∀ (n : Nat) (a1 : A1) (a2 : A2) (a3 : A3) (a4 : A4) (a5 : A5) (a6 : A6) (a7 : A7) (a8 : A8), I a1 a2 a3 a4 a5 a6 a7 a8 → (∀ (b1 : A1) (b2 : A2) (b3 : A3) (b4 : A4) (b5 : A5) (b6 : A6) (b7 : A7) (b8 : A8), I b1 b2 b3 b4 b5 b6 b7 b8 → μ b1 b2 b3 b4 b5 b6 b7 b8 < μ a1 a2 a3 a4 a5 a6 a7 a8 → W n b1 b2 b3 b4 b5 b6 b7 b8) → W (n + 1) a1 a2 a3 a4 a5 a6 a7 a8) (a1 : A1) (a2 : A2) (a3 : A3) (a4 : A4) (a5 : A5) (a6 : A6) (a7 : A7) (a8 : A8) (h : I a1 a2 a3 a4 a5 a6 a7 a8) : ∃ n, W n a1 a2 a3 a4 a5 a6 a7 a8 :=
  loop_m (σ := A1 × A2 × A3 × A4 × A5 × A6 × A7 × A8) (fun n s => W n s.1 s.2.1 s.2.2.1 s.2.2.2.1 s.2.2.2.2.1 s.2.2.2.2.2.1 s.2.2.2.2.2.2.1 s.2.2.2.2.2.2.2) (fun s => I s.1 s.2.1 s.2.2.1 s.2.2.2.1 s.2.2.2.2.1 s.2.2.2.2.2.1 s.2.2.2.2.2.2.1 s.2.2.2.2.2.2.2) (fun s => μ s.1 s.2.1 s.2.2.1 s.2.2.2.1 s.2.2.2.2.1 s.2.2.2.2.2.1 s.2.2.2.2.2.2.1 s.2.2.2.2.2.2.2) (fun n s hI hk => hs n s.1 s.2.1 s.2.2.1 s.2.2.2.1 s.2.2.2.2.1 s.2.2.2.2.2.1 s.2.2.2.2.2.2.1 s.2.2.2.2.2.2.2 hI (fun b1 b2 b3 b4 b5 b6 b7 b8 h9 hm => hk (b1, b2, b3, b4, b5, b6, b7, b8) h9 hm)) (a1, a2, a3, a4, a5, a6, a7, a8) h
theorem lp9 {A1 A2 A3 A4 A5 A6 A7 A8 A9 : Type} (W : Nat → A1 → A2 → A3 → A4 → A5 → A6 → A7 → A8 → A9 → Prop) (I : A1 → A2 → A3 → A4 → A5 → A6 → A7 → A8 → A9 → Prop) (μ : A1 → A2 → A3 → A4 → A5 → A6 → A7 → A8 → A9 → Nat) (hs : ∀ (n : Nat) (a1 : A1) (a2 : A2) (a3 : A3) (a4 : A4) (a5 : A5) (a6 : A6) (a7 : A7) (a8 : A8) (a9 : A9), I a1 a2 a3 a4 a5 a6 a7 a8 a9 → (∀ (b1 : A1) (b2 : A2) (b3 : A3) (b4 : A4) (b5 : A5) (b6 : A6) (b7 : A7) (b8 : A8) (b9 : A9), I b1 b2 b3 b4 b5 b6 b7 b8 b9 → μ b1 b2 b3 b4 b5 b6 b7 b8 b9 < μ a1 a2 a3 a4 a5 a6 a7 a8 a9 → W n b1 b2 b3 b4 b5 b6 b7 b8 b9) → W (n + 1) a1 a2 a3 a4 a5 a6 a7 a8 a9) (a1 : A1) (a2 : A2) (a3 : A3) (a4 : A4) (a5 : A5) (a6 : A6) (a7 : A7) (a8 : A8) (a9 : A9) (h : I a1 a2 a3 a4 a5 a6 a7 a8 a9) : ∃ n, W n a1 a2 a3 a4 a5 a6 a7 a8 a9 :=
  loop_m (σ := A1 × A2 × A3 × A4 × A5 × A6 × A7 × A8 × A9) (fun n s => W n s.1 s.2.1 s.2.2.1 s.2.2.2.1 s.2.2.2.2.1 s.2.2.2.2.2.1 s.2.2.2.2.2.2.1 s.2.2.2.2.2.2.2.1 s.2.2.2.2.2.2.2.2) (fun s => I s.1 s.2.1 s.2.2.1 s.2.2.2.1 s.2.2.2.2.1 s.2.2.2.2.2.1 s.2.2.2.2.2.2.1 s.2.2.2.2.2.2.2.1 s.2.2.2.2.2.2.2.2) (fun s => μ s.1 s.2.1 s.2.2.1 s.2.2.2.1 s.2.2.2.2.1 s.2.2.2.2.2.1 s.2.2.2.2.2.2.1 s.2.2.2.2.2.2.2.1 s.2.2.2.2.2.2.2.2) (fun n s hI hk => hs n s.1 s.2.1 s.2.2.1 s.2.2.2.1 s.2.2.2.2.1 s.2.2.2.2.2.1 s.2.2.2.2.2.2.1 s.2.2.2.2.2.2.2.1 s.2.2.2.2.2.2.2.2 hI (fun b1 b2 b3 b4 b5 b6 b7 b8 b9 h9 hm => hk (b1, b2, b3, b4, b5, b6, b7, b8, b9) h9 hm)) (a1, a2, a3, a4, a5, a6, a7, a8, a9) h
theorem lp10 {A1 A2 A3 A4 A5 A6 A7 A8 A9 A10 : Type} (W : Nat → A1 → A2 → A3 → A4 → A5 → A6 → A7 → A8 → A9 → A10 → Prop) (I : A1 → A2 → A3 → A4 → A5 → A6 → A7 → A8 → A9 → A10 → Prop) (μ : A1 → A2 → A3 → A4 → A5 → A6 → A7 → A8 → A9 → A10 → Nat) (hs : ∀ (n : Nat) (a1 : A1) (a2 : A2) (a3 : A3) (a4 : A4) (a5 : A5) (a6 : A6) (a7 : A7) (a8 : A8) (a9 : A9) (a10 : A10), I a1 a2 a3 a4 a5 a6 a7 a8 a9 a10 → (∀ (b1 : A1) (b2 : A2) (b3 : A3) (b4 : A4) (b5 : A5) (b6 : A6) (b7 : A7) (b8 : A8) (b9 : A9) (b10 : A10), I b1 b2 b3 b4 b5 b6 b7 b8 b9 b10 → μ b1 b2 b3 b4 b5 b6 b7 b8 b9 b10 < μ a1 a2 a3 a4 a5 a6 a7 a8 a9 a10 → W n b1 b2 b3 b4 b5 b6 b7 b8 b9 b10) → W (n + 1) a1 a2 a3 a4 a5 a6 a7 a8 a9 a10) (a1 : A1) (a2 : A2) (a3 : A3) (a4 : A4) (a5 : A5) (a6 : A6) (a7 : A7) (a8 : A8) (a9 : A9) (a10 : A10) (h : I a1 a2 a3 a4 a5 a6 a7 a8 a9 a10) : ∃ n, W n a1 a2 a3 a4 a5 a6 a7 a8 a9 a10 :=
  loop_m (σ := A1 × A2 × A3 × A4 × A5 × A6 × A7 × A8 × A9 × A10) (fun n s => W n s.1 s.2.1 s.2.2.1 s.2.2.2.1 s.2.2.2.2.1 s.2.2.2.2.2.1 s.2.2.2.2.2.2.1 s.2.2.2.2.2.2.2.1 s.2.2.2.2.2.2.2.2.1 s.2.2.2.2.2.2.2.2.2) (fun s => I s.1 s.2.1 s.2.2.1 s.2.2.2.1 s.2.2.2.2.1 s.2.2.2.2.2.1 s.2.2.2.2.2.2.1 s.2.2.2.2.2.2.2.1 s.2.2.2.2.2.2.2.2.1 s.2.2.2.2.2.2.2.2.2) (fun s => μ s.1 s.2.1 s.2.2.1 s.2.2.2.1 s.2.2.2.2.1 s.2.2.2.2.2.1 s.2.2.2.2.2.2.1 s.2.2.2.2.2.2.2.1 s.2.2.2.2.2.2.2.2.1 s.2.2.2.2.2.2.2.2.2) (fun n s hI hk => hs n s.1 s.2.1 s.2.2.1 s.2.2.2.1 s.2.2.2.2.1 s.2.2.2.2.2.1 s.2.2.2.2.2.2.1 s.2.2.2.2.2.2.2.1 s.2.2.2.2.2.2.2.2.1 s.2.2.2.2.2.2.2.2.2 hI (fun b1 b2 b3 b4 b5 b6 b7 b8 b9 b10 h9 hm => hk (b1, b2, b3, b4, b5, b6, b7, b8, b9, b10) h9 hm)) (a1, a2, a3, a4, a5, a6, a7, a8, a9, a10) h
theorem pk_least (P : Nat → Prop) (h : ∃ k, P k) : ∃ k, P k ∧ ∀ j, j < k → ¬ P j := by
  obtain ⟨k, hk⟩ := h
  induction k using Nat.strongRecOn with
  | ind k ih =>
    by_cases e : ∃ j, j < k ∧ P j
    · obtain ⟨j, hj, pj⟩ := e
      exact ih j hj pj
    · exact ⟨k, hk, fun j hj pj => e ⟨j, hj, pj⟩⟩
theorem ek_if {c d A B : Prop} (e : c ↔ d) (f : d → A) (g : ¬ d → B) : (c → A) ∧ (¬ c → B) :=
  ⟨fun z => f (e.mp z), fun z => g (fun y => z (e.mpr y))⟩
theorem ek_v {α : Sort _} {P : α → Prop} {a b : α} (e : a = b) (h : P b) : P a := e ▸ h
theorem sb_shr0 (x : Int32) : x >>> ((0 : Int32) &&& 31) = x := by
  rw [show ((0 : Int32) &&& 31) = 0 by decide]
  simp
theorem sb_shl0 (x : Int32) : x <<< ((0 : Int32) &&& 31) = x := by
  rw [show ((0 : Int32) &&& 31) = 0 by decide]
  simp
theorem sb_cl0 : (0 : Int32).toNatClampNeg = 0 := by decide
theorem sb_m1 {p : Nat} (h : 0 < p) : nI p + (-1) = nI (p - 1) := by
  obtain ⟨q, rfl⟩ : ∃ q, p = q + 1 := ⟨p - 1, by omega⟩
  exact pk_m1 q
/-! ===== Int32 by its bits: bt x i ===== -/
def bt (x : Int32) (i : Nat) : Bool := x.toBitVec.getLsbD i
theorem b_ext {x y : Int32} (h : ∀ i, i < 32 → bt x i = bt y i) : x = y := Int32.toBitVec_inj.mp (BitVec.eq_of_getLsbD_eq (fun i hi => h i hi))
theorem b_or (x y : Int32) (i : Nat) : bt (x ||| y) i = (bt x i || bt y i) := by unfold bt; rw [Int32.toBitVec_or, BitVec.getLsbD_or]
theorem b_and (x y : Int32) (i : Nat) : bt (x &&& y) i = (bt x i && bt y i) := by unfold bt; rw [Int32.toBitVec_and, BitVec.getLsbD_and]
theorem b_xor (x y : Int32) (i : Nat) : bt (x ^^^ y) i = (bt x i ^^ bt y i) := by unfold bt; rw [Int32.toBitVec_xor, BitVec.getLsbD_xor]
theorem b_big {x : Int32} {i : Nat} (h : 32 ≤ i) : bt x i = false := BitVec.getLsbD_of_ge _ _ h
theorem b_255 (i : Nat) : bt 255 i = decide (i < 8) := by
  rcases Nat.lt_or_ge i 32 with h | h
  · exact (by decide +kernel : ∀ i, i < 32 → bt 255 i = decide (i < 8)) i h
  · rw [b_big h, decide_eq_false (by omega)]
theorem b_65535 (i : Nat) : bt 65535 i = decide (i < 16) := by
  rcases Nat.lt_or_ge i 32 with h | h
  · exact (by decide +kernel : ∀ i, i < 32 → bt 65535 i = decide (i < 16)) i h
  · rw [b_big h, decide_eq_false (by omega)]
theorem b_m1 : ∀ i, i < 32 → bt (-1) i = true := by decide +kernel
theorem b_0 (i : Nat) : bt 0 i = false := BitVec.getLsbD_zero
theorem s_l : ∀ n, n < 32 → ((nI n &&& 31).toBitVec.smod 32).toNat = n := by decide +kernel
theorem s_u : ∀ n, n < 32 → (((nI n).toUInt32 &&& Int32.toUInt32 31).toBitVec % 32).toNat = n := by decide +kernel
theorem b_shl (n : Nat) (hn : n < 32) (x : Int32) {i : Nat} (hi : i < 32) : bt (x <<< (nI n &&& 31)) i = (decide (n ≤ i) && bt x (i - n)) := by
  unfold bt
  rw [Int32.toBitVec_shiftLeft]
  show (x.toBitVec <<< ((nI n &&& 31).toBitVec.smod 32).toNat).getLsbD i = _
  rw [s_l n hn, BitVec.getLsbD_shiftLeft]
  rcases Nat.lt_or_ge i n with h | h
  · simp [h, Nat.not_le.mpr h]
  · simp [hi, h, Nat.not_lt.mpr h]
theorem b_ushr (n : Nat) (hn : n < 32) (x : Int32) (i : Nat) : bt ((x.toUInt32 >>> ((nI n).toUInt32 &&& Int32.toUInt32 31)).toInt32) i = bt x (n + i) := by
  show (x.toUInt32 >>> ((nI n).toUInt32 &&& Int32.toUInt32 31)).toBitVec.getLsbD i = x.toUInt32.toBitVec.getLsbD (n + i)
  rw [UInt32.toBitVec_shiftRight]
  show (x.toUInt32.toBitVec >>> (((nI n).toUInt32 &&& Int32.toUInt32 31).toBitVec % 32).toNat).getLsbD i = _
  rw [s_u n hn, BitVec.getLsbD_ushiftRight]
theorem b_sshr (n : Nat) (hn : n < 32) (x : Int32) {i : Nat} (hi : i < 32) : bt (x >>> (nI n &&& 31)) i = if n + i < 32 then bt x (n + i) else bt x 31 := by
  unfold bt
  rw [Int32.toBitVec_shiftRight]
  show (x.toBitVec.sshiftRight ((nI n &&& 31).toBitVec.smod 32).toNat).getLsbD i = _
  rw [s_l n hn, BitVec.getLsbD_sshiftRight, BitVec.msb_eq_getLsbD_last]
  simp [hi]
theorem b_shl8 (x : Int32) {i : Nat} (hi : i < 32) : bt (x <<< ((8 : Int32) &&& 31)) i = (decide (8 ≤ i) && bt x (i - 8)) := b_shl 8 (by omega) x hi
theorem b_shl16 (x : Int32) {i : Nat} (hi : i < 32) : bt (x <<< ((16 : Int32) &&& 31)) i = (decide (16 ≤ i) && bt x (i - 16)) := b_shl 16 (by omega) x hi
theorem b_shl24 (x : Int32) {i : Nat} (hi : i < 32) : bt (x <<< ((24 : Int32) &&& 31)) i = (decide (24 ≤ i) && bt x (i - 24)) := b_shl 24 (by omega) x hi
theorem b_sshr8 (x : Int32) {i : Nat} (hi : i < 32) : bt (x >>> ((8 : Int32) &&& 31)) i = if 8 + i < 32 then bt x (8 + i) else bt x 31 := b_sshr 8 (by omega) x hi
end
section
/-! ===== expressions as trees over NAME tokens, and their words =====
   var i: NAME token i; num, natCast, intCast: NOTHING; neg: OPTION; add: CHOICE; mul: SEQ; sub: BOTH;
   pow x k: k < 16 TIMES with this value; 16 STAR; 17 PLUS -/
abbrev ex_T : Type := Lean.Grind.CommRing.Expr
def ex_lo (k : Nat) : Nat := if k < 16 then k / 4 else k - 16
def ex_hi (k j : Nat) : Prop := k < 16 → j ≤ k % 4
def ex_pw (L : List Nat → Prop) : Nat → List Nat → Prop
  | 0 => fun u => u = []
  | j + 1 => fun u => ∃ a b, u = a ++ b ∧ L a ∧ ex_pw L j b
def ex_cat (A B : List Nat → Prop) (u : List Nat) : Prop := ∃ a b, u = a ++ b ∧ A a ∧ B b
def ex_L (f : Nat → Nat) : ex_T → List Nat → Prop
  | .var i => fun u => u = [f i]
  | .num _ => fun u => u = []
  | .natCast _ => fun u => u = []
  | .intCast _ => fun u => u = []
  | .neg a => fun u => u = [] ∨ ex_L f a u
  | .add a b => fun u => ex_L f a u ∨ ex_L f b u
  | .mul a b => ex_cat (ex_L f a) (ex_L f b)
  | .sub a b => fun u => ex_cat (ex_L f a) (ex_L f b) u ∨ ex_cat (ex_L f b) (ex_L f a) u
  | .pow a k => fun u => ∃ j, ex_lo k ≤ j ∧ ex_hi k j ∧ ex_pw (ex_L f a) j u
/-- well made: TIMES as the document says -/
def ex_W : ex_T → Prop
  | .var _ => True
  | .num _ => True
  | .natCast _ => True
  | .intCast _ => True
  | .neg a => ex_W a
  | .add a b => ex_W a ∧ ex_W b
  | .mul a b => ex_W a ∧ ex_W b
  | .sub a b => ex_W a ∧ ex_W b
  | .pow a k => ex_W a ∧ k < 18 ∧ (k < 16 → k / 4 ≤ k % 4 ∧ 1 ≤ k % 4)
def ex_m (k : Nat) : Nat := if k < 16 then k % 4 else 1
def ex_w : ex_T → Nat
  | .var _ => 1
  | .num _ => 0
  | .natCast _ => 0
  | .intCast _ => 0
  | .neg a => ex_w a
  | .add a b => ex_w a + ex_w b
  | .mul a b => ex_w a + ex_w b
  | .sub a b => 2 * (ex_w a + ex_w b)
  | .pow a k => ex_m k * ex_w a
theorem ex_pw_mono {A B : List Nat → Prop} (h : ∀ u, A u → B u) : ∀ j u, ex_pw A j u → ex_pw B j u := by
  intro j
  induction j with
  | zero => intro u hu; exact hu
  | succ j ih =>
    rintro u ⟨a, b, e, ha, hb⟩
    exact ⟨a, b, e, h a ha, ih b hb⟩
theorem ex_pw_congr {A B : List Nat → Prop} (h : ∀ u, A u ↔ B u) (j : Nat) (u : List Nat) : ex_pw A j u ↔ ex_pw B j u :=
  ⟨ex_pw_mono (fun u => (h u).mp) j u, ex_pw_mono (fun u => (h u).mpr) j u⟩
theorem ex_pw_eps {L : List Nat → Prop} (h : L []) : ∀ j, ex_pw L j [] := by
  intro j
  induction j with
  | zero => exact rfl
  | succ j ih => exact ⟨[], [], rfl, h, ih⟩
theorem ex_pw_one {L : List Nat → Prop} {u : List Nat} : ex_pw L 1 u ↔ L u := by
  constructor
  · rintro ⟨a, b, e, ha, hb⟩
    have hb' : b = [] := hb
    rw [hb', List.append_nil] at e
    rw [e]; exact ha
  · intro h
    exact ⟨u, [], (List.append_nil u).symm, h, rfl⟩
/-- a nonempty word of a power begins with a nonempty word of the part -/
theorem ex_pw_cons {L : List Nat → Prop} : ∀ (j : Nat) (a : Nat) (u : List Nat), ex_pw L j (a :: u) → ∃ x y, u = x ++ y ∧ L (a :: x) ∧ ∃ j', j = j' + 1 ∧ (ex_pw L j' y ∨ (L [] ∧ ∃ i, i ≤ j' ∧ ex_pw L i y)) := by
  intro j
  induction j with
  | zero => intro a u h; cases h
  | succ j ih =>
    rintro a u ⟨x, y, e, hx, hy⟩
    cases x with
    | nil =>
      have e' : y = a :: u := e.symm
      rw [e'] at hy
      obtain ⟨x', y', e1, h1, j', ej, h2⟩ := ih a u hy
      refine ⟨x', y', e1, h1, j, rfl, Or.inr ⟨hx, ?_⟩⟩
      rcases h2 with h2 | ⟨_, i, hi, h2⟩
      · exact ⟨j', by omega, h2⟩
      · exact ⟨i, by omega, h2⟩
    | cons b x =>
      have e1 : a = b ∧ u = x ++ y := by
        rw [List.cons_append] at e
        exact ⟨(List.cons.inj e).1, (List.cons.inj e).2⟩
      rw [← e1.1] at hx
      exact ⟨x, y, e1.2, hx, j, rfl, Or.inl hy⟩
theorem ex_cat_congr {A B C D : List Nat → Prop} (h : ∀ u, A u ↔ C u) (h' : ∀ u, B u ↔ D u) (u : List Nat) : ex_cat A B u ↔ ex_cat C D u := by
  constructor
  · rintro ⟨a, b, e, ha, hb⟩; exact ⟨a, b, e, (h a).mp ha, (h' b).mp hb⟩
  · rintro ⟨a, b, e, ha, hb⟩; exact ⟨a, b, e, (h a).mpr ha, (h' b).mpr hb⟩
theorem ex_cat_map {A B : List Nat → Prop} {A' B' : List Nat → Prop} {f : Nat → Nat} (hA : ∀ w, A' w ↔ ∃ u, A u ∧ u.map f = w) (hB : ∀ w, B' w ↔ ∃ u, B u ∧ u.map f = w) (w : List Nat) : ex_cat A' B' w ↔ ∃ u, ex_cat A B u ∧ u.map f = w := by
  constructor
  · rintro ⟨a, b, e, ha, hb⟩
    obtain ⟨a', ha', ea⟩ := (hA a).mp ha
    obtain ⟨b', hb', eb⟩ := (hB b).mp hb
    exact ⟨a' ++ b', ⟨a', b', rfl, ha', hb'⟩, by rw [List.map_append, ea, eb, e]⟩
  · rintro ⟨u, ⟨a, b, e, ha, hb⟩, ew⟩
    refine ⟨a.map f, b.map f, ?_, (hA _).mpr ⟨a, ha, rfl⟩, (hB _).mpr ⟨b, hb, rfl⟩⟩
    rw [← ew, e, List.map_append]
theorem ex_pw_map {A A' : List Nat → Prop} {f : Nat → Nat} (hA : ∀ w, A' w ↔ ∃ u, A u ∧ u.map f = w) : ∀ (j : Nat) (w : List Nat), ex_pw A' j w ↔ ∃ u, ex_pw A j u ∧ u.map f = w := by
  intro j
  induction j with
  | zero =>
    intro w
    constructor
    · intro h
      have h' : w = [] := h
      exact ⟨[], rfl, by rw [h']; rfl⟩
    · rintro ⟨u, hu, e⟩
      have hu' : u = [] := hu
      rw [hu'] at e
      exact e.symm
  | succ j ih =>
    intro w
    exact ex_cat_map hA ih w
/-- the words by f are the images of the words by id -/
theorem ex_L_map (f : Nat → Nat) : ∀ (R : ex_T) (w : List Nat), ex_L f R w ↔ ∃ u, ex_L id R u ∧ u.map f = w := by
  intro R
  induction R with
  | num k => intro w; exact ⟨fun h => ⟨[], rfl, h.symm⟩, fun ⟨u, hu, e⟩ => by rw [show u = [] from hu] at e; exact e.symm⟩
  | natCast k => intro w; exact ⟨fun h => ⟨[], rfl, h.symm⟩, fun ⟨u, hu, e⟩ => by rw [show u = [] from hu] at e; exact e.symm⟩
  | intCast k => intro w; exact ⟨fun h => ⟨[], rfl, h.symm⟩, fun ⟨u, hu, e⟩ => by rw [show u = [] from hu] at e; exact e.symm⟩
  | var i => intro w; exact ⟨fun h => ⟨[i], rfl, h.symm⟩, fun ⟨u, hu, e⟩ => by rw [show u = [i] from hu] at e; exact e.symm⟩
  | neg a ih =>
    intro w
    constructor
    · rintro (h | h)
      · exact ⟨[], Or.inl rfl, h.symm⟩
      · obtain ⟨u, hu, e⟩ := (ih w).mp h
        exact ⟨u, Or.inr hu, e⟩
    · rintro ⟨u, hu | hu, e⟩
      · rw [hu] at e; exact Or.inl e.symm
      · exact Or.inr ((ih w).mpr ⟨u, hu, e⟩)
  | add a b iha ihb =>
    intro w
    constructor
    · rintro (h | h)
      · obtain ⟨u, hu, e⟩ := (iha w).mp h
        exact ⟨u, Or.inl hu, e⟩
      · obtain ⟨u, hu, e⟩ := (ihb w).mp h
        exact ⟨u, Or.inr hu, e⟩
    · rintro ⟨u, hu | hu, e⟩
      · exact Or.inl ((iha w).mpr ⟨u, hu, e⟩)
      · exact Or.inr ((ihb w).mpr ⟨u, hu, e⟩)
  | mul a b iha ihb => intro w; exact ex_cat_map iha ihb w
  | sub a b iha ihb =>
    intro w
    constructor
    · rintro (h | h)
      · obtain ⟨u, hu, e⟩ := (ex_cat_map iha ihb w).mp h
        exact ⟨u, Or.inl hu, e⟩
      · obtain ⟨u, hu, e⟩ := (ex_cat_map ihb iha w).mp h
        exact ⟨u, Or.inr hu, e⟩
    · rintro ⟨u, hu | hu, e⟩
      · exact Or.inl ((ex_cat_map iha ihb w).mpr ⟨u, hu, e⟩)
      · exact Or.inr ((ex_cat_map ihb iha w).mpr ⟨u, hu, e⟩)
  | pow a k ih =>
    intro w
    constructor
    · rintro ⟨j, h1, h2, h⟩
      obtain ⟨u, hu, e⟩ := (ex_pw_map ih j w).mp h
      exact ⟨u, ⟨j, h1, h2, hu⟩, e⟩
    · rintro ⟨u, ⟨j, h1, h2, hu⟩, e⟩
      exact ⟨j, h1, h2, (ex_pw_map ih j w).mpr ⟨u, hu, e⟩⟩
theorem ex_lohi {k : Nat} (h : k < 16 → k / 4 ≤ k % 4 ∧ 1 ≤ k % 4) : ex_hi k (ex_lo k) := by
  intro hk
  unfold ex_lo
  rw [if_pos hk]
  exact (h hk).1
theorem ex_pw_ne {L : List Nat → Prop} (h : ∃ u, L u) : ∀ j, ∃ u, ex_pw L j u := by
  intro j
  induction j with
  | zero => exact ⟨[], rfl⟩
  | succ j ih =>
    obtain ⟨a, ha⟩ := h
    obtain ⟨b, hb⟩ := ih
    exact ⟨a ++ b, a, b, rfl, ha, hb⟩
/-- every expression has a word -/
theorem ex_ne (f : Nat → Nat) : ∀ (R : ex_T), ex_W R → ∃ u, ex_L f R u := by
  intro R
  induction R with
  | num k => intro _; exact ⟨[], rfl⟩
  | natCast k => intro _; exact ⟨[], rfl⟩
  | intCast k => intro _; exact ⟨[], rfl⟩
  | var i => intro _; exact ⟨[f i], rfl⟩
  | neg a ih => intro _; exact ⟨[], Or.inl rfl⟩
  | add a b iha ihb => intro h; obtain ⟨u, hu⟩ := iha h.1; exact ⟨u, Or.inl hu⟩
  | mul a b iha ihb =>
    intro h
    obtain ⟨u, hu⟩ := iha h.1
    obtain ⟨v, hv⟩ := ihb h.2
    exact ⟨u ++ v, u, v, rfl, hu, hv⟩
  | sub a b iha ihb =>
    intro h
    obtain ⟨u, hu⟩ := iha h.1
    obtain ⟨v, hv⟩ := ihb h.2
    exact ⟨u ++ v, Or.inl ⟨u, v, rfl, hu, hv⟩⟩
  | pow a k ih =>
    intro h
    obtain ⟨u, hu⟩ := ex_pw_ne (ih h.1) (ex_lo k)
    exact ⟨u, ex_lo k, Nat.le_refl _, ex_lohi h.2.2, hu⟩
theorem ex_cat_eps {A B : List Nat → Prop} (hA : ∀ u, A u ↔ u = []) (hB : ∀ u, B u ↔ u = []) (u : List Nat) : ex_cat A B u ↔ u = [] := by
  constructor
  · rintro ⟨a, b, e, ha, hb⟩
    rw [(hA a).mp ha, (hB b).mp hb] at e
    exact e
  · intro h
    exact ⟨[], [], h, (hA _).mpr rfl, (hB _).mpr rfl⟩
theorem ex_pw_epsI {A : List Nat → Prop} (hA : ∀ u, A u ↔ u = []) : ∀ (j : Nat) (u : List Nat), ex_pw A j u ↔ u = [] := by
  intro j
  induction j with
  | zero => intro u; exact Iff.rfl
  | succ j ih => intro u; exact ex_cat_eps hA ih u
/-- an expression of weight 0 has the empty word alone -/
theorem ex_w0 (f : Nat → Nat) : ∀ (R : ex_T), ex_W R → ex_w R = 0 → ∀ u, ex_L f R u ↔ u = [] := by
  intro R
  induction R with
  | num k => intro _ _ u; exact Iff.rfl
  | natCast k => intro _ _ u; exact Iff.rfl
  | intCast k => intro _ _ u; exact Iff.rfl
  | var i => intro _ h; cases h
  | neg a ih =>
    intro h h0 u
    have := ih h h0 u
    constructor
    · rintro (h | h)
      · exact h
      · exact this.mp h
    · intro h; exact Or.inl h
  | add a b iha ihb =>
    intro h h0 u
    have h0' : ex_w a + ex_w b = 0 := h0
    have h1 := iha h.1 (by omega) u
    have h2 := ihb h.2 (by omega) u
    constructor
    · rintro (h | h)
      · exact h1.mp h
      · exact h2.mp h
    · intro h; exact Or.inl (h1.mpr h)
  | mul a b iha ihb =>
    intro h h0 u
    have h0' : ex_w a + ex_w b = 0 := h0
    exact ex_cat_eps (iha h.1 (by omega)) (ihb h.2 (by omega)) u
  | sub a b iha ihb =>
    intro h h0 u
    have h0' : 2 * (ex_w a + ex_w b) = 0 := h0
    have h1 := ex_cat_eps (iha h.1 (by omega)) (ihb h.2 (by omega)) u
    have h2 := ex_cat_eps (ihb h.2 (by omega)) (iha h.1 (by omega)) u
    constructor
    · rintro (h | h)
      · exact h1.mp h
      · exact h2.mp h
    · intro h; exact Or.inl (h1.mpr h)
  | pow a k ih =>
    intro h h0 u
    have h0' : ex_m k * ex_w a = 0 := h0
    have hm : 1 ≤ ex_m k := by
      unfold ex_m
      by_cases hk : k < 16
      · rw [if_pos hk]; exact (h.2.2 hk).2
      · rw [if_neg hk]; exact Nat.le_refl 1
    have ha : ex_w a = 0 := by
      rcases Nat.mul_eq_zero.mp h0' with h | h
      · omega
      · exact h
    have hp := ex_pw_epsI (ih h.1 ha)
    constructor
    · rintro ⟨j, _, _, hj⟩
      exact (hp j u).mp hj
    · intro hu
      exact ⟨ex_lo k, Nat.le_refl _, ex_lohi h.2.2, (hp _ u).mpr hu⟩
end
section
/-! ===== fragments of automata: positions, what follows them, and the words they spell ===== -/
def gl_A (φ : Nat → Nat → Prop) (tk : Nat → Nat) (Λ : Nat → Prop) : List Nat → Nat → Prop
  | [] => fun p => Λ p
  | a :: u => fun p => ∃ q, φ p q ∧ tk q = a ∧ gl_A φ tk Λ u q
/-- D: its positions; F, Λ: first and last ones; em: whether it may be empty; L: its words, rows of tokens -/
def gl_F (φ : Nat → Nat → Prop) (tk : Nat → Nat) (D F Λ : Nat → Prop) (em : Prop) (L : List Nat → Prop) : Prop :=
  (∀ q, F q → D q) ∧ (∀ q, Λ q → D q) ∧ (∀ p q, D p → φ p q → D q) ∧ (em ↔ L []) ∧
  (∀ a u, L (a :: u) ↔ ∃ q, F q ∧ tk q = a ∧ gl_A φ tk Λ u q) ∧ (∀ p, D p → ∃ u, gl_A φ tk Λ u p)
theorem gl_A_cg {φ φ' : Nat → Nat → Prop} {tk tk' : Nat → Nat} {D Λ : Nat → Prop} (hc : ∀ p q, D p → φ p q → D q) (hf : ∀ p q, D p → (φ' p q ↔ φ p q)) (ht : ∀ p, D p → tk' p = tk p) : ∀ u p, D p → (gl_A φ' tk' Λ u p ↔ gl_A φ tk Λ u p) := by
  intro u
  induction u with
  | nil => intro p _; exact Iff.rfl
  | cons a u ih =>
    intro p hp
    constructor
    · rintro ⟨q, h1, h2, h3⟩
      have h1' := (hf p q hp).mp h1
      have hq := hc p q hp h1'
      exact ⟨q, h1', (ht q hq).symm.trans h2, (ih q hq).mp h3⟩
    · rintro ⟨q, h1, h2, h3⟩
      have hq := hc p q hp h1
      exact ⟨q, (hf p q hp).mpr h1, (ht q hq).trans h2, (ih q hq).mpr h3⟩
/-- what is changed outside of its positions does not matter -/
theorem gl_F_cg {φ φ' : Nat → Nat → Prop} {tk tk' : Nat → Nat} {D F Λ : Nat → Prop} {em : Prop} {L : List Nat → Prop} (h : gl_F φ tk D F Λ em L) (hf : ∀ p q, D p → (φ' p q ↔ φ p q)) (ht : ∀ p, D p → tk' p = tk p) : gl_F φ' tk' D F Λ em L := by
  obtain ⟨h1, h2, h3, h4, h5, h6⟩ := h
  refine ⟨h1, h2, fun p q hp hq => h3 p q hp ((hf p q hp).mp hq), h4, fun a u => ?_, fun p hp => ?_⟩
  · rw [h5]
    constructor
    · rintro ⟨q, hq, e, hA⟩
      exact ⟨q, hq, (ht q (h1 q hq)).trans e, (gl_A_cg h3 hf ht u q (h1 q hq)).mpr hA⟩
    · rintro ⟨q, hq, e, hA⟩
      exact ⟨q, hq, (ht q (h1 q hq)).symm.trans e, (gl_A_cg h3 hf ht u q (h1 q hq)).mp hA⟩
  · obtain ⟨u, hu⟩ := h6 p hp
    exact ⟨u, (gl_A_cg h3 hf ht u p hp).mpr hu⟩
theorem gl_A_L {φ : Nat → Nat → Prop} {tk : Nat → Nat} {Λ Λ' : Nat → Prop} (h : ∀ p, Λ p ↔ Λ' p) : ∀ u p, gl_A φ tk Λ u p ↔ gl_A φ tk Λ' u p := by
  intro u
  induction u with
  | nil => intro p; exact h p
  | cons a u ih =>
    intro p
    constructor
    · rintro ⟨q, h1, h2, h3⟩; exact ⟨q, h1, h2, (ih q).mp h3⟩
    · rintro ⟨q, h1, h2, h3⟩; exact ⟨q, h1, h2, (ih q).mpr h3⟩
/-- the same in other words -/
theorem gl_F_eq {φ : Nat → Nat → Prop} {tk : Nat → Nat} {D D' F F' Λ Λ' : Nat → Prop} {em em' : Prop} {L L' : List Nat → Prop} (h : gl_F φ tk D F Λ em L) (hD : ∀ p, D' p ↔ D p) (hF : ∀ p, F' p ↔ F p) (hΛ : ∀ p, Λ' p ↔ Λ p) (he : em' ↔ em) (hL : ∀ u, L' u ↔ L u) : gl_F φ tk D' F' Λ' em' L' := by
  obtain ⟨h1, h2, h3, h4, h5, h6⟩ := h
  refine ⟨fun q hq => (hD q).mpr (h1 q ((hF q).mp hq)), fun q hq => (hD q).mpr (h2 q ((hΛ q).mp hq)), fun p q hp hq => (hD q).mpr (h3 p q ((hD p).mp hp) hq), ?_, fun a u => ?_, fun p hp => ?_⟩
  · rw [he, h4, hL]
  · rw [hL, h5]
    constructor
    · rintro ⟨q, hq, e, hA⟩; exact ⟨q, (hF q).mpr hq, e, (gl_A_L hΛ u q).mpr hA⟩
    · rintro ⟨q, hq, e, hA⟩; exact ⟨q, (hF q).mp hq, e, (gl_A_L hΛ u q).mp hA⟩
  · obtain ⟨u, hu⟩ := h6 p ((hD p).mp hp)
    exact ⟨u, (gl_A_L hΛ u p).mpr hu⟩
/-- SEQ -/
theorem gl_seq {φ φ' : Nat → Nat → Prop} {tk : Nat → Nat} {D1 F1 Λ1 : Nat → Prop} {e1 : Prop} {L1 : List Nat → Prop} {D2 F2 Λ2 : Nat → Prop} {e2 : Prop} {L2 : List Nat → Prop} (h1 : gl_F φ tk D1 F1 Λ1 e1 L1) (h2 : gl_F φ tk D2 F2 Λ2 e2 L2) (hd : ∀ p, D1 p → D2 p → False) (hne : ∃ u, L2 u)
    (hφ : ∀ p q, φ' p q ↔ φ p q ∨ (Λ1 p ∧ F2 q)) :
    gl_F φ' tk (fun p => D1 p ∨ D2 p) (fun q => F1 q ∨ (e1 ∧ F2 q)) (fun q => Λ2 q ∨ (e2 ∧ Λ1 q)) (e1 ∧ e2) (ex_cat L1 L2) := by
  obtain ⟨a1, a2, a3, a4, a5, a6⟩ := h1
  obtain ⟨b1, b2, b3, b4, b5, b6⟩ := h2
  have k1 : ∀ u p, D2 p → (gl_A φ' tk (fun q => Λ2 q ∨ (e2 ∧ Λ1 q)) u p ↔ gl_A φ tk Λ2 u p) := by
    intro u
    induction u with
    | nil =>
      intro p hp
      constructor
      · rintro (h | h)
        · exact h
        · exact (hd p (a2 p h.2) hp).elim
      · intro h; exact Or.inl h
    | cons a u ih =>
      intro p hp
      constructor
      · rintro ⟨q, h, e, hA⟩
        rcases (hφ p q).mp h with h | h
        · exact ⟨q, h, e, (ih q (b3 p q hp h)).mp hA⟩
        · exact (hd p (a2 p h.1) hp).elim
      · rintro ⟨q, h, e, hA⟩
        exact ⟨q, (hφ p q).mpr (Or.inl h), e, (ih q (b3 p q hp h)).mpr hA⟩
  have k2 : ∀ u p, D1 p → (gl_A φ' tk (fun q => Λ2 q ∨ (e2 ∧ Λ1 q)) u p ↔ ∃ x y, u = x ++ y ∧ gl_A φ tk Λ1 x p ∧ L2 y) := by
    intro u
    induction u with
    | nil =>
      intro p hp
      constructor
      · rintro (h | h)
        · exact (hd p hp (b2 p h)).elim
        · exact ⟨[], [], rfl, h.2, b4.mp h.1⟩
      · rintro ⟨x, y, e, hx, hy⟩
        cases x with
        | nil =>
          have ey : y = [] := e.symm
          rw [ey] at hy
          exact Or.inr ⟨b4.mpr hy, hx⟩
        | cons b x => cases e
    | cons a u ih =>
      intro p hp
      constructor
      · rintro ⟨q, h, e, hA⟩
        rcases (hφ p q).mp h with h | h
        · obtain ⟨x, y, ex, hx, hy⟩ := (ih q (a3 p q hp h)).mp hA
          exact ⟨a :: x, y, by rw [ex]; rfl, ⟨q, h, e, hx⟩, hy⟩
        · exact ⟨[], a :: u, rfl, h.1, (b5 a u).mpr ⟨q, h.2, e, (k1 u q (b1 q h.2)).mp hA⟩⟩
      · rintro ⟨x, y, ex, hx, hy⟩
        cases x with
        | nil =>
          have ey : y = a :: u := ex.symm
          rw [ey] at hy
          obtain ⟨q, hq, e, hA⟩ := (b5 a u).mp hy
          exact ⟨q, (hφ p q).mpr (Or.inr ⟨hx, hq⟩), e, (k1 u q (b1 q hq)).mpr hA⟩
        | cons b x =>
          have e2 := List.cons.inj ex
          obtain ⟨q, h, e, hA⟩ := hx
          exact ⟨q, (hφ p q).mpr (Or.inl h), e.trans e2.1.symm, (ih q (a3 p q hp h)).mpr ⟨x, y, e2.2, hA, hy⟩⟩
  refine ⟨?_, ?_, ?_, ?_, ?_, ?_⟩
  · rintro q (h | h)
    · exact Or.inl (a1 q h)
    · exact Or.inr (b1 q h.2)
  · rintro q (h | h)
    · exact Or.inr (b2 q h)
    · exact Or.inl (a2 q h.2)
  · intro p q hp h
    rcases (hφ p q).mp h with h | h
    · rcases hp with hp | hp
      · exact Or.inl (a3 p q hp h)
      · exact Or.inr (b3 p q hp h)
    · exact Or.inr (b1 q h.2)
  · constructor
    · intro h
      exact ⟨[], [], rfl, a4.mp h.1, b4.mp h.2⟩
    · rintro ⟨x, y, e, hx, hy⟩
      have e' := List.nil_eq_append_iff.mp e
      rw [e'.1] at hx
      rw [e'.2] at hy
      exact ⟨a4.mpr hx, b4.mpr hy⟩
  · intro a u
    constructor
    · rintro ⟨x, y, e, hx, hy⟩
      cases x with
      | nil =>
        have ey : y = a :: u := e.symm
        rw [ey] at hy
        obtain ⟨q, hq, e, hA⟩ := (b5 a u).mp hy
        exact ⟨q, Or.inr ⟨a4.mpr hx, hq⟩, e, (k1 u q (b1 q hq)).mpr hA⟩
      | cons b x =>
        have e2 := List.cons.inj e
        rw [← e2.1] at hx
        obtain ⟨q, hq, e, hA⟩ := (a5 a x).mp hx
        exact ⟨q, Or.inl hq, e, (k2 u q (a1 q hq)).mpr ⟨x, y, e2.2, hA, hy⟩⟩
    · rintro ⟨q, hq | hq, e, hA⟩
      · obtain ⟨x, y, ex, hx, hy⟩ := (k2 u q (a1 q hq)).mp hA
        exact ⟨a :: x, y, by rw [ex]; rfl, (a5 a x).mpr ⟨q, hq, e, hx⟩, hy⟩
      · exact ⟨[], a :: u, rfl, a4.mp hq.1, (b5 a u).mpr ⟨q, hq.2, e, (k1 u q (b1 q hq.2)).mp hA⟩⟩
  · rintro p (hp | hp)
    · obtain ⟨x, hx⟩ := a6 p hp
      obtain ⟨y, hy⟩ := hne
      exact ⟨x ++ y, (k2 _ p hp).mpr ⟨x, y, rfl, hx, hy⟩⟩
    · obtain ⟨x, hx⟩ := b6 p hp
      exact ⟨x, (k1 x p hp).mpr hx⟩
/-- CHOICE -/
theorem gl_alt {φ : Nat → Nat → Prop} {tk : Nat → Nat} {D1 F1 Λ1 : Nat → Prop} {e1 : Prop} {L1 : List Nat → Prop} {D2 F2 Λ2 : Nat → Prop} {e2 : Prop} {L2 : List Nat → Prop} (h1 : gl_F φ tk D1 F1 Λ1 e1 L1) (h2 : gl_F φ tk D2 F2 Λ2 e2 L2) (hd : ∀ p, D1 p → D2 p → False) :
    gl_F φ tk (fun p => D1 p ∨ D2 p) (fun q => F1 q ∨ F2 q) (fun q => Λ1 q ∨ Λ2 q) (e1 ∨ e2) (fun u => L1 u ∨ L2 u) := by
  obtain ⟨a1, a2, a3, a4, a5, a6⟩ := h1
  obtain ⟨b1, b2, b3, b4, b5, b6⟩ := h2
  have k1 : ∀ u p, D1 p → (gl_A φ tk (fun q => Λ1 q ∨ Λ2 q) u p ↔ gl_A φ tk Λ1 u p) := by
    intro u
    induction u with
    | nil =>
      intro p hp
      exact ⟨fun h => h.elim id (fun h => (hd p hp (b2 p h)).elim), fun h => Or.inl h⟩
    | cons a u ih =>
      intro p hp
      constructor
      · rintro ⟨q, h, e, hA⟩; exact ⟨q, h, e, (ih q (a3 p q hp h)).mp hA⟩
      · rintro ⟨q, h, e, hA⟩; exact ⟨q, h, e, (ih q (a3 p q hp h)).mpr hA⟩
  have k2 : ∀ u p, D2 p → (gl_A φ tk (fun q => Λ1 q ∨ Λ2 q) u p ↔ gl_A φ tk Λ2 u p) := by
    intro u
    induction u with
    | nil =>
      intro p hp
      exact ⟨fun h => h.elim (fun h => (hd p (a2 p h) hp).elim) id, fun h => Or.inr h⟩
    | cons a u ih =>
      intro p hp
      constructor
      · rintro ⟨q, h, e, hA⟩; exact ⟨q, h, e, (ih q (b3 p q hp h)).mp hA⟩
      · rintro ⟨q, h, e, hA⟩; exact ⟨q, h, e, (ih q (b3 p q hp h)).mpr hA⟩
  refine ⟨fun q h => h.elim (fun h => Or.inl (a1 q h)) (fun h => Or.inr (b1 q h)), fun q h => h.elim (fun h => Or.inl (a2 q h)) (fun h => Or.inr (b2 q h)), ?_, ?_, ?_, ?_⟩
  · intro p q hp h
    rcases hp with hp | hp
    · exact Or.inl (a3 p q hp h)
    · exact Or.inr (b3 p q hp h)
  · rw [a4, b4]
  · intro a u
    constructor
    · rintro (h | h)
      · obtain ⟨q, hq, e, hA⟩ := (a5 a u).mp h
        exact ⟨q, Or.inl hq, e, (k1 u q (a1 q hq)).mpr hA⟩
      · obtain ⟨q, hq, e, hA⟩ := (b5 a u).mp h
        exact ⟨q, Or.inr hq, e, (k2 u q (b1 q hq)).mpr hA⟩
    · rintro ⟨q, hq | hq, e, hA⟩
      · exact Or.inl ((a5 a u).mpr ⟨q, hq, e, (k1 u q (a1 q hq)).mp hA⟩)
      · exact Or.inr ((b5 a u).mpr ⟨q, hq, e, (k2 u q (b1 q hq)).mp hA⟩)
  · rintro p (hp | hp)
    · obtain ⟨u, hu⟩ := a6 p hp
      exact ⟨u, (k1 u p hp).mpr hu⟩
    · obtain ⟨u, hu⟩ := b6 p hp
      exact ⟨u, (k2 u p hp).mpr hu⟩
/-- OPTION -/
theorem gl_opt {φ : Nat → Nat → Prop} {tk : Nat → Nat} {D F Λ : Nat → Prop} {em : Prop} {L : List Nat → Prop} (h : gl_F φ tk D F Λ em L) : gl_F φ tk D F Λ True (fun u => u = [] ∨ L u) := by
  obtain ⟨h1, h2, h3, h4, h5, h6⟩ := h
  refine ⟨h1, h2, h3, ⟨fun _ => Or.inl rfl, fun _ => trivial⟩, fun a u => ?_, h6⟩
  rw [← h5]
  constructor
  · rintro (h | h)
    · cases h
    · exact h
  · intro h; exact Or.inr h
/-- PLUS -/
theorem gl_plus {φ φ' : Nat → Nat → Prop} {tk : Nat → Nat} {D F Λ : Nat → Prop} {em : Prop} {L : List Nat → Prop} (h : gl_F φ tk D F Λ em L) (hφ : ∀ p q, φ' p q ↔ φ p q ∨ (Λ p ∧ F q)) : gl_F φ' tk D F Λ em (fun u => ∃ j, 1 ≤ j ∧ ex_pw L j u) := by
  obtain ⟨h1, h2, h3, h4, h5, h6⟩ := h
  have pc : ∀ j a u, ex_pw L j (a :: u) → ∃ x y, u = x ++ y ∧ L (a :: x) ∧ ∃ i, ex_pw L i y := by
    intro j a u hp
    obtain ⟨x, y, e, hx, j', _, hy⟩ := ex_pw_cons j a u hp
    rcases hy with hy | ⟨_, i, _, hy⟩
    · exact ⟨x, y, e, hx, j', hy⟩
    · exact ⟨x, y, e, hx, i, hy⟩
  have key : ∀ (m : Nat) (u : List Nat), u.length ≤ m → ∀ p, D p → (gl_A φ' tk Λ u p ↔ ∃ x y, u = x ++ y ∧ gl_A φ tk Λ x p ∧ ∃ j, ex_pw L j y) := by
    intro m
    induction m with
    | zero =>
      intro u hu p hp
      have e : u = [] := List.length_eq_zero_iff.mp (by omega)
      subst e
      constructor
      · intro h; exact ⟨[], [], rfl, h, 0, rfl⟩
      · rintro ⟨x, y, e, hx, _⟩
        have e' := List.nil_eq_append_iff.mp e
        rw [e'.1] at hx
        exact hx
    | succ m ih =>
      intro u hu p hp
      cases u with
      | nil =>
        constructor
        · intro h; exact ⟨[], [], rfl, h, 0, rfl⟩
        · rintro ⟨x, y, e, hx, _⟩
          have e' := List.nil_eq_append_iff.mp e
          rw [e'.1] at hx
          exact hx
      | cons a u =>
        have hl : u.length ≤ m := by rw [List.length_cons] at hu; omega
        constructor
        · rintro ⟨q, h, e, hA⟩
          rcases (hφ p q).mp h with h | h
          · obtain ⟨x, y, ex, hx, hy⟩ := (ih u hl q (h3 p q hp h)).mp hA
            exact ⟨a :: x, y, by rw [ex]; rfl, ⟨q, h, e, hx⟩, hy⟩
          · obtain ⟨x, y, ex, hx, j, hy⟩ := (ih u hl q (h1 q h.2)).mp hA
            exact ⟨[], a :: u, rfl, h.1, j + 1, a :: x, y, by rw [ex]; rfl, (h5 a x).mpr ⟨q, h.2, e, hx⟩, hy⟩
        · rintro ⟨x, y, ex, hx, j, hy⟩
          cases x with
          | nil =>
            have ey : y = a :: u := ex.symm
            rw [ey] at hy
            obtain ⟨x', y', e', hx', i, hy'⟩ := pc j a u hy
            obtain ⟨q, hq, e, hA⟩ := (h5 a x').mp hx'
            exact ⟨q, (hφ p q).mpr (Or.inr ⟨hx, hq⟩), e, (ih u hl q (h1 q hq)).mpr ⟨x', y', e', hA, i, hy'⟩⟩
          | cons b x =>
            have e2 := List.cons.inj ex
            obtain ⟨q, h, e, hA⟩ := hx
            exact ⟨q, (hφ p q).mpr (Or.inl h), e.trans e2.1.symm, (ih u hl q (h3 p q hp h)).mpr ⟨x, y, e2.2, hA, j, hy⟩⟩
  refine ⟨h1, h2, ?_, ?_, ?_, ?_⟩
  · intro p q hp h
    rcases (hφ p q).mp h with h | h
    · exact h3 p q hp h
    · exact h1 q h.2
  · rw [h4]
    constructor
    · intro h; exact ⟨1, Nat.le_refl 1, ex_pw_one.mpr h⟩
    · rintro ⟨j, hj, h⟩
      obtain ⟨i, rfl⟩ : ∃ i, j = i + 1 := ⟨j - 1, by omega⟩
      obtain ⟨x, y, e, hx, _⟩ := h
      rw [(List.nil_eq_append_iff.mp e).1] at hx
      exact hx
  · intro a u
    constructor
    · rintro ⟨j, _, h⟩
      obtain ⟨x, y, e, hx, i, hy⟩ := pc j a u h
      obtain ⟨q, hq, e', hA⟩ := (h5 a x).mp hx
      exact ⟨q, hq, e', (key _ u (Nat.le_refl _) q (h1 q hq)).mpr ⟨x, y, e, hA, i, hy⟩⟩
    · rintro ⟨q, hq, e, hA⟩
      obtain ⟨x, y, ex, hx, j, hy⟩ := (key _ u (Nat.le_refl _) q (h1 q hq)).mp hA
      exact ⟨j + 1, by omega, a :: x, y, by rw [ex]; rfl, (h5 a x).mpr ⟨q, hq, e, hx⟩, hy⟩
  · intro p hp
    obtain ⟨u, hu⟩ := h6 p hp
    exact ⟨u, (key _ u (Nat.le_refl _) p hp).mpr ⟨u, [], (List.append_nil u).symm, hu, 0, rfl⟩⟩
/-- a copy, moved up by s -/
theorem gl_shift {φ φ' : Nat → Nat → Prop} {tk tk' : Nat → Nat} {D F Λ D' F' Λ' : Nat → Prop} {em : Prop} {L : List Nat → Prop} (s : Nat) (h : gl_F φ tk D F Λ em L) (hD : ∀ q, D' q ↔ ∃ p, q = p + s ∧ D p) (hF : ∀ q, F' q ↔ ∃ p, q = p + s ∧ F p) (hΛ : ∀ q, Λ' q ↔ ∃ p, q = p + s ∧ Λ p) (ht : ∀ p, D p → tk' (p + s) = tk p) (hφ : ∀ p q, D p → (φ' (p + s) q ↔ ∃ r, q = r + s ∧ φ p r)) : gl_F φ' tk' D' F' Λ' em L := by
  obtain ⟨h1, h2, h3, h4, h5, h6⟩ := h
  have key : ∀ u p, D p → (gl_A φ' tk' Λ' u (p + s) ↔ gl_A φ tk Λ u p) := by
    intro u
    induction u with
    | nil =>
      intro p hp
      constructor
      · intro h
        obtain ⟨r, e, hr⟩ := (hΛ (p + s)).mp h
        have : p = r := by omega
        rw [this]; exact hr
      · intro h; exact (hΛ (p + s)).mpr ⟨p, rfl, h⟩
    | cons a u ih =>
      intro p hp
      constructor
      · rintro ⟨q, h, e, hA⟩
        obtain ⟨r, er, hr⟩ := (hφ p q hp).mp h
        rw [er] at e hA
        exact ⟨r, hr, (ht r (h3 p r hp hr)).symm.trans e, (ih r (h3 p r hp hr)).mp hA⟩
      · rintro ⟨r, hr, e, hA⟩
        exact ⟨r + s, (hφ p _ hp).mpr ⟨r, rfl, hr⟩, (ht r (h3 p r hp hr)).trans e, (ih r (h3 p r hp hr)).mpr hA⟩
  refine ⟨?_, ?_, ?_, h4, ?_, ?_⟩
  · intro q hq
    obtain ⟨p, e, hp⟩ := (hF q).mp hq
    exact (hD q).mpr ⟨p, e, h1 p hp⟩
  · intro q hq
    obtain ⟨p, e, hp⟩ := (hΛ q).mp hq
    exact (hD q).mpr ⟨p, e, h2 p hp⟩
  · intro p q hp h
    obtain ⟨r, e, hr⟩ := (hD p).mp hp
    rw [e] at h
    obtain ⟨t, et, h⟩ := (hφ r q hr).mp h
    exact (hD q).mpr ⟨t, et, h3 r t hr h⟩
  · intro a u
    rw [h5]
    constructor
    · rintro ⟨q, hq, e, hA⟩
      exact ⟨q + s, (hF _).mpr ⟨q, rfl, hq⟩, (ht q (h1 q hq)).trans e, (key u q (h1 q hq)).mpr hA⟩
    · rintro ⟨q, hq, e, hA⟩
      obtain ⟨r, er, hr⟩ := (hF q).mp hq
      rw [er] at e hA
      exact ⟨r, hr, (ht r (h1 r hr)).symm.trans e, (key u r (h1 r hr)).mp hA⟩
  · intro q hq
    obtain ⟨p, e, hp⟩ := (hD q).mp hq
    obtain ⟨u, hu⟩ := h6 p hp
    rw [e]
    exact ⟨u, (key u p hp).mpr hu⟩
/-- a NAME -/
theorem gl_leaf {φ : Nat → Nat → Prop} {tk : Nat → Nat} {p : Nat} (h : ∀ q, ¬ φ p q) : gl_F φ tk (fun q => q = p) (fun q => q = p) (fun q => q = p) False (fun u => u = [tk p]) := by
  refine ⟨fun q h => h, fun q h => h, ?_, ?_, ?_, ?_⟩
  · intro r q hr hq
    rw [hr] at hq
    exact (h q hq).elim
  · constructor
    · intro h; exact h.elim
    · intro h; cases h
  · intro a u
    constructor
    · intro e
      have e' := List.cons.inj e
      exact ⟨p, rfl, e'.1.symm, by rw [e'.2]; exact rfl⟩
    · rintro ⟨q, hq, e, hA⟩
      rw [hq] at e hA
      cases u with
      | nil => rw [e]
      | cons b u =>
        obtain ⟨r, hr, _⟩ := hA
        exact (h r hr).elim
  · intro r hr
    exact ⟨[], hr⟩
/-- NOTHING -/
theorem gl_none {φ : Nat → Nat → Prop} {tk : Nat → Nat} : gl_F φ tk (fun _ => False) (fun _ => False) (fun _ => False) True (fun u => u = []) := by
  refine ⟨fun q h => h, fun q h => h, fun p q h _ => h, ⟨fun _ => rfl, fun _ => trivial⟩, ?_, fun p h => h.elim⟩
  intro a u
  constructor
  · intro e; cases e
  · rintro ⟨q, h, _⟩; exact h.elim
/-- pairs of positions that rows of the same names lead to -/
def gl_P (φ : Nat → Nat → Prop) (F : Nat → Prop) (nm : Nat → Nat) : Nat → Nat → Nat → Prop
  | 0 => fun p q => F p ∧ F q ∧ nm p = nm q
  | k + 1 => fun p q => nm p = nm q ∧ ∃ p' q', gl_P φ F nm k p' q' ∧ φ p' p ∧ φ q' q
/-- two tokens of which one may stand where the other does -/
def gl_C (L : List Nat → Prop) (g : Nat → Nat) (a b : Nat) : Prop := g a = g b ∧ ∃ u v x y, L (u ++ a :: x) ∧ L (v ++ b :: y) ∧ u.map g = v.map g
theorem gl_P_D {φ : Nat → Nat → Prop} {F D : Nat → Prop} {nm : Nat → Nat} (h1 : ∀ q, F q → D q) (h3 : ∀ p q, D p → φ p q → D q) : ∀ k p q, gl_P φ F nm k p q → D p ∧ D q ∧ nm p = nm q := by
  intro k
  induction k with
  | zero => rintro p q ⟨a, b, c⟩; exact ⟨h1 p a, h1 q b, c⟩
  | succ k ih =>
    rintro p q ⟨c, p', q', h, a, b⟩
    obtain ⟨x, y, _⟩ := ih p' q' h
    exact ⟨h3 p' p x a, h3 q' q y b, c⟩
theorem gl_pairs {φ : Nat → Nat → Prop} {tk : Nat → Nat} {D F Λ : Nat → Prop} {em : Prop} {L : List Nat → Prop} (h : gl_F φ tk D F Λ em L) {g nm : Nat → Nat} (hn : ∀ p, D p → nm p = g (tk p)) (a b : Nat) : (∃ k p q, gl_P φ F nm k p q ∧ tk p = a ∧ tk q = b) ↔ gl_C L g a b := by
  obtain ⟨h1, h2, h3, h4, h5, h6⟩ := h
  constructor
  · rintro ⟨k, p, q, hP, ea, eb⟩
    have key : ∀ k p q, gl_P φ F nm k p q → ∀ x y, gl_A φ tk Λ x p → gl_A φ tk Λ y q → ∃ u v, L (u ++ tk p :: x) ∧ L (v ++ tk q :: y) ∧ u.map g = v.map g := by
      intro k
      induction k with
      | zero =>
        rintro p q ⟨a, b, c⟩ x y hx hy
        exact ⟨[], [], (h5 _ x).mpr ⟨p, a, rfl, hx⟩, (h5 _ y).mpr ⟨q, b, rfl, hy⟩, rfl⟩
      | succ k ih =>
        rintro p q ⟨c, p', q', h, a, b⟩ x y hx hy
        obtain ⟨dp, dq, e⟩ := gl_P_D h1 h3 k p' q' h
        obtain ⟨u, v, hu, hv, ev⟩ := ih p' q' h (tk p :: x) (tk q :: y) ⟨p, a, rfl, hx⟩ ⟨q, b, rfl, hy⟩
        refine ⟨u ++ [tk p'], v ++ [tk q'], ?_, ?_, ?_⟩
        · rw [List.append_assoc]; exact hu
        · rw [List.append_assoc]; exact hv
        · rw [List.map_append, List.map_append, ev]
          show _ ++ [g (tk p')] = _ ++ [g (tk q')]
          rw [← hn p' dp, ← hn q' dq, e]
    obtain ⟨dp, dq, e⟩ := gl_P_D h1 h3 k p q hP
    obtain ⟨x, hx⟩ := h6 p dp
    obtain ⟨y, hy⟩ := h6 q dq
    obtain ⟨u, v, hu, hv, ev⟩ := key k p q hP x y hx hy
    rw [← ea, ← eb]
    exact ⟨by rw [← hn p dp, ← hn q dq, e], u, v, x, y, hu, hv, ev⟩
  · rintro ⟨e, u, v, x, y, hu, hv, ev⟩
    have key : ∀ (u v : List Nat), u.map g = v.map g → ∀ k p q, gl_P φ F nm k p q → gl_A φ tk Λ (u ++ a :: x) p → gl_A φ tk Λ (v ++ b :: y) q → ∃ k p' q', gl_P φ F nm k p' q' ∧ tk p' = a ∧ tk q' = b := by
      intro u
      induction u with
      | nil =>
        intro v hv k p q hP hA hB
        have ev : v = [] := List.map_eq_nil_iff.mp hv.symm
        rw [ev] at hB
        obtain ⟨p1, f1, e1, _⟩ := hA
        obtain ⟨q1, f2, e2, _⟩ := hB
        obtain ⟨dp, dq, _⟩ := gl_P_D h1 h3 k p q hP
        exact ⟨k + 1, p1, q1, ⟨by rw [hn p1 (h3 p p1 dp f1), hn q1 (h3 q q1 dq f2), e1, e2, e], p, q, hP, f1, f2⟩, e1, e2⟩
      | cons c u ih =>
        intro v hv k p q hP hA hB
        cases v with
        | nil => cases hv
        | cons d v =>
          have hv' := List.cons.inj hv
          obtain ⟨p1, f1, e1, hA⟩ := hA
          obtain ⟨q1, f2, e2, hB⟩ := hB
          obtain ⟨dp, dq, _⟩ := gl_P_D h1 h3 k p q hP
          exact ih v hv'.2 (k + 1) p1 q1 ⟨by rw [hn p1 (h3 p p1 dp f1), hn q1 (h3 q q1 dq f2), e1, e2]; exact hv'.1, p, q, hP, f1, f2⟩ hA hB
    cases u with
    | nil =>
      have ev' : v = [] := List.map_eq_nil_iff.mp ev.symm
      rw [ev'] at hv
      obtain ⟨p1, f1, e1, _⟩ := (h5 a x).mp hu
      obtain ⟨q1, f2, e2, _⟩ := (h5 b y).mp hv
      exact ⟨0, p1, q1, ⟨f1, f2, by rw [hn p1 (h1 p1 f1), hn q1 (h1 q1 f2), e1, e2, e]⟩, e1, e2⟩
    | cons c u =>
      cases v with
      | nil => cases ev
      | cons d v =>
        have ev' := List.cons.inj ev
        obtain ⟨p1, f1, e1, hA⟩ := (h5 c _).mp hu
        obtain ⟨q1, f2, e2, hB⟩ := (h5 d _).mp hv
        exact key u v ev'.2 0 p1 q1 ⟨f1, f2, by rw [hn p1 (h1 p1 f1), hn q1 (h1 q1 f2), e1, e2]; exact ev'.1⟩ hA hB
end
section
/-! ===== TIMES flat and nested, the expansion, tokens that spell a tree ===== -/
/-- as the component chains it -/
def ex_tm (L : List Nat → Prop) : Nat → Nat → List Nat → Prop
  | 0, _ => fun u => u = []
  | h + 1, lo => ex_cat (fun u => (lo = 0 ∧ u = []) ∨ L u) (ex_tm L h (lo - 1))
theorem ex_tm_iff {L : List Nat → Prop} : ∀ (hi lo : Nat), lo ≤ hi → ∀ u, (ex_tm L hi lo u ↔ ∃ j, lo ≤ j ∧ j ≤ hi ∧ ex_pw L j u) := by
  intro hi
  induction hi with
  | zero =>
    intro lo hlo u
    constructor
    · intro h; exact ⟨0, by omega, by omega, h⟩
    · rintro ⟨j, _, h2, h⟩
      obtain rfl : j = 0 := by omega
      exact h
  | succ n ih =>
    intro lo hlo u
    have ih' := ih (lo - 1) (by omega)
    constructor
    · rintro ⟨a, b, e, ha, hb⟩
      obtain ⟨j, j1, j2, hj⟩ := (ih' b).mp hb
      rcases ha with ⟨h0, ha⟩ | ha
      · rw [ha] at e
        exact ⟨j, by omega, by omega, by rw [e]; exact hj⟩
      · exact ⟨j + 1, by omega, by omega, a, b, e, ha, hj⟩
    · rintro ⟨j, h1, h2, h⟩
      cases j with
      | zero => exact ⟨[], u, rfl, Or.inl ⟨by omega, rfl⟩, (ih' u).mpr ⟨0, by omega, by omega, h⟩⟩
      | succ i =>
        obtain ⟨a, b, e, ha, hb⟩ := h
        exact ⟨a, b, e, Or.inr ha, (ih' b).mpr ⟨i, by omega, by omega, hb⟩⟩
/-- as the reference nests it -/
def ex_N (a : ex_T) : Nat → Nat → ex_T
  | 0, _ => .num 0
  | 1, lo => if lo = 0 then .neg a else a
  | h + 2, lo => if lo = 0 then .neg (.mul a (ex_N a (h + 1) (lo - 1))) else .mul a (ex_N a (h + 1) (lo - 1))
theorem ex_N_iff (f : Nat → Nat) (a : ex_T) : ∀ (hi lo : Nat), lo ≤ hi + 1 → ∀ u, (ex_L f (ex_N a (hi + 1) lo) u ↔ ∃ j, lo ≤ j ∧ j ≤ hi + 1 ∧ ex_pw (ex_L f a) j u) := by
  intro hi
  induction hi with
  | zero =>
    intro lo hlo u
    unfold ex_N
    by_cases h0 : lo = 0
    · rw [if_pos h0]
      constructor
      · rintro (h | h)
        · exact ⟨0, by omega, by omega, h⟩
        · exact ⟨1, by omega, by omega, ex_pw_one.mpr h⟩
      · rintro ⟨j, h1, h2, h⟩
        have hj : j = 0 ∨ j = 1 := by omega
        rcases hj with rfl | rfl
        · exact Or.inl h
        · exact Or.inr (ex_pw_one.mp h)
    · rw [if_neg h0]
      constructor
      · intro h; exact ⟨1, by omega, by omega, ex_pw_one.mpr h⟩
      · rintro ⟨j, h1, h2, h⟩
        obtain rfl : j = 1 := by omega
        exact ex_pw_one.mp h
  | succ n ih =>
    intro lo hlo u
    have ih' := ih (lo - 1) (by omega)
    unfold ex_N
    by_cases h0 : lo = 0
    · rw [if_pos h0]
      constructor
      · rintro (h | ⟨x, y, e, hx, hy⟩)
        · exact ⟨0, by omega, by omega, h⟩
        · obtain ⟨j, j1, j2, hj⟩ := (ih' y).mp hy
          exact ⟨j + 1, by omega, by omega, x, y, e, hx, hj⟩
      · rintro ⟨j, h1, h2, h⟩
        cases j with
        | zero => exact Or.inl h
        | succ i =>
          obtain ⟨x, y, e, hx, hy⟩ := h
          exact Or.inr ⟨x, y, e, hx, (ih' y).mpr ⟨i, by omega, by omega, hy⟩⟩
    · rw [if_neg h0]
      constructor
      · rintro ⟨x, y, e, hx, hy⟩
        obtain ⟨j, j1, j2, hj⟩ := (ih' y).mp hy
        exact ⟨j + 1, by omega, by omega, x, y, e, hx, hj⟩
      · rintro ⟨j, h1, h2, h⟩
        cases j with
        | zero => omega
        | succ i =>
          obtain ⟨x, y, e, hx, hy⟩ := h
          exact ⟨x, y, e, hx, (ih' y).mpr ⟨i, by omega, by omega, hy⟩⟩
def ex_E : ex_T → ex_T
  | .var i => .var i
  | .num _ => .num 0
  | .natCast _ => .num 0
  | .intCast _ => .num 0
  | .neg a => if ex_w a = 0 then .num 0 else .neg (ex_E a)
  | .add a b => if ex_w a + ex_w b = 0 then .num 0 else .add (ex_E a) (ex_E b)
  | .mul a b => if ex_w a + ex_w b = 0 then .num 0 else .mul (ex_E a) (ex_E b)
  | .sub a b => if 2 * (ex_w a + ex_w b) = 0 then .num 0 else .add (.mul (ex_E a) (ex_E b)) (.mul (ex_E b) (ex_E a))
  | .pow a k => if ex_m k * ex_w a = 0 then .num 0 else if k < 16 then ex_N (ex_E a) (k % 4) (k / 4) else .pow (ex_E a) k
/-- the expansion has the same words -/
theorem ex_E_L (f : Nat → Nat) : ∀ (R : ex_T), ex_W R → ∀ u, (ex_L f (ex_E R) u ↔ ex_L f R u) := by
  intro R
  induction R with
  | num k => intro _ u; exact Iff.rfl
  | natCast k => intro _ u; exact Iff.rfl
  | intCast k => intro _ u; exact Iff.rfl
  | var i => intro _ u; exact Iff.rfl
  | neg a ih =>
    intro h u
    unfold ex_E
    by_cases h0 : ex_w a = 0
    · rw [if_pos h0]
      exact (ex_w0 f (.neg a) h h0 u).symm
    · rw [if_neg h0]
      show (u = [] ∨ _) ↔ (u = [] ∨ _)
      rw [ih h u]
  | add a b iha ihb =>
    intro h u
    unfold ex_E
    by_cases h0 : ex_w a + ex_w b = 0
    · rw [if_pos h0]
      exact (ex_w0 f (.add a b) h h0 u).symm
    · rw [if_neg h0]
      show (_ ∨ _) ↔ (_ ∨ _)
      rw [iha h.1 u, ihb h.2 u]
  | mul a b iha ihb =>
    intro h u
    unfold ex_E
    by_cases h0 : ex_w a + ex_w b = 0
    · rw [if_pos h0]
      exact (ex_w0 f (.mul a b) h h0 u).symm
    · rw [if_neg h0]
      exact ex_cat_congr (iha h.1) (ihb h.2) u
  | sub a b iha ihb =>
    intro h u
    unfold ex_E
    by_cases h0 : 2 * (ex_w a + ex_w b) = 0
    · rw [if_pos h0]
      exact (ex_w0 f (.sub a b) h h0 u).symm
    · rw [if_neg h0]
      have h1 := ex_cat_congr (iha h.1) (ihb h.2) u
      have h2 := ex_cat_congr (ihb h.2) (iha h.1) u
      show (_ ∨ _) ↔ (_ ∨ _)
      exact ⟨fun h => h.elim (fun h => Or.inl (h1.mp h)) (fun h => Or.inr (h2.mp h)), fun h => h.elim (fun h => Or.inl (h1.mpr h)) (fun h => Or.inr (h2.mpr h))⟩
  | pow a k ih =>
    intro h u
    unfold ex_E
    by_cases h0 : ex_m k * ex_w a = 0
    · rw [if_pos h0]
      exact (ex_w0 f (.pow a k) h h0 u).symm
    · rw [if_neg h0]
      by_cases hk : k < 16
      · rw [if_pos hk]
        have hv := h.2.2 hk
        have e : k % 4 = (k % 4 - 1) + 1 := by omega
        have hi := ex_N_iff f (ex_E a) (k % 4 - 1) (k / 4) (by omega) u
        rw [← e] at hi
        rw [hi]
        constructor
        · rintro ⟨j, h1, h2, hj⟩
          exact ⟨j, by unfold ex_lo; rw [if_pos hk]; exact h1, fun _ => h2, (ex_pw_congr (ih h.1) j u).mp hj⟩
        · rintro ⟨j, h1, h2, hj⟩
          unfold ex_lo at h1
          rw [if_pos hk] at h1
          exact ⟨j, h1, h2 hk, (ex_pw_congr (ih h.1) j u).mpr hj⟩
      · rw [if_neg hk]
        constructor
        · rintro ⟨j, h1, h2, hj⟩; exact ⟨j, h1, h2, (ex_pw_congr (ih h.1) j u).mp hj⟩
        · rintro ⟨j, h1, h2, hj⟩; exact ⟨j, h1, h2, (ex_pw_congr (ih h.1) j u).mpr hj⟩
/-- how many tokens, how many leaves -/
def ex_n : ex_T → Nat
  | .var _ => 1
  | .num _ => 1
  | .natCast _ => 1
  | .intCast _ => 1
  | .neg a => 1 + ex_n a
  | .add a b => 1 + ex_n a + ex_n b
  | .mul a b => 1 + ex_n a + ex_n b
  | .sub a b => 1 + ex_n a + ex_n b
  | .pow a _ => 1 + ex_n a
def ex_l : ex_T → Nat
  | .var _ => 1
  | .num _ => 1
  | .natCast _ => 1
  | .intCast _ => 1
  | .neg a => ex_l a
  | .add a b => ex_l a + ex_l b
  | .mul a b => ex_l a + ex_l b
  | .sub a b => ex_l a + ex_l b
  | .pow a _ => ex_l a
theorem ex_n_pos : ∀ (R : ex_T), 1 ≤ ex_n R := by
  intro R
  cases R <;> simp only [ex_n] <;> omega
theorem ex_l_pos : ∀ (R : ex_T), 1 ≤ ex_l R := by
  intro R
  induction R <;> simp only [ex_l] <;> omega
theorem ex_N_n (a : ex_T) : ∀ hi lo, ex_n (ex_N a (hi + 1) lo) + 1 ≤ (hi + 1) * (ex_n a + 2) := by
  intro hi
  induction hi with
  | zero =>
    intro lo
    unfold ex_N
    by_cases h0 : lo = 0
    · rw [if_pos h0]; simp only [ex_n]; omega
    · rw [if_neg h0]; omega
  | succ n ih =>
    intro lo
    have ih' := ih (lo - 1)
    have e : (n + 1 + 1) * (ex_n a + 2) = (n + 1) * (ex_n a + 2) + (ex_n a + 2) := Nat.succ_mul _ _
    unfold ex_N
    by_cases h0 : lo = 0
    · rw [if_pos h0]; simp only [ex_n]; omega
    · rw [if_neg h0]; simp only [ex_n]; omega
theorem ex_N_l (a : ex_T) : ∀ hi lo, ex_l (ex_N a (hi + 1) lo) = (hi + 1) * ex_l a := by
  intro hi
  induction hi with
  | zero =>
    intro lo
    unfold ex_N
    by_cases h0 : lo = 0
    · rw [if_pos h0]; simp only [ex_l]; omega
    · rw [if_neg h0]; omega
  | succ n ih =>
    intro lo
    have ih' := ih (lo - 1)
    have e : (n + 1 + 1) * ex_l a = (n + 1) * ex_l a + ex_l a := Nat.succ_mul _ _
    unfold ex_N
    by_cases h0 : lo = 0
    · rw [if_pos h0]; simp only [ex_l]; omega
    · rw [if_neg h0]; simp only [ex_l]; omega
theorem ex_N_w (a : ex_T) : ∀ hi lo, ex_w (ex_N a (hi + 1) lo) = (hi + 1) * ex_w a := by
  intro hi
  induction hi with
  | zero =>
    intro lo
    unfold ex_N
    by_cases h0 : lo = 0
    · rw [if_pos h0]; simp only [ex_w]; omega
    · rw [if_neg h0]; omega
  | succ n ih =>
    intro lo
    have ih' := ih (lo - 1)
    have e : (n + 1 + 1) * ex_w a = (n + 1) * ex_w a + ex_w a := Nat.succ_mul _ _
    unfold ex_N
    by_cases h0 : lo = 0
    · rw [if_pos h0]; simp only [ex_w]; omega
    · rw [if_neg h0]; simp only [ex_w]; omega
theorem ex_E_0 : ∀ (R : ex_T), ex_w R = 0 → ex_E R = .num 0 := by
  intro R h
  cases R with
  | var i => cases h
  | num k => rfl
  | natCast k => rfl
  | intCast k => rfl
  | neg a => exact if_pos h
  | add a b => exact if_pos h
  | mul a b => exact if_pos h
  | sub a b => exact if_pos h
  | pow a k => exact if_pos h
theorem ex_E_w : ∀ (R : ex_T), ex_W R → ex_w (ex_E R) = ex_w R := by
  intro R
  induction R with
  | num k => intro _; rfl
  | natCast k => intro _; rfl
  | intCast k => intro _; rfl
  | var i => intro _; rfl
  | neg a ih =>
    intro h
    have e := ih h
    unfold ex_E
    by_cases h0 : ex_w a = 0
    · rw [if_pos h0]; simp only [ex_w]; omega
    · rw [if_neg h0]; simp only [ex_w]; omega
  | add a b iha ihb =>
    intro h
    have e1 := iha h.1
    have e2 := ihb h.2
    unfold ex_E
    by_cases h0 : ex_w a + ex_w b = 0
    · rw [if_pos h0]; simp only [ex_w]; omega
    · rw [if_neg h0]; simp only [ex_w]; omega
  | mul a b iha ihb =>
    intro h
    have e1 := iha h.1
    have e2 := ihb h.2
    unfold ex_E
    by_cases h0 : ex_w a + ex_w b = 0
    · rw [if_pos h0]; simp only [ex_w]; omega
    · rw [if_neg h0]; simp only [ex_w]; omega
  | sub a b iha ihb =>
    intro h
    have e1 := iha h.1
    have e2 := ihb h.2
    unfold ex_E
    by_cases h0 : 2 * (ex_w a + ex_w b) = 0
    · rw [if_pos h0]; simp only [ex_w]; omega
    · rw [if_neg h0]; simp only [ex_w]; omega
  | pow a k ih =>
    intro h
    have e := ih h.1
    unfold ex_E
    by_cases h0 : ex_m k * ex_w a = 0
    · rw [if_pos h0]; simp only [ex_w]; omega
    · rw [if_neg h0]
      by_cases hk : k < 16
      · rw [if_pos hk]
        have hv := h.2.2 hk
        have e3 : k % 4 = (k % 4 - 1) + 1 := by omega
        have e4 := ex_N_w (ex_E a) (k % 4 - 1) (k / 4)
        rw [← e3] at e4
        rw [e4, e]
        simp only [ex_w, ex_m, if_pos hk]
      · rw [if_neg hk]; simp only [ex_w]; rw [e]
theorem ex_m_pos {k : Nat} (h : k < 16 → k / 4 ≤ k % 4 ∧ 1 ≤ k % 4) : 1 ≤ ex_m k := by
  unfold ex_m
  by_cases hk : k < 16
  · rw [if_pos hk]; exact (h hk).2
  · rw [if_neg hk]; exact Nat.le_refl 1
/-- the length of the expansion: at most three times tokens times weight -/
theorem ex_E_n : ∀ (R : ex_T), ex_W R → 1 ≤ ex_w R → ex_n (ex_E R) ≤ 3 * (ex_n R * ex_w R) := by
  intro R
  induction R with
  | num k => intro _ h; simp only [ex_w] at h; omega
  | natCast k => intro _ h; simp only [ex_w] at h; omega
  | intCast k => intro _ h; simp only [ex_w] at h; omega
  | var i => intro _ _; simp only [ex_E, ex_n, ex_w]; omega
  | neg a ih =>
    intro h hw
    have hw' : 1 ≤ ex_w a := hw
    have e := ih h hw'
    unfold ex_E
    rw [if_neg (by omega)]
    simp only [ex_n, ex_w]
    have : (1 + ex_n a) * ex_w a = ex_w a + ex_n a * ex_w a := by rw [Nat.add_mul, Nat.one_mul]
    omega
  | add a b iha ihb =>
    intro h hw
    have hw' : 1 ≤ ex_w a + ex_w b := hw
    unfold ex_E
    rw [if_neg (by omega)]
    simp only [ex_n, ex_w]
    have g : ∀ (R : ex_T), ex_W R → (1 ≤ ex_w R → ex_n (ex_E R) ≤ 3 * (ex_n R * ex_w R)) → ex_n (ex_E R) ≤ 1 + 3 * (ex_n R * ex_w R) := by
      intro R hR ih
      rcases Nat.eq_zero_or_pos (ex_w R) with h0 | h0
      · rw [ex_E_0 R h0]; simp only [ex_n]; omega
      · have := ih h0; omega
    have g1 := g a h.1 (iha h.1)
    have g2 := g b h.2 (ihb h.2)
    have m1 : (1 + ex_n a + ex_n b) * (ex_w a + ex_w b) = (ex_w a + ex_w b) + (ex_n a * ex_w a + ex_n a * ex_w b) + (ex_n b * ex_w a + ex_n b * ex_w b) := by
      rw [Nat.add_mul, Nat.add_mul, Nat.one_mul, Nat.mul_add, Nat.mul_add]
    omega
  | mul a b iha ihb =>
    intro h hw
    have hw' : 1 ≤ ex_w a + ex_w b := hw
    unfold ex_E
    rw [if_neg (by omega)]
    simp only [ex_n, ex_w]
    have g : ∀ (R : ex_T), ex_W R → (1 ≤ ex_w R → ex_n (ex_E R) ≤ 3 * (ex_n R * ex_w R)) → ex_n (ex_E R) ≤ 1 + 3 * (ex_n R * ex_w R) := by
      intro R hR ih
      rcases Nat.eq_zero_or_pos (ex_w R) with h0 | h0
      · rw [ex_E_0 R h0]; simp only [ex_n]; omega
      · have := ih h0; omega
    have g1 := g a h.1 (iha h.1)
    have g2 := g b h.2 (ihb h.2)
    have m1 : (1 + ex_n a + ex_n b) * (ex_w a + ex_w b) = (ex_w a + ex_w b) + (ex_n a * ex_w a + ex_n a * ex_w b) + (ex_n b * ex_w a + ex_n b * ex_w b) := by
      rw [Nat.add_mul, Nat.add_mul, Nat.one_mul, Nat.mul_add, Nat.mul_add]
    omega
  | sub a b iha ihb =>
    intro h hw
    have hw' : 1 ≤ 2 * (ex_w a + ex_w b) := hw
    unfold ex_E
    rw [if_neg (by omega)]
    simp only [ex_n, ex_w]
    have pa := ex_n_pos a
    have pb := ex_n_pos b
    have g : ∀ (R : ex_T), ex_W R → (1 ≤ ex_w R → ex_n (ex_E R) ≤ 3 * (ex_n R * ex_w R)) → (ex_w R = 0 ∧ ex_n (ex_E R) = 1) ∨ (1 ≤ ex_w R ∧ ex_n (ex_E R) ≤ 3 * (ex_n R * ex_w R)) := by
      intro R hR ih
      rcases Nat.eq_zero_or_pos (ex_w R) with h0 | h0
      · rw [ex_E_0 R h0]; exact Or.inl ⟨h0, rfl⟩
      · exact Or.inr ⟨h0, ih h0⟩
    have g1 := g a h.1 (iha h.1)
    have g2 := g b h.2 (ihb h.2)
    have m1 : (1 + ex_n a + ex_n b) * (2 * (ex_w a + ex_w b)) = 2 * ((ex_w a + ex_w b) + (ex_n a * ex_w a + ex_n a * ex_w b) + (ex_n b * ex_w a + ex_n b * ex_w b)) := by
      rw [Nat.mul_left_comm]
      congr 1
      rw [Nat.add_mul, Nat.add_mul, Nat.one_mul, Nat.mul_add, Nat.mul_add]
    rcases g1 with ⟨z1, g1⟩ | ⟨z1, g1⟩
    · rcases g2 with ⟨z2, g2⟩ | ⟨z2, g2⟩
      · omega
      · have m2 : ex_w b ≤ ex_n a * ex_w b := Nat.le_mul_of_pos_left _ pa
        omega
    · rcases g2 with ⟨z2, g2⟩ | ⟨z2, g2⟩
      · have m2 : ex_w a ≤ ex_n b * ex_w a := Nat.le_mul_of_pos_left _ pb
        omega
      · omega
  | pow a k ih =>
    intro h hw
    have hw' : 1 ≤ ex_m k * ex_w a := hw
    have ha : 1 ≤ ex_w a := by
      rcases Nat.eq_zero_or_pos (ex_w a) with h0 | h0
      · rw [h0] at hw'; omega
      · exact h0
    have e := ih h.1 ha
    unfold ex_E
    rw [if_neg (by omega)]
    by_cases hk : k < 16
    · rw [if_pos hk]
      have hv := h.2.2 hk
      have e3 : k % 4 = (k % 4 - 1) + 1 := by omega
      have e4 := ex_N_n (ex_E a) (k % 4 - 1) (k / 4)
      rw [← e3] at e4
      simp only [ex_n, ex_w, ex_m, if_pos hk]
      have m0 : k % 4 * (ex_n (ex_E a) + 2) ≤ k % 4 * (3 * (ex_n a * ex_w a) + 2) := Nat.mul_le_mul_left _ (by omega)
      have m1 : k % 4 * (3 * (ex_n a * ex_w a) + 2) ≤ k % 4 * (3 * ((1 + ex_n a) * ex_w a)) := by
        apply Nat.mul_le_mul_left
        rw [Nat.add_mul, Nat.one_mul]
        omega
      have m2 : k % 4 * (3 * ((1 + ex_n a) * ex_w a)) = 3 * ((1 + ex_n a) * (k % 4 * ex_w a)) := by
        rw [Nat.mul_left_comm, Nat.mul_left_comm (1 + ex_n a)]
      omega
    · rw [if_neg hk]
      simp only [ex_n, ex_w, ex_m, if_neg hk, Nat.one_mul]
      have : (1 + ex_n a) * ex_w a = ex_w a + ex_n a * ex_w a := by rw [Nat.add_mul, Nat.one_mul]
      omega
/-- and its leaves: at most tokens times weight -/
theorem ex_E_l : ∀ (R : ex_T), ex_W R → 1 ≤ ex_w R → ex_l (ex_E R) ≤ ex_n R * ex_w R := by
  intro R
  have two : ∀ (a b : ex_T), 1 ≤ ex_w a + ex_w b → (1 ≤ ex_w a → ex_l (ex_E a) ≤ ex_n a * ex_w a) → (1 ≤ ex_w b → ex_l (ex_E b) ≤ ex_n b * ex_w b) → ex_l (ex_E a) + ex_l (ex_E b) ≤ (1 + ex_n a + ex_n b) * (ex_w a + ex_w b) := by
    intro a b hw iha ihb
    have pa := ex_n_pos a
    have pb := ex_n_pos b
    have m1 : (1 + ex_n a + ex_n b) * (ex_w a + ex_w b) = (ex_w a + ex_w b) + (ex_n a * ex_w a + ex_n a * ex_w b) + (ex_n b * ex_w a + ex_n b * ex_w b) := by
      rw [Nat.add_mul, Nat.add_mul, Nat.one_mul, Nat.mul_add, Nat.mul_add]
    rcases Nat.eq_zero_or_pos (ex_w a) with h0 | h0
    · rw [ex_E_0 a h0]
      rcases Nat.eq_zero_or_pos (ex_w b) with h1 | h1
      · omega
      · have := ihb h1
        simp only [ex_l]
        omega
    · have := iha h0
      rcases Nat.eq_zero_or_pos (ex_w b) with h1 | h1
      · rw [ex_E_0 b h1]
        simp only [ex_l]
        omega
      · have := ihb h1
        omega
  induction R with
  | num k => intro _ h; simp only [ex_w] at h; omega
  | natCast k => intro _ h; simp only [ex_w] at h; omega
  | intCast k => intro _ h; simp only [ex_w] at h; omega
  | var i => intro _ _; simp only [ex_E, ex_n, ex_w, ex_l]; omega
  | neg a ih =>
    intro h hw
    have hw' : 1 ≤ ex_w a := hw
    have e := ih h hw'
    unfold ex_E
    rw [if_neg (by omega)]
    simp only [ex_n, ex_w, ex_l]
    have : (1 + ex_n a) * ex_w a = ex_w a + ex_n a * ex_w a := by rw [Nat.add_mul, Nat.one_mul]
    omega
  | add a b iha ihb =>
    intro h hw
    have hw' : 1 ≤ ex_w a + ex_w b := hw
    unfold ex_E
    rw [if_neg (by omega)]
    exact two a b hw' (iha h.1) (ihb h.2)
  | mul a b iha ihb =>
    intro h hw
    have hw' : 1 ≤ ex_w a + ex_w b := hw
    unfold ex_E
    rw [if_neg (by omega)]
    exact two a b hw' (iha h.1) (ihb h.2)
  | sub a b iha ihb =>
    intro h hw
    have hw' : 1 ≤ 2 * (ex_w a + ex_w b) := hw
    unfold ex_E
    rw [if_neg (by omega)]
    have t := two a b (by omega) (iha h.1) (ihb h.2)
    simp only [ex_n, ex_w, ex_l]
    rw [Nat.mul_left_comm]
    omega
  | pow a k ih =>
    intro h hw
    have hw' : 1 ≤ ex_m k * ex_w a := hw
    have ha : 1 ≤ ex_w a := by
      rcases Nat.eq_zero_or_pos (ex_w a) with h0 | h0
      · rw [h0] at hw'; omega
      · exact h0
    have e := ih h.1 ha
    unfold ex_E
    rw [if_neg (by omega)]
    have m3 : (1 + ex_n a) * ex_w a = ex_w a + ex_n a * ex_w a := by rw [Nat.add_mul, Nat.one_mul]
    by_cases hk : k < 16
    · rw [if_pos hk]
      have hv := h.2.2 hk
      have e3 : k % 4 = (k % 4 - 1) + 1 := by omega
      have e4 := ex_N_l (ex_E a) (k % 4 - 1) (k / 4)
      rw [← e3] at e4
      rw [e4]
      simp only [ex_n, ex_w, ex_m, if_pos hk]
      rw [Nat.mul_left_comm]
      apply Nat.mul_le_mul_left
      omega
    · rw [if_neg hk]
      simp only [ex_n, ex_w, ex_m, ex_l, if_neg hk, Nat.one_mul]
      omega
/-- the tokens from b on spell the tree -/
def ex_S (kd vl : Nat → Nat) : ex_T → Nat → Prop
  | .var i => fun b => kd b = 0 ∧ i = b
  | .num _ => fun b => kd b = 6
  | .natCast _ => fun _ => False
  | .intCast _ => fun _ => False
  | .neg a => fun b => kd b = 3 ∧ ex_S kd vl a (b + 1)
  | .add x y => fun b => kd b = 2 ∧ ex_S kd vl x (b + 1) ∧ ex_S kd vl y (b + 1 + ex_n x)
  | .mul x y => fun b => kd b = 1 ∧ ex_S kd vl x (b + 1) ∧ ex_S kd vl y (b + 1 + ex_n x)
  | .sub x y => fun b => kd b = 7 ∧ ex_S kd vl x (b + 1) ∧ ex_S kd vl y (b + 1 + ex_n x)
  | .pow a k => fun b => ((k < 16 ∧ kd b = 8 ∧ vl b = k) ∨ (k = 16 ∧ kd b = 4) ∨ (k = 17 ∧ kd b = 5)) ∧ ex_S kd vl a (b + 1)
def ex_pt (k : Nat) : Nat := if k = 0 ∨ k = 6 then 0 else if k = 1 ∨ k = 2 ∨ k = 7 then 2 else 1
/-- m tokens from b on, c expressions wanted: none too early, none left -/
def ex_sc (kd : Nat → Nat) : Nat → Nat → Nat → Prop
  | 0, _, c => c = 0
  | m + 1, b, c => c ≠ 0 ∧ ex_sc kd m (b + 1) (c + ex_pt (kd b) - 1)
def ex_V (kd vl : Nat → Nat) (n : Nat) : Prop := ∀ b, b < n → kd b < 9 ∧ (kd b = 8 → vl b < 16 ∧ vl b / 4 ≤ vl b % 4 ∧ 1 ≤ vl b % 4)
theorem ex_parse {kd vl : Nat → Nat} : ∀ (m b c : Nat), ex_V kd vl (b + m) → ex_sc kd m b (c + 1) → ∃ R, ex_S kd vl R b ∧ ex_W R ∧ ex_n R ≤ m ∧ ex_sc kd (m - ex_n R) (b + ex_n R) c := by
  intro m
  induction m using Nat.strongRecOn with
  | ind m ih =>
    intro b c hV hs
    cases m with
    | zero => exact absurd hs (by unfold ex_sc; omega)
    | succ m =>
      obtain ⟨_, hs⟩ := hs
      obtain ⟨hk, hv⟩ := hV b (by omega)
      have one : ex_pt (kd b) = 1 → ∃ R, ex_S kd vl R (b + 1) ∧ ex_W R ∧ ex_n R ≤ m ∧ ex_sc kd (m - ex_n R) (b + 1 + ex_n R) c := by
        intro h1
        rw [h1] at hs
        exact ih m (by omega) (b + 1) c (by rw [show b + 1 + m = b + (m + 1) by omega]; exact hV) (by rw [show c + 1 = c + 1 + 1 - 1 by omega]; exact hs)
      have two : ex_pt (kd b) = 2 → ∃ R Q, ex_S kd vl R (b + 1) ∧ ex_S kd vl Q (b + 1 + ex_n R) ∧ ex_W R ∧ ex_W Q ∧ ex_n R + ex_n Q ≤ m ∧ ex_sc kd (m - (ex_n R + ex_n Q)) (b + 1 + ex_n R + ex_n Q) c := by
        intro h2
        rw [h2] at hs
        obtain ⟨R, r1, r2, r3, r4⟩ := ih m (by omega) (b + 1) (c + 1) (by rw [show b + 1 + m = b + (m + 1) by omega]; exact hV) (by rw [show c + 1 + 1 = c + 1 + 2 - 1 by omega]; exact hs)
        have rp := ex_n_pos R
        obtain ⟨Q, q1, q2, q3, q4⟩ := ih (m - ex_n R) (by omega) (b + 1 + ex_n R) c (by rw [show b + 1 + ex_n R + (m - ex_n R) = b + (m + 1) by omega]; exact hV) r4
        refine ⟨R, Q, r1, q1, r2, q2, by omega, ?_⟩
        rw [show m - (ex_n R + ex_n Q) = m - ex_n R - ex_n Q by omega]
        exact q4
      have zero : ex_pt (kd b) = 0 → ex_sc kd (m + 1 - 1) (b + 1) c := by
        intro h0
        rw [h0] at hs
        exact hs
      have fin1 : ∀ (R : ex_T), ex_n R ≤ m → ex_sc kd (m - ex_n R) (b + 1 + ex_n R) c → 1 + ex_n R ≤ m + 1 ∧ ex_sc kd (m + 1 - (1 + ex_n R)) (b + (1 + ex_n R)) c := by
        intro R h1 h2
        refine ⟨by omega, ?_⟩
        rw [show m + 1 - (1 + ex_n R) = m - ex_n R by omega, show b + (1 + ex_n R) = b + 1 + ex_n R by omega]
        exact h2
      have fin2 : ∀ (R Q : ex_T), ex_n R + ex_n Q ≤ m → ex_sc kd (m - (ex_n R + ex_n Q)) (b + 1 + ex_n R + ex_n Q) c → 1 + ex_n R + ex_n Q ≤ m + 1 ∧ ex_sc kd (m + 1 - (1 + ex_n R + ex_n Q)) (b + (1 + ex_n R + ex_n Q)) c := by
        intro R Q h1 h2
        refine ⟨by omega, ?_⟩
        rw [show m + 1 - (1 + ex_n R + ex_n Q) = m - (ex_n R + ex_n Q) by omega, show b + (1 + ex_n R + ex_n Q) = b + 1 + ex_n R + ex_n Q by omega]
        exact h2
      have hc : kd b = 0 ∨ kd b = 1 ∨ kd b = 2 ∨ kd b = 3 ∨ kd b = 4 ∨ kd b = 5 ∨ kd b = 6 ∨ kd b = 7 ∨ kd b = 8 := by omega
      rcases hc with e | e | e | e | e | e | e | e | e
      · exact ⟨.var b, ⟨e, rfl⟩, trivial, by simp only [ex_n]; omega, zero (by rw [e]; rfl)⟩
      · obtain ⟨R, Q, r1, q1, r2, q2, h3, h4⟩ := two (by rw [e]; rfl)
        obtain ⟨f1, f2⟩ := fin2 R Q h3 h4
        exact ⟨.mul R Q, ⟨e, r1, q1⟩, ⟨r2, q2⟩, f1, f2⟩
      · obtain ⟨R, Q, r1, q1, r2, q2, h3, h4⟩ := two (by rw [e]; rfl)
        obtain ⟨f1, f2⟩ := fin2 R Q h3 h4
        exact ⟨.add R Q, ⟨e, r1, q1⟩, ⟨r2, q2⟩, f1, f2⟩
      · obtain ⟨R, r1, r2, h3, h4⟩ := one (by rw [e]; rfl)
        obtain ⟨f1, f2⟩ := fin1 R h3 h4
        exact ⟨.neg R, ⟨e, r1⟩, r2, f1, f2⟩
      · obtain ⟨R, r1, r2, h3, h4⟩ := one (by rw [e]; rfl)
        obtain ⟨f1, f2⟩ := fin1 R h3 h4
        exact ⟨.pow R 16, ⟨Or.inr (Or.inl ⟨rfl, e⟩), r1⟩, ⟨r2, by omega, fun h => absurd h (by omega)⟩, f1, f2⟩
      · obtain ⟨R, r1, r2, h3, h4⟩ := one (by rw [e]; rfl)
        obtain ⟨f1, f2⟩ := fin1 R h3 h4
        exact ⟨.pow R 17, ⟨Or.inr (Or.inr ⟨rfl, e⟩), r1⟩, ⟨r2, by omega, fun h => absurd h (by omega)⟩, f1, f2⟩
      · exact ⟨.num 0, e, trivial, by simp only [ex_n]; omega, zero (by rw [e]; rfl)⟩
      · obtain ⟨R, Q, r1, q1, r2, q2, h3, h4⟩ := two (by rw [e]; rfl)
        obtain ⟨f1, f2⟩ := fin2 R Q h3 h4
        exact ⟨.sub R Q, ⟨e, r1, q1⟩, ⟨r2, q2⟩, f1, f2⟩
      · obtain ⟨R, r1, r2, h3, h4⟩ := one (by rw [e]; rfl)
        obtain ⟨f1, f2⟩ := fin1 R h3 h4
        obtain ⟨v1, v2⟩ := hv e
        exact ⟨.pow R (vl b), ⟨Or.inl ⟨v1, e, rfl⟩, r1⟩, ⟨r2, by omega, fun _ => v2⟩, f1, f2⟩
end
section
/-! ===== slices of a row, chains of words in it, what is lacking at its end ===== -/
def dp_sl (w : Nat → Nat) : Nat → Nat → List Nat
  | 0, _ => []
  | d + 1, a => w a :: dp_sl w d (a + 1)
theorem dp_sl_add (w : Nat → Nat) (d2 : Nat) : ∀ d1 a, dp_sl w (d1 + d2) a = dp_sl w d1 a ++ dp_sl w d2 (a + d1) := by
  intro d1
  induction d1 with
  | zero => intro a; rw [Nat.zero_add]; rfl
  | succ d ih =>
    intro a
    rw [show d + 1 + d2 = (d + d2) + 1 by omega]
    show w a :: dp_sl w (d + d2) (a + 1) = w a :: (dp_sl w d (a + 1) ++ dp_sl w d2 (a + (d + 1)))
    rw [ih (a + 1), show a + 1 + d = a + (d + 1) by omega]
theorem dp_sl_len (w : Nat → Nat) : ∀ d a, (dp_sl w d a).length = d := by
  intro d
  induction d with
  | zero => intro a; rfl
  | succ d ih => intro a; show (dp_sl w d (a + 1)).length + 1 = d + 1; rw [ih]
theorem dp_split {w : Nat → Nat} {d a : Nat} {x y : List Nat} (h : dp_sl w d a = x ++ y) : x = dp_sl w x.length a ∧ y = dp_sl w y.length (a + x.length) ∧ x.length + y.length = d := by
  have hl : x.length + y.length = d := by rw [← List.length_append, ← h, dp_sl_len]
  rw [← hl, dp_sl_add] at h
  have h2 := List.append_inj h (dp_sl_len w _ _)
  exact ⟨h2.1.symm, h2.2.symm, hl⟩
def dp_E (L : List Nat → Prop) (w : Nat → Nat) (a m : Nat) : Prop := a ≤ m ∧ L (dp_sl w (m - a) a)
theorem dp_E_congr {A B : List Nat → Prop} (h : ∀ u, A u ↔ B u) (w : Nat → Nat) (a m : Nat) : dp_E A w a m ↔ dp_E B w a m := by
  unfold dp_E
  rw [h]
theorem dp_E_cat {A B : List Nat → Prop} {w : Nat → Nat} {a m : Nat} : dp_E (ex_cat A B) w a m ↔ ∃ k, dp_E A w a k ∧ dp_E B w k m := by
  constructor
  · rintro ⟨h, x, y, e, hx, hy⟩
    obtain ⟨e1, e2, e3⟩ := dp_split e
    refine ⟨a + x.length, ⟨by omega, ?_⟩, ⟨by omega, ?_⟩⟩
    · rw [show a + x.length - a = x.length by omega, ← e1]; exact hx
    · rw [show m - (a + x.length) = y.length by omega, ← e2]; exact hy
  · rintro ⟨k, ⟨h1, hx⟩, ⟨h2, hy⟩⟩
    refine ⟨by omega, _, _, ?_, hx, hy⟩
    rw [show m - a = (k - a) + (m - k) by omega, dp_sl_add, show a + (k - a) = k by omega]
def dp_ch (L : List Nat → Prop) (w : Nat → Nat) : Nat → Nat → Nat → Prop
  | 0, a, m => a = m
  | j + 1, a, m => ∃ k, dp_ch L w j a k ∧ dp_E L w k m
theorem dp_ch_le {L : List Nat → Prop} {w : Nat → Nat} : ∀ j a m, dp_ch L w j a m → a ≤ m := by
  intro j
  induction j with
  | zero => intro a m h; exact Nat.le_of_eq h
  | succ j ih =>
    rintro a m ⟨k, h1, h2⟩
    exact Nat.le_trans (ih a k h1) h2.1
theorem dp_ch_cons {L : List Nat → Prop} {w : Nat → Nat} : ∀ j a m, dp_ch L w (j + 1) a m ↔ ∃ k, dp_E L w a k ∧ dp_ch L w j k m := by
  intro j
  induction j with
  | zero =>
    intro a m
    constructor
    · rintro ⟨k, h1, h2⟩
      have h1' : a = k := h1
      exact ⟨m, by rw [h1']; exact h2, rfl⟩
    · rintro ⟨k, h1, h2⟩
      have h2' : k = m := h2
      exact ⟨a, rfl, by rw [← h2']; exact h1⟩
  | succ j ih =>
    intro a m
    constructor
    · rintro ⟨k, h1, h2⟩
      obtain ⟨k', h3, h4⟩ := (ih a k).mp h1
      exact ⟨k', h3, k, h4, h2⟩
    · rintro ⟨k', h3, k, h4, h2⟩
      exact ⟨k, (ih a k).mpr ⟨k', h3, h4⟩, h2⟩
theorem dp_E_pw {L : List Nat → Prop} {w : Nat → Nat} : ∀ j a m, dp_E (ex_pw L j) w a m ↔ dp_ch L w j a m := by
  intro j
  induction j with
  | zero =>
    intro a m
    constructor
    · rintro ⟨h1, h2⟩
      have h3 : (dp_sl w (m - a) a).length = 0 := by rw [show dp_sl w (m - a) a = [] from h2]; rfl
      rw [dp_sl_len] at h3
      show a = m
      omega
    · intro h
      have h' : a = m := h
      refine ⟨by omega, ?_⟩
      rw [h', Nat.sub_self]
      exact rfl
  | succ j ih =>
    intro a m
    rw [dp_ch_cons]
    show dp_E (ex_cat L (ex_pw L j)) w a m ↔ _
    rw [dp_E_cat]
    constructor
    · rintro ⟨k, h1, h2⟩; exact ⟨k, h1, (ih k m).mp h2⟩
    · rintro ⟨k, h1, h2⟩; exact ⟨k, h1, (ih k m).mpr h2⟩
/-- d names more make the row from a on a word -/
def dp_K (L : List Nat → Prop) (w : Nat → Nat) (n a d : Nat) : Prop := ∃ v, v.length = d ∧ L (dp_sl w (n - a) a ++ v)
theorem dp_K_congr {A B : List Nat → Prop} (h : ∀ u, A u ↔ B u) (w : Nat → Nat) (n a d : Nat) : dp_K A w n a d ↔ dp_K B w n a d := by
  unfold dp_K
  constructor
  · rintro ⟨v, e, hv⟩; exact ⟨v, e, (h _).mp hv⟩
  · rintro ⟨v, e, hv⟩; exact ⟨v, e, (h _).mpr hv⟩
theorem dp_K_cat {A B : List Nat → Prop} {w : Nat → Nat} {n a d : Nat} (ha : a ≤ n) : dp_K (ex_cat A B) w n a d ↔ (∃ d1 d2, d = d1 + d2 ∧ dp_K A w n a d1 ∧ ∃ q, q.length = d2 ∧ B q) ∨ (∃ k, k ≤ n ∧ dp_E A w a k ∧ dp_K B w n k d) := by
  constructor
  · rintro ⟨v, hv, x, y, e, hx, hy⟩
    rcases List.append_eq_append_iff.mp e with ⟨c, e1, e2⟩ | ⟨c, e1, e2⟩
    · left
      refine ⟨c.length, y.length, ?_, ⟨c, rfl, by rw [← e1]; exact hx⟩, y, rfl, hy⟩
      rw [← hv, e2, List.length_append]
    · right
      obtain ⟨s1, s2, s3⟩ := dp_split e1
      refine ⟨a + x.length, by omega, ⟨by omega, ?_⟩, v, hv, ?_⟩
      · rw [show a + x.length - a = x.length by omega, ← s1]; exact hx
      · rw [show n - (a + x.length) = c.length by omega, ← s2, ← e2]; exact hy
  · rintro (⟨d1, d2, e, ⟨c, hc, hA⟩, q, hq, hB⟩ | ⟨k, hk, ⟨h1, hA⟩, v, hv, hB⟩)
    · refine ⟨c ++ q, by rw [List.length_append, hc, hq, e], _, q, ?_, hA, hB⟩
      rw [List.append_assoc]
    · refine ⟨v, hv, _, _, ?_, hA, hB⟩
      rw [show n - a = (k - a) + (n - k) by omega, dp_sl_add, show a + (k - a) = k by omega, List.append_assoc]
theorem dp_K_pw {L : List Nat → Prop} {w : Nat → Nat} {n : Nat} : ∀ j a d, a ≤ n → (dp_K (ex_pw L j) w n a d ↔ (d = 0 ∧ dp_ch L w j a n) ∨ ∃ i r m d1 d2, i + 1 + r = j ∧ m ≤ n ∧ dp_ch L w i a m ∧ dp_K L w n m d1 ∧ d = d1 + d2 ∧ ∃ q, q.length = d2 ∧ ex_pw L r q) := by
  intro j
  induction j with
  | zero =>
    intro a d ha
    constructor
    · rintro ⟨v, hv, h⟩
      have h' := List.append_eq_nil_iff.mp h
      have h3 : (dp_sl w (n - a) a).length = 0 := by rw [h'.1]; rfl
      rw [dp_sl_len] at h3
      rw [h'.2] at hv
      left
      refine ⟨hv.symm, ?_⟩
      show a = n
      omega
    · rintro (⟨hd, h⟩ | ⟨i, r, m, d1, d2, h, _⟩)
      · have h' : a = n := h
        refine ⟨[], hd.symm, ?_⟩
        rw [h', Nat.sub_self]
        exact rfl
      · omega
  | succ j ih =>
    intro a d ha
    show dp_K (ex_cat L (ex_pw L j)) w n a d ↔ _
    rw [dp_K_cat ha]
    constructor
    · rintro (⟨d1, d2, e, h1, q, hq, h2⟩ | ⟨k, hk, h1, h2⟩)
      · exact Or.inr ⟨0, j, a, d1, d2, by omega, ha, rfl, h1, e, q, hq, h2⟩
      · rcases (ih k d hk).mp h2 with ⟨hd, h3⟩ | ⟨i, r, m, d1, d2, e1, hm, h3, h4, h5⟩
        · exact Or.inl ⟨hd, (dp_ch_cons j a n).mpr ⟨k, h1, h3⟩⟩
        · exact Or.inr ⟨i + 1, r, m, d1, d2, by omega, hm, (dp_ch_cons i a m).mpr ⟨k, h1, h3⟩, h4, h5⟩
    · rintro (⟨hd, h⟩ | ⟨i, r, m, d1, d2, e1, hm, h3, h4, h5, q, hq, h6⟩)
      · obtain ⟨k, h1, h2⟩ := (dp_ch_cons j a n).mp h
        exact Or.inr ⟨k, dp_ch_le j k n h2, h1, (ih k d (dp_ch_le j k n h2)).mpr (Or.inl ⟨hd, h2⟩)⟩
      · cases i with
        | zero =>
          have h3' : a = m := h3
          obtain rfl : r = j := by omega
          rw [← h3'] at h4
          exact Or.inl ⟨d1, d2, h5, h4, q, hq, h6⟩
        | succ i =>
          obtain ⟨k, h1, h2⟩ := (dp_ch_cons i a m).mp h3
          have hk : k ≤ n := Nat.le_trans (dp_ch_le i k m h2) hm
          exact Or.inr ⟨k, hk, h1, (ih k d hk).mpr (Or.inr ⟨i, r, m, d1, d2, by omega, hm, h2, h4, h5, q, hq, h6⟩)⟩
/-- s: the length of a shortest word -/
def dp_s (L : List Nat → Prop) (s : Nat) : Prop := (∃ q, q.length = s ∧ L q) ∧ ∀ q, L q → s ≤ q.length
theorem dp_s_pw {L : List Nat → Prop} {s : Nat} (h : dp_s L s) : ∀ r, dp_s (ex_pw L r) (r * s) := by
  intro r
  induction r with
  | zero =>
    refine ⟨⟨[], by rw [Nat.zero_mul]; rfl, rfl⟩, fun q _ => by rw [Nat.zero_mul]; exact Nat.zero_le _⟩
  | succ r ih =>
    obtain ⟨⟨x, lx, hx⟩, h2⟩ := h
    obtain ⟨⟨y, ly, hy⟩, h4⟩ := ih
    refine ⟨⟨x ++ y, by rw [List.length_append, lx, ly, Nat.succ_mul, Nat.add_comm], x, y, rfl, hx, hy⟩, ?_⟩
    rintro q ⟨x', y', e, hx', hy'⟩
    have := h2 x' hx'
    have := h4 y' hy'
    rw [e, List.length_append, Nat.succ_mul]
    omega
/-- x: the least of the numbers of which K holds, within B; 100000 if there is none -/
def dp_M (B : Nat) (K : Nat → Prop) (x : Nat) : Prop := (K x ∧ x ≤ B ∧ ∀ d, K d → x ≤ d) ∨ (x = 100000 ∧ ∀ d, ¬ K d)
theorem dp_fin {B : Nat} {K C : Nat → Prop} {few : Nat} (h1 : few = 100000 ∨ C few) (h2 : ∀ c, C c → few ≤ c) (h3 : few ≤ 100000) (h4 : ∀ c, C c → c < 100000 → K c ∧ c ≤ B) (h5 : ∀ d, K d → ∃ c, C c ∧ c ≤ d ∧ c < 100000) : dp_M B K few := by
  by_cases h : few = 100000
  · right
    refine ⟨h, fun d hd => ?_⟩
    obtain ⟨c, hc, _, hl⟩ := h5 d hd
    have := h2 c hc
    omega
  · left
    have hC : C few := h1.resolve_left h
    obtain ⟨k1, k2⟩ := h4 few hC (by omega)
    refine ⟨k1, k2, fun d hd => ?_⟩
    obtain ⟨c, hc, hle, _⟩ := h5 d hd
    have := h2 c hc
    omega
/-- least of two -/
theorem dp_M_or {B1 B2 B : Nat} {K1 K2 K : Nat → Prop} {x y : Nat} (h1 : dp_M B1 K1 x) (h2 : dp_M B2 K2 y) (hB1 : B1 ≤ B) (hB2 : B2 ≤ B) (hB : B < 100000) (hK : ∀ d, K d ↔ K1 d ∨ K2 d) : dp_M B K (if x < y then x else y) := by
  rcases h1 with ⟨a1, a2, a3⟩ | ⟨a1, a2⟩
  · rcases h2 with ⟨b1, b2, b3⟩ | ⟨b1, b2⟩
    · left
      by_cases h : x < y
      · rw [if_pos h]
        refine ⟨(hK x).mpr (Or.inl a1), by omega, fun d hd => ?_⟩
        rcases (hK d).mp hd with h' | h'
        · exact a3 d h'
        · have := b3 d h'; omega
      · rw [if_neg h]
        refine ⟨(hK y).mpr (Or.inr b1), by omega, fun d hd => ?_⟩
        rcases (hK d).mp hd with h' | h'
        · have := a3 d h'; omega
        · exact b3 d h'
    · left
      rw [if_pos (by omega)]
      exact ⟨(hK x).mpr (Or.inl a1), by omega, fun d hd => ((hK d).mp hd).elim (a3 d) (fun h => (b2 d h).elim)⟩
  · rcases h2 with ⟨b1, b2, b3⟩ | ⟨b1, b2⟩
    · left
      rw [if_neg (by omega)]
      exact ⟨(hK y).mpr (Or.inr b1), by omega, fun d hd => ((hK d).mp hd).elim (fun h => (a2 d h).elim) (b3 d)⟩
    · right
      refine ⟨?_, fun d hd => ((hK d).mp hd).elim (a2 d) (b2 d)⟩
      rw [if_neg (by omega)]
      exact b1
end
section
/-! ===== the document's tree: kids, parents, the walk, the order ===== -/
theorem tr_pig : ∀ (n : Nat) (l : List Nat), l.Nodup → (∀ x, x ∈ l → x < n) → l.length ≤ n := by
  intro n
  induction n with
  | zero =>
    intro l _ h
    cases l with
    | nil => exact Nat.le_refl 0
    | cons a l => exact absurd (h a (List.mem_cons_self)) (by omega)
  | succ n ih =>
    intro l hl h
    by_cases hn : n ∈ l
    · have h1 := ih (l.erase n) (List.Nodup.erase n hl) (fun x hx => by
        have hx' := (List.Nodup.mem_erase_iff hl).mp hx
        have := h x hx'.2
        have := hx'.1
        omega)
      rw [List.length_erase_of_mem hn] at h1
      omega
    · have h1 := ih l hl (fun x hx => by
        have := h x hx
        have : x ≠ n := fun e => hn (e ▸ hx)
        omega)
      omega
/-- the kids of p from j on: m of them -/
def tr_kf (ch : Nat → Nat → Nat) (p : Nat) : Nat → Nat → List Nat
  | 0, _ => []
  | m + 1, j => ch p j :: tr_kf ch p m (j + 1)
theorem tr_kf_mem {ch : Nat → Nat → Nat} {p x : Nat} : ∀ m j, x ∈ tr_kf ch p m j ↔ ∃ i, j ≤ i ∧ i < j + m ∧ ch p i = x := by
  intro m
  induction m with
  | zero =>
    intro j
    constructor
    · intro h; cases h
    · rintro ⟨i, h1, h2, _⟩; omega
  | succ m ih =>
    intro j
    show x ∈ ch p j :: tr_kf ch p m (j + 1) ↔ _
    rw [List.mem_cons, ih]
    constructor
    · rintro (h | ⟨i, h1, h2, h3⟩)
      · exact ⟨j, by omega, by omega, h.symm⟩
      · exact ⟨i, by omega, by omega, h3⟩
    · rintro ⟨i, h1, h2, h3⟩
      by_cases e : i = j
      · rw [e] at h3; exact Or.inl h3.symm
      · exact Or.inr ⟨i, by omega, by omega, h3⟩
theorem tr_kf_len {ch : Nat → Nat → Nat} {p : Nat} : ∀ m j, (tr_kf ch p m j).length = m := by
  intro m
  induction m with
  | zero => intro j; rfl
  | succ m ih => intro j; show (tr_kf ch p m (j + 1)).length + 1 = m + 1; rw [ih]
theorem tr_kf_nd {ch : Nat → Nat → Nat} {p : Nat} : ∀ m j, (∀ a b, j ≤ a → a < j + m → j ≤ b → b < j + m → ch p a = ch p b → a = b) → (tr_kf ch p m j).Nodup := by
  intro m
  induction m with
  | zero => intro j _; exact List.nodup_nil
  | succ m ih =>
    intro j h
    show (ch p j :: tr_kf ch p m (j + 1)).Nodup
    rw [List.nodup_cons]
    refine ⟨fun hm => ?_, ih (j + 1) (fun a b h1 h2 h3 h4 => h a b (by omega) (by omega) (by omega) (by omega))⟩
    obtain ⟨i, h1, h2, h3⟩ := (tr_kf_mem m (j + 1)).mp hm
    have := h i j (by omega) (by omega) (by omega) (by omega) h3
    omega
/-- kids are elements, with their parent, of a greater rank; no kid twice -/
def tr_F (us : Nat → Prop) (po : Nat → Option Nat) (c : Nat → Nat) (ch : Nat → Nat → Nat) (rk : Nat → Nat) : Prop :=
  (∀ e, us e → e < 24) ∧ (∀ p k, us p → k < c p → us (ch p k) ∧ po (ch p k) = some p ∧ rk p < rk (ch p k)) ∧
  (∀ p i j, us p → i < c p → j < c p → ch p i = ch p j → i = j)
/-- the whole tree: 0 is the root, every other element is a kid of its parent -/
def tr_I (us : Nat → Prop) (po : Nat → Option Nat) (c : Nat → Nat) (ch : Nat → Nat → Nat) (rk : Nat → Nat) : Prop :=
  tr_F us po c ch rk ∧ (∀ e, us e → e = 0 ∨ ∃ p k, po e = some p ∧ us p ∧ k < c p ∧ ch p k = e) ∧ (∀ e, us e → us 0) ∧ (us 0 → po 0 = none)
theorem tr_F_c {us : Nat → Prop} {po : Nat → Option Nat} {c : Nat → Nat} {ch : Nat → Nat → Nat} {rk : Nat → Nat} (h : tr_F us po c ch rk) {p : Nat} (hp : us p) : c p ≤ 23 := by
  obtain ⟨h1, h2, h3⟩ := h
  have nd : (p :: tr_kf ch p (c p) 0).Nodup := by
    rw [List.nodup_cons]
    refine ⟨fun hm => ?_, tr_kf_nd _ _ (fun a b _ ha _ hb e => h3 p a b hp (by omega) (by omega) e)⟩
    obtain ⟨i, _, hi, e⟩ := (tr_kf_mem _ _).mp hm
    have := (h2 p i hp (by omega)).2.2
    rw [e] at this
    omega
  have hl := tr_pig 24 _ nd (fun x hx => by
    rcases List.mem_cons.mp hx with e | hx
    · rw [e]; exact h1 p hp
    · obtain ⟨i, _, hi, e⟩ := (tr_kf_mem _ _).mp hx
      rw [← e]
      exact h1 _ (h2 p i hp (by omega)).1)
  rw [List.length_cons, tr_kf_len] at hl
  omega
/-- ws: walked; st: waiting, the next one first -/
def tr_V (us : Nat → Prop) (po : Nat → Option Nat) (c : Nat → Nat) (ch : Nat → Nat → Nat) (rk : Nat → Nat) (top : Nat) (ws st : List Nat) : Prop :=
  (ws ++ st).Nodup ∧ (∀ x, x ∈ ws ++ st → us x ∧ rk top ≤ rk x ∧ (x = top ∨ ∃ y, y ∈ ws ∧ po x = some y)) ∧
  (∀ x k, x ∈ ws → k < c x → ch x k ∈ ws ++ st) ∧ top ∈ ws ++ st
theorem tr_V_len {us : Nat → Prop} {po : Nat → Option Nat} {c : Nat → Nat} {ch : Nat → Nat → Nat} {rk : Nat → Nat} {top : Nat} {ws st : List Nat} (hF : tr_F us po c ch rk) (h : tr_V us po c ch rk top ws st) : ws.length + st.length ≤ 24 := by
  have := tr_pig 24 _ h.1 (fun x hx => hF.1 x (h.2.1 x hx).1)
  rw [List.length_append] at this
  exact this
theorem tr_V_0 {us : Nat → Prop} {po : Nat → Option Nat} {c : Nat → Nat} {ch : Nat → Nat → Nat} {rk : Nat → Nat} {top : Nat} (ht : us top) : tr_V us po c ch rk top [] [top] := by
  refine ⟨?_, ?_, ?_, ?_⟩
  · show [top].Nodup
    rw [List.nodup_cons]
    exact ⟨(fun h => by cases h), List.nodup_nil⟩
  · intro x hx
    have e : x = top := List.mem_singleton.mp hx
    rw [e]
    exact ⟨ht, Nat.le_refl _, Or.inl rfl⟩
  · intro x k hx; cases hx
  · exact List.mem_singleton.mpr rfl
theorem tr_V_s {us : Nat → Prop} {po : Nat → Option Nat} {c : Nat → Nat} {ch : Nat → Nat → Nat} {rk : Nat → Nat} {top e : Nat} {ws st : List Nat} (hF : tr_F us po c ch rk) (h : tr_V us po c ch rk top ws (e :: st)) : tr_V us po c ch rk top (ws ++ [e]) (tr_kf ch e (c e) 0 ++ st) := by
  obtain ⟨nd, h1, h2, h3⟩ := h
  obtain ⟨f1, f2, f3⟩ := hF
  have he : e ∈ ws ++ e :: st := List.mem_append.mpr (Or.inr List.mem_cons_self)
  obtain ⟨ue, re, pe⟩ := h1 e he
  have nd' := List.nodup_append.mp nd
  have nd2 := List.nodup_cons.mp nd'.2.1
  have hmem : ∀ x, x ∈ (ws ++ [e]) ++ (tr_kf ch e (c e) 0 ++ st) ↔ x ∈ ws ++ e :: st ∨ x ∈ tr_kf ch e (c e) 0 := by
    intro x
    simp only [List.mem_append, List.mem_cons, List.not_mem_nil, or_false]
    constructor
    · rintro ((h | h) | (h | h))
      · exact Or.inl (Or.inl h)
      · exact Or.inl (Or.inr (Or.inl h))
      · exact Or.inr h
      · exact Or.inl (Or.inr (Or.inr h))
    · rintro ((h | h | h) | h)
      · exact Or.inl (Or.inl h)
      · exact Or.inl (Or.inr h)
      · exact Or.inr (Or.inr h)
      · exact Or.inr (Or.inl h)
  have hew : e ∉ ws := fun h => nd'.2.2 e h e List.mem_cons_self rfl
  have fresh : ∀ k, k < c e → ch e k ∉ ws ++ e :: st := by
    intro k hk hm
    obtain ⟨_, k2, k3⟩ := f2 e k ue hk
    obtain ⟨_, _, ha⟩ := h1 _ hm
    rcases ha with ha | ⟨y, hy, ha⟩
    · rw [ha] at k3; omega
    · rw [k2] at ha
      have : e = y := Option.some.inj ha
      rw [← this] at hy
      exact hew hy
  refine ⟨?_, ?_, ?_, ?_⟩
  · rw [List.nodup_append]
    refine ⟨?_, ?_, ?_⟩
    · rw [List.nodup_append]
      refine ⟨nd'.1, List.nodup_cons.mpr ⟨(fun h => by cases h), List.nodup_nil⟩, ?_⟩
      intro a ha b hb hab
      have hb' : b = e := List.mem_singleton.mp hb
      rw [hab, hb'] at ha
      exact hew ha
    · rw [List.nodup_append]
      refine ⟨tr_kf_nd _ _ (fun a b _ ha _ hb q => f3 e a b ue (by omega) (by omega) q), nd2.2, ?_⟩
      intro a ha b hb hab
      obtain ⟨i, _, hi, ei⟩ := (tr_kf_mem _ _).mp ha
      apply fresh i (by omega)
      rw [ei, hab]
      exact List.mem_append.mpr (Or.inr (List.mem_cons_of_mem _ hb))
    · intro a ha b hb hab
      rcases List.mem_append.mp hb with hb | hb
      · obtain ⟨i, _, hi, ei⟩ := (tr_kf_mem _ _).mp hb
        apply fresh i (by omega)
        rw [ei, ← hab]
        rcases List.mem_append.mp ha with ha | ha
        · exact List.mem_append.mpr (Or.inl ha)
        · rw [List.mem_singleton.mp ha]; exact he
      · rcases List.mem_append.mp ha with ha | ha
        · exact nd'.2.2 a ha b (List.mem_cons_of_mem _ hb) hab
        · rw [List.mem_singleton.mp ha] at hab
          rw [← hab] at hb
          exact nd2.1 hb
  · intro x hx
    rcases (hmem x).mp hx with hx | hx
    · obtain ⟨a1, a2, a3⟩ := h1 x hx
      refine ⟨a1, a2, ?_⟩
      rcases a3 with a3 | ⟨y, hy, a3⟩
      · exact Or.inl a3
      · exact Or.inr ⟨y, List.mem_append.mpr (Or.inl hy), a3⟩
    · obtain ⟨i, _, hi, ei⟩ := (tr_kf_mem _ _).mp hx
      obtain ⟨k1, k2, k3⟩ := f2 e i ue (by omega)
      rw [ei] at k1 k2 k3
      exact ⟨k1, by omega, Or.inr ⟨e, List.mem_append.mpr (Or.inr (List.mem_singleton.mpr rfl)), k2⟩⟩
  · intro x k hx hk
    rw [hmem]
    rcases List.mem_append.mp hx with hx | hx
    · exact Or.inl (h2 x k hx hk)
    · rw [List.mem_singleton.mp hx] at hk ⊢
      exact Or.inr ((tr_kf_mem _ _).mpr ⟨k, by omega, by omega, rfl⟩)
  · rw [hmem]; exact Or.inl h3
/-- x is e or below it -/
def tr_B (po : Nat → Option Nat) (e : Nat) : Nat → Nat → Prop
  | 0, x => x = e
  | j + 1, x => x = e ∨ ∃ y, po x = some y ∧ tr_B po e j y
theorem tr_V_in {us : Nat → Prop} {po : Nat → Option Nat} {c : Nat → Nat} {ch : Nat → Nat → Nat} {rk : Nat → Nat} {top : Nat} {ws : List Nat} (hrk : ∀ x y, us x → x ≠ top → po x = some y → rk y < rk x) (h : tr_V us po c ch rk top ws []) : ∀ r x, rk x ≤ r → x ∈ ws → ∃ j, tr_B po top j x := by
  obtain ⟨_, h1, _, _⟩ := h
  intro r
  induction r with
  | zero =>
    intro x hr hx
    by_cases e : x = top
    · exact ⟨0, e⟩
    · obtain ⟨a1, _, a3⟩ := h1 x (by rw [List.append_nil]; exact hx)
      rcases a3 with a3 | ⟨y, hy, a3⟩
      · exact ⟨0, a3⟩
      · have := hrk x y a1 e a3; omega
  | succ r ih =>
    intro x hr hx
    by_cases e : x = top
    · exact ⟨0, e⟩
    · obtain ⟨a1, _, a3⟩ := h1 x (by rw [List.append_nil]; exact hx)
      rcases a3 with a3 | ⟨y, hy, a3⟩
      · exact ⟨0, a3⟩
      · have hry := hrk x y a1 e a3
        obtain ⟨j, hj⟩ := ih y (by omega) hy
        exact ⟨j + 1, Or.inr ⟨y, a3, hj⟩⟩
theorem tr_V_out {us : Nat → Prop} {po : Nat → Option Nat} {c : Nat → Nat} {ch : Nat → Nat → Nat} {rk : Nat → Nat} {top : Nat} {ws : List Nat} (hus : ∀ x y, us x → x ≠ top → po x = some y → us y ∧ (y ∈ ws → ∃ k, k < c y ∧ ch y k = x)) (h : tr_V us po c ch rk top ws []) : ∀ j x, us x → tr_B po top j x → x ∈ ws := by
  obtain ⟨_, h1, h2, h3⟩ := h
  rw [List.append_nil] at h3
  intro j
  induction j with
  | zero => intro x _ hb; rw [show x = top from hb]; exact h3
  | succ j ih =>
    intro x ux hb
    by_cases e : x = top
    · rw [e]; exact h3
    · rcases hb with hb | ⟨y, hy, hb⟩
      · exact (e hb).elim
      · obtain ⟨uy, hk⟩ := hus x y ux e hy
        have hyw := ih y uy hb
        obtain ⟨k, k1, k2⟩ := hk hyw
        have := h2 y k hyw k1
        rw [List.append_nil, k2] at this
        exact this
/-- l: what waits when e is at hand: its right neighbours, those of its parent, and so on -/
def tr_R (po : Nat → Option Nat) (c : Nat → Nat) (ch : Nat → Nat → Nat) : Nat → Nat → List Nat → Prop
  | 0, e, l => po e = none ∧ l = []
  | d + 1, e, l => ∃ p k l', po e = some p ∧ k < c p ∧ ch p k = e ∧ l = tr_kf ch p (c p - (k + 1)) (k + 1) ++ l' ∧ tr_R po c ch d p l'
theorem tr_R_next {po : Nat → Option Nat} {c : Nat → Nat} {ch : Nat → Nat → Nat} (hk : ∀ p k x, k < c p → ch p k = x → ∀ e, po e = some p → po x = some p) : ∀ d e x l, tr_R po c ch d e (x :: l) → ∃ d', tr_R po c ch d' x l := by
  intro d
  induction d with
  | zero => rintro e x l ⟨_, h⟩; cases h
  | succ d ih =>
    rintro e x l ⟨p, k, l', h1, h2, h3, h4, h5⟩
    by_cases hc : k + 1 < c p
    · have e1 : c p - (k + 1) = (c p - (k + 1 + 1)) + 1 := by omega
      rw [e1] at h4
      have h4' : x :: l = ch p (k + 1) :: (tr_kf ch p (c p - (k + 1 + 1)) (k + 1 + 1) ++ l') := h4
      have h6 := List.cons.inj h4'
      exact ⟨d + 1, p, k + 1, l', hk p (k + 1) x hc h6.1.symm e h1, hc, h6.1.symm, h6.2, h5⟩
    · rw [show c p - (k + 1) = 0 by omega] at h4
      have h4' : x :: l = l' := h4
      rw [← h4'] at h5
      exact ih p x l h5
theorem tr_R_kid {po : Nat → Option Nat} {c : Nat → Nat} {ch : Nat → Nat → Nat} {d e : Nat} {l : List Nat} (h : tr_R po c ch d e l) (hc : 0 < c e) (hp : po (ch e 0) = some e) : tr_R po c ch (d + 1) (ch e 0) (tr_kf ch e (c e - 1) 1 ++ l) := ⟨e, 0, l, hp, hc, rfl, rfl, h⟩
/-- how many of the first m -/
def tr_cn (U : Nat → Int32) : Nat → Nat
  | 0 => 0
  | m + 1 => tr_cn U m + (if U m = 0 then 0 else 1)
theorem tr_cn_le (U : Nat → Int32) : ∀ m, tr_cn U m ≤ m := by
  intro m
  induction m with
  | zero => exact Nat.le_refl 0
  | succ m ih =>
    unfold tr_cn
    split <;> omega
theorem tr_cn_full {U : Nat → Int32} : ∀ m, tr_cn U m = m ↔ ∀ i, i < m → U i ≠ 0 := by
  intro m
  induction m with
  | zero => exact ⟨fun _ i h => absurd h (by omega), fun _ => rfl⟩
  | succ m ih =>
    have hle := tr_cn_le U m
    unfold tr_cn
    constructor
    · intro h i hi
      by_cases hz : U m = 0
      · rw [if_pos hz] at h; omega
      · rw [if_neg hz] at h
        by_cases e : i = m
        · rw [e]; exact hz
        · exact ih.mp (by omega) i (by omega)
    · intro h
      rw [if_neg (h m (by omega))]
      have := ih.mpr (fun i hi => h i (by omega))
      omega
theorem tr_cn_none {U : Nat → Int32} : ∀ m, tr_cn U m = 0 ↔ ∀ i, i < m → U i = 0 := by
  intro m
  induction m with
  | zero => exact ⟨fun _ i h => absurd h (by omega), fun _ => rfl⟩
  | succ m ih =>
    unfold tr_cn
    constructor
    · intro h i hi
      by_cases hz : U m = 0
      · by_cases e : i = m
        · rw [e]; exact hz
        · exact ih.mp (by rw [if_pos hz] at h; omega) i (by omega)
      · rw [if_neg hz] at h; omega
    · intro h
      rw [if_pos (h m (by omega)), ih.mpr (fun i hi => h i (by omega))]
theorem tr_cn_cg {U V : Nat → Int32} : ∀ m, (∀ i, i < m → U i = V i) → tr_cn U m = tr_cn V m := by
  intro m
  induction m with
  | zero => intro _; rfl
  | succ m ih =>
    intro h
    unfold tr_cn
    rw [ih (fun i hi => h i (by omega)), h m (by omega)]
/-- one more -/
theorem tr_cn_set {U : Nat → Int32} {i : Nat} {x : Int32} (hi : U i = 0) (hx : x ≠ 0) : ∀ m, i < m → tr_cn (upd U i x) m = tr_cn U m + 1 := by
  intro m
  induction m with
  | zero => intro h; omega
  | succ m ih =>
    intro h
    by_cases e : i = m
    · unfold tr_cn
      have h1 : tr_cn (upd U i x) m = tr_cn U m := tr_cn_cg m (fun j hj => by unfold upd; rw [if_neg (by omega)])
      have h2 : upd U i x m = x := by unfold upd; rw [if_pos e.symm]
      rw [h1, h2, if_neg hx, ← e, if_pos hi]
    · have h1 := ih (by omega)
      have h2 : upd U i x m = U m := by unfold upd; rw [if_neg (by omega)]
      unfold tr_cn
      rw [h1, h2]
      omega
/-- one less -/
theorem tr_cn_clr {U : Nat → Int32} {i : Nat} (hi : U i ≠ 0) : ∀ m, i < m → tr_cn (upd U i 0) m + 1 = tr_cn U m := by
  intro m
  induction m with
  | zero => intro h; omega
  | succ m ih =>
    intro h
    by_cases e : i = m
    · unfold tr_cn
      have h1 : tr_cn (upd U i 0) m = tr_cn U m := tr_cn_cg m (fun j hj => by unfold upd; rw [if_neg (by omega)])
      have h2 : upd U i 0 m = 0 := by unfold upd; rw [if_pos e.symm]
      rw [h1, h2, if_pos rfl, ← e, if_neg hi]
    · have h1 := ih (by omega)
      have h2 : upd U i 0 m = U m := by unfold upd; rw [if_neg (by omega)]
      unfold tr_cn
      rw [h2]
      omega
end
section
/-! ===== single bits; automata held in ints ===== -/
theorem bb_1 (i : Nat) : bt 1 i = decide (i = 0) := by
  rcases Nat.lt_or_ge i 32 with h | h
  · exact (by decide +kernel : ∀ i, i < 32 → bt 1 i = decide (i = 0)) i h
  · rw [b_big h, decide_eq_false (by omega)]
theorem bb_2 (i : Nat) : bt 2 i = decide (i = 1) := by
  rcases Nat.lt_or_ge i 32 with h | h
  · exact (by decide +kernel : ∀ i, i < 32 → bt 2 i = decide (i = 1)) i h
  · rw [b_big h, decide_eq_false (by omega)]
theorem bb_30 (i : Nat) : bt 1073741824 i = decide (i = 30) := by
  rcases Nat.lt_or_ge i 32 with h | h
  · exact (by decide +kernel : ∀ i, i < 32 → bt 1073741824 i = decide (i = 30)) i h
  · rw [b_big h, decide_eq_false (by omega)]
theorem bb_lt {x : Int32} {i : Nat} (h : bt x i = true) : i < 32 := by
  rcases Nat.lt_or_ge i 32 with h' | h'
  · exact h'
  · rw [b_big h'] at h; cases h
theorem bb_and1 (y : Int32) : (y &&& 1) = 0 ↔ bt y 0 = false := by
  constructor
  · intro h
    have := b_and y 1 0
    rw [h, b_0, bb_1, decide_eq_true rfl, Bool.and_true] at this
    exact this.symm
  · intro h
    apply b_ext
    intro i _
    rw [b_and, bb_1, b_0]
    by_cases e : i = 0
    · rw [e, h]; rfl
    · rw [decide_eq_false e, Bool.and_false]
/-- x >> p & 1 -/
theorem bb_t (x : Int32) {p : Nat} (hp : p < 32) : ((x >>> (nI p &&& 31)) &&& 1) = 0 ↔ bt x p = false := by
  rw [bb_and1, b_sshr p hp x (by omega), if_pos (by omega), Nat.add_zero]
theorem bb_t' (x : Int32) {p : Nat} (hp : p < 32) : ¬ ((x >>> (nI p &&& 31)) &&& 1) = 0 ↔ bt x p = true := by
  rw [bb_t x hp, Bool.not_eq_false]
/-- 1 << p -/
theorem bb_s {p : Nat} (hp : p < 32) (i : Nat) : bt ((1 : Int32) <<< (nI p &&& 31)) i = decide (i = p) := by
  rcases Nat.lt_or_ge i 32 with h | h
  · rw [b_shl p hp 1 h, bb_1]
    by_cases e : i = p
    · rw [decide_eq_true e, decide_eq_true (by omega), decide_eq_true (by omega)]; rfl
    · rw [decide_eq_false e]
      by_cases g : p ≤ i
      · rw [decide_eq_false (p := i - p = 0) (by omega), Bool.and_false]
      · rw [decide_eq_false g, Bool.false_and]
  · rw [b_big h, decide_eq_false (by omega)]
/-- 2 << p -/
theorem bb_s2 {p : Nat} (hp : p < 31) (i : Nat) : bt ((2 : Int32) <<< (nI p &&& 31)) i = decide (i = p + 1) := by
  rcases Nat.lt_or_ge i 32 with h | h
  · rw [b_shl p (by omega) 2 h, bb_2]
    by_cases e : i = p + 1
    · rw [decide_eq_true e, decide_eq_true (by omega), decide_eq_true (by omega)]; rfl
    · rw [decide_eq_false e]
      by_cases g : p ≤ i
      · rw [decide_eq_false (p := i - p = 1) (by omega), Bool.and_false]
      · rw [decide_eq_false g, Bool.false_and]
  · rw [b_big h, decide_eq_false (by omega)]
theorem bb_ne {x : Int32} : x ≠ 0 ↔ ∃ i, bt x i = true := by
  constructor
  · intro h
    apply Classical.byContradiction
    intro hn
    apply h
    apply b_ext
    intro i _
    rw [b_0]
    cases hb : bt x i with
    | false => rfl
    | true => exact (hn ⟨i, hb⟩).elim
  · rintro ⟨i, h⟩ e
    rw [e, b_0] at h
    cases h
theorem bb_orI {x y : Int32} {i : Nat} : bt (x ||| y) i = true ↔ bt x i = true ∨ bt y i = true := by rw [b_or, Bool.or_eq_true]
theorem bb_andI {x y : Int32} {i : Nat} : bt (x &&& y) i = true ↔ bt x i = true ∧ bt y i = true := by rw [b_and, Bool.and_eq_true]
theorem bb_sI {p : Nat} (hp : p < 32) {i : Nat} : bt ((1 : Int32) <<< (nI p &&& 31)) i = true ↔ i = p := by rw [bb_s hp, decide_eq_true_iff]
theorem bb_shlI {s : Nat} (hs : s < 32) {x : Int32} {i : Nat} (hi : i < 32) : bt (x <<< (nI s &&& 31)) i = true ↔ ∃ j, i = j + s ∧ bt x j = true := by
  rw [b_shl s hs x hi, Bool.and_eq_true, decide_eq_true_iff]
  constructor
  · rintro ⟨h1, h2⟩; exact ⟨i - s, by omega, h2⟩
  · rintro ⟨j, h1, h2⟩
    refine ⟨by omega, ?_⟩
    rw [show i - s = j by omega]; exact h2
/-- x & ~y -/
theorem bb_notI {x y : Int32} {i : Nat} : bt (x &&& (y ^^^ (-1))) i = true ↔ bt x i = true ∧ bt y i = false := by
  rw [bb_andI]
  constructor
  · rintro ⟨h1, h2⟩
    refine ⟨h1, ?_⟩
    rw [b_xor, b_m1 i (bb_lt h1)] at h2
    cases hb : bt y i with
    | false => rfl
    | true => rw [hb] at h2; cases h2
  · rintro ⟨h1, h2⟩
    refine ⟨h1, ?_⟩
    rw [b_xor, b_m1 i (bb_lt h1), h2]; rfl
theorem bb_eqI {x y : Int32} (h : ∀ i, bt x i = true ↔ bt y i = true) : x = y := by
  apply b_ext
  intro i _
  exact Bool.eq_iff_iff.mpr (h i)
/-- what follows the states of S: the first m looked at -/
def xa_fl (fo : Nat → Int32) (S : Int32) : Nat → Int32
  | 0 => 0
  | m + 1 => if bt S m = true then xa_fl fo S m ||| fo m else xa_fl fo S m
theorem xa_flI {fo : Nat → Int32} {S : Int32} {q : Nat} : ∀ m, bt (xa_fl fo S m) q = true ↔ ∃ s, s < m ∧ bt S s = true ∧ bt (fo s) q = true := by
  intro m
  induction m with
  | zero =>
    constructor
    · intro h
      have h' : bt 0 q = true := h
      rw [b_0] at h'; cases h'
    · rintro ⟨s, h, _⟩; omega
  | succ m ih =>
    unfold xa_fl
    by_cases hS : bt S m = true
    · rw [if_pos hS, bb_orI, ih]
      constructor
      · rintro (⟨s, h1, h2⟩ | h)
        · exact ⟨s, by omega, h2⟩
        · exact ⟨m, by omega, hS, h⟩
      · rintro ⟨s, h1, h2, h3⟩
        by_cases e : s = m
        · rw [e] at h3; exact Or.inr h3
        · exact Or.inl ⟨s, by omega, h2, h3⟩
    · rw [if_neg hS, ih]
      constructor
      · rintro ⟨s, h1, h2⟩; exact ⟨s, by omega, h2⟩
      · rintro ⟨s, h1, h2, h3⟩
        have : s ≠ m := fun e => hS (e ▸ h2)
        exact ⟨s, by omega, h2, h3⟩
def xa_step (fo be : Nat → Int32) (S : Int32) (n : Nat) : Int32 := xa_fl fo S 31 &&& be n
def xa_run (fo be : Nat → Int32) : Int32 → List Nat → Int32
  | S, [] => S
  | S, n :: w => xa_run fo be (xa_step fo be S n) w
theorem xa_run_app (fo be : Nat → Int32) : ∀ (u v : List Nat) (S : Int32), xa_run fo be S (u ++ v) = xa_run fo be (xa_run fo be S u) v := by
  intro u
  induction u with
  | nil => intro v S; rfl
  | cons a u ih => intro v S; exact ih v _
/-- w is taken from state s -/
def xa_B (fo be : Nat → Int32) (ac : Int32) : List Nat → Nat → Prop
  | [] => fun s => bt ac s = true
  | n :: w => fun s => ∃ q, bt (fo s) q = true ∧ bt (be n) q = true ∧ xa_B fo be ac w q
def xa_N (w : List Nat) : Prop := ∀ x, x ∈ w → x < 6
def xa_OK (fo be : Nat → Int32) (ac : Int32) (L : List Nat → Prop) : Prop :=
  (∀ w, xa_N w → (xa_B fo be ac w 30 ↔ L w)) ∧ (∀ w, L w → xa_N w) ∧
  (∀ s q, s < 31 → bt (fo s) q = true → q < 30 ∧ (∃ n, n < 6 ∧ bt (be n) q = true) ∧ ∃ w, xa_N w ∧ xa_B fo be ac w q)
theorem xa_N_cons {n : Nat} {w : List Nat} : xa_N (n :: w) ↔ n < 6 ∧ xa_N w := by
  constructor
  · intro h; exact ⟨h n List.mem_cons_self, fun x hx => h x (List.mem_cons_of_mem _ hx)⟩
  · rintro ⟨h1, h2⟩ x hx
    rcases List.mem_cons.mp hx with e | hx
    · rw [e]; exact h1
    · exact h2 x hx
theorem xa_N_app {u v : List Nat} : xa_N (u ++ v) ↔ xa_N u ∧ xa_N v := by
  constructor
  · intro h; exact ⟨fun x hx => h x (List.mem_append.mpr (Or.inl hx)), fun x hx => h x (List.mem_append.mpr (Or.inr hx))⟩
  · rintro ⟨h1, h2⟩ x hx
    rcases List.mem_append.mp hx with hx | hx
    · exact h1 x hx
    · exact h2 x hx
/-- the states of a set lie among 0 .. 30 -/
def xa_D (S : Int32) : Prop := ∀ s, bt S s = true → s < 31
theorem xa_D_step {fo be : Nat → Int32} {ac : Int32} {L : List Nat → Prop} (h : xa_OK fo be ac L) (S : Int32) (n : Nat) : xa_D (xa_step fo be S n) := by
  intro q hq
  obtain ⟨s, h1, _, h3⟩ := (xa_flI 31).mp (bb_andI.mp hq).1
  have := (h.2.2 s q h1 h3).1
  omega
theorem xa_D_run {fo be : Nat → Int32} {ac : Int32} {L : List Nat → Prop} (h : xa_OK fo be ac L) : ∀ w S, xa_D S → xa_D (xa_run fo be S w) := by
  intro w
  induction w with
  | nil => intro S hS; exact hS
  | cons n w ih => intro S _; exact ih _ (xa_D_step h S n)
theorem xa_run_B {fo be : Nat → Int32} {ac : Int32} {L : List Nat → Prop} (h : xa_OK fo be ac L) (v : List Nat) : ∀ w S, xa_D S → ((∃ q, bt (xa_run fo be S w) q = true ∧ xa_B fo be ac v q) ↔ ∃ s, bt S s = true ∧ xa_B fo be ac (w ++ v) s) := by
  intro w
  induction w with
  | nil => intro S _; exact Iff.rfl
  | cons n w ih =>
    intro S hS
    show (∃ q, bt (xa_run fo be (xa_step fo be S n) w) q = true ∧ _) ↔ _
    rw [ih _ (xa_D_step h S n)]
    constructor
    · rintro ⟨q, hq, hB⟩
      obtain ⟨h1, h2⟩ := bb_andI.mp hq
      obtain ⟨s, _, h4, h5⟩ := (xa_flI 31).mp h1
      exact ⟨s, h4, q, h5, h2, hB⟩
    · rintro ⟨s, h4, q, h5, h2, hB⟩
      exact ⟨q, bb_andI.mpr ⟨(xa_flI 31).mpr ⟨s, hS s h4, h4, h5⟩, h2⟩, hB⟩
theorem xa_D30 : xa_D 1073741824 := by
  intro s hs
  rw [bb_30, decide_eq_true_iff] at hs
  omega
/-- a word is taken if and only if it is one -/
theorem xa_acc {fo be : Nat → Int32} {ac : Int32} {L : List Nat → Prop} (h : xa_OK fo be ac L) {w : List Nat} (hw : xa_N w) : (xa_run fo be 1073741824 w &&& ac) ≠ 0 ↔ L w := by
  rw [bb_ne, ← h.1 w hw]
  have := xa_run_B h [] w 1073741824 xa_D30
  rw [List.append_nil] at this
  constructor
  · rintro ⟨i, hi⟩
    obtain ⟨h1, h2⟩ := bb_andI.mp hi
    obtain ⟨s, hs, hB⟩ := this.mp ⟨i, h1, h2⟩
    rw [bb_30, decide_eq_true_iff] at hs
    rw [← hs]; exact hB
  · intro hB
    obtain ⟨q, h1, h2⟩ := this.mpr ⟨30, by rw [bb_30, decide_eq_true_iff], hB⟩
    exact ⟨q, bb_andI.mpr ⟨h1, h2⟩⟩
/-- states are left if and only if a word begins so -/
theorem xa_pre {fo be : Nat → Int32} {ac : Int32} {L : List Nat → Prop} (h : xa_OK fo be ac L) {w : List Nat} (hw : xa_N w) (hne : ∃ u, L u) : xa_run fo be 1073741824 w ≠ 0 ↔ ∃ v, L (w ++ v) := by
  rw [bb_ne]
  constructor
  · rintro ⟨q, hq⟩
    have hv : ∃ v, xa_N v ∧ xa_B fo be ac v q := by
      rcases List.eq_nil_or_concat w with e | ⟨w', n, e⟩
      · rw [e] at hq
        have hq' : bt 1073741824 q = true := hq
        rw [bb_30, decide_eq_true_iff] at hq'
        obtain ⟨u, hu⟩ := hne
        exact ⟨u, h.2.1 u hu, by rw [hq']; exact (h.1 u (h.2.1 u hu)).mpr hu⟩
      · rw [e, List.concat_eq_append, xa_run_app] at hq
        obtain ⟨s, h1, _, h3⟩ := (xa_flI 31).mp (bb_andI.mp hq).1
        exact (h.2.2 s q h1 h3).2.2
    obtain ⟨v, hN, hv⟩ := hv
    obtain ⟨s, hs, hB⟩ := (xa_run_B h v w 1073741824 xa_D30).mp ⟨q, hq, hv⟩
    rw [bb_30, decide_eq_true_iff] at hs
    rw [hs] at hB
    exact ⟨v, (h.1 _ (xa_N_app.mpr ⟨hw, hN⟩)).mp hB⟩
  · rintro ⟨v, hv⟩
    have hB := (h.1 _ (h.2.1 _ hv)).mpr hv
    obtain ⟨q, hq, _⟩ := (xa_run_B h v w 1073741824 xa_D30).mpr ⟨30, by rw [bb_30, decide_eq_true_iff], hB⟩
    exact ⟨q, hq⟩
def xa_fls (fo : Nat → Int32) : Nat → Int32 → Int32
  | 0, S => S
  | m + 1, S => xa_fls fo m (xa_fl fo S 31)
/-- m steps more, by whatever names -/
theorem xa_far {fo be : Nat → Int32} {ac : Int32} {L : List Nat → Prop} (h : xa_OK fo be ac L) : ∀ m S, xa_D S → ((xa_fls fo m S &&& ac) ≠ 0 ↔ ∃ w, w.length = m ∧ xa_N w ∧ ∃ s, bt S s = true ∧ xa_B fo be ac w s) := by
  intro m
  induction m with
  | zero =>
    intro S _
    rw [bb_ne]
    constructor
    · rintro ⟨i, hi⟩
      obtain ⟨h1, h2⟩ := bb_andI.mp hi
      exact ⟨[], rfl, (fun x hx => by cases hx), i, h1, h2⟩
    · rintro ⟨w, hw, _, s, hs, hB⟩
      rw [List.length_eq_zero_iff.mp hw] at hB
      exact ⟨s, bb_andI.mpr ⟨hs, hB⟩⟩
  | succ m ih =>
    intro S hS
    have hD : xa_D (xa_fl fo S 31) := by
      intro q hq
      obtain ⟨s, h1, _, h3⟩ := (xa_flI 31).mp hq
      have := (h.2.2 s q h1 h3).1
      omega
    show (xa_fls fo m (xa_fl fo S 31) &&& ac) ≠ 0 ↔ _
    rw [ih _ hD]
    constructor
    · rintro ⟨w, hl, hN, q, hq, hB⟩
      obtain ⟨s, h1, h2, h3⟩ := (xa_flI 31).mp hq
      obtain ⟨_, ⟨n, hn, hb⟩, _⟩ := h.2.2 s q h1 h3
      exact ⟨n :: w, by rw [List.length_cons, hl], xa_N_cons.mpr ⟨hn, hN⟩, s, h2, q, h3, hb, hB⟩
    · rintro ⟨w, hl, hN, s, hs, hB⟩
      cases w with
      | nil => cases hl
      | cons n w =>
        obtain ⟨q, h3, hb, hB⟩ := hB
        rw [List.length_cons] at hl
        exact ⟨w, by omega, (xa_N_cons.mp hN).2, q, (xa_flI 31).mpr ⟨s, hS s hs, hs, h3⟩, hB⟩
theorem xa_lack {fo be : Nat → Int32} {ac : Int32} {L : List Nat → Prop} (h : xa_OK fo be ac L) {w : List Nat} (hw : xa_N w) (m : Nat) : (xa_fls fo m (xa_run fo be 1073741824 w) &&& ac) ≠ 0 ↔ ∃ v, v.length = m ∧ L (w ++ v) := by
  rw [xa_far h m _ (xa_D_run h w _ xa_D30)]
  constructor
  · rintro ⟨v, hl, hN, q, hq, hB⟩
    obtain ⟨s, hs, hB⟩ := (xa_run_B h v w 1073741824 xa_D30).mp ⟨q, hq, hB⟩
    rw [bb_30, decide_eq_true_iff] at hs
    rw [hs] at hB
    exact ⟨v, hl, (h.1 _ (xa_N_app.mpr ⟨hw, hN⟩)).mp hB⟩
  · rintro ⟨v, hl, hv⟩
    have hN := h.2.1 _ hv
    have hB := (h.1 _ hN).mpr hv
    obtain ⟨q, hq, hB⟩ := (xa_run_B h v w 1073741824 xa_D30).mpr ⟨30, by rw [bb_30, decide_eq_true_iff], hB⟩
    exact ⟨v, hl, (xa_N_app.mp hN).2, q, hq, hB⟩
/-- the automaton of a whole fragment -/
theorem xa_of {φ : Nat → Nat → Prop} {tk g : Nat → Nat} {P : Nat} {F Λ : Nat → Prop} {em : Prop} {L : List Nat → Prop} {fo be : Nat → Int32} {ac : Int32} (h : gl_F φ tk (fun p => p < P) F Λ em L) (hP : P ≤ 30) (hg : ∀ p, p < P → g (tk p) < 6)
    (h1 : ∀ p q, p < P → (bt (fo p) q = true ↔ φ p q)) (h2 : ∀ p q, P ≤ p → p < 30 → bt (fo p) q = false) (h3 : ∀ q, bt (fo 30) q = true ↔ F q)
    (h4 : ∀ s, s < 30 → (bt ac s = true ↔ Λ s)) (h5 : bt ac 30 = true ↔ em) (h6 : ∀ n q, n < 6 → (bt (be n) q = true ↔ q < P ∧ g (tk q) = n)) : xa_OK fo be ac (fun w => ∃ u, L u ∧ u.map g = w) := by
  obtain ⟨a1, a2, a3, a4, a5, a6⟩ := h
  have key : ∀ (w : List Nat) p, xa_N w → p < P → (xa_B fo be ac w p ↔ ∃ u, u.map g = w ∧ gl_A φ tk Λ u p) := by
    intro w
    induction w with
    | nil =>
      intro p _ hp
      constructor
      · intro hb; exact ⟨[], rfl, (h4 p (by omega)).mp hb⟩
      · rintro ⟨u, hu, hA⟩
        rw [List.map_eq_nil_iff.mp hu] at hA
        exact (h4 p (by omega)).mpr hA
    | cons n w ih =>
      intro p hN hp
      obtain ⟨hn, hN⟩ := xa_N_cons.mp hN
      constructor
      · rintro ⟨q, b1, b2, b3⟩
        have f1 := (h1 p q hp).mp b1
        have hq := a3 p q hp f1
        obtain ⟨u, hu, hA⟩ := (ih q hN hq).mp b3
        obtain ⟨_, e⟩ := (h6 n q hn).mp b2
        exact ⟨tk q :: u, by rw [List.map_cons, hu, e], q, f1, rfl, hA⟩
      · rintro ⟨u, hu, hA⟩
        cases u with
        | nil => cases hu
        | cons a u =>
          have hu' := List.cons.inj hu
          obtain ⟨q, f1, e, hA⟩ := hA
          have hq := a3 p q hp f1
          exact ⟨q, (h1 p q hp).mpr f1, (h6 n q hn).mpr ⟨hq, by rw [e]; exact hu'.1⟩, (ih q hN hq).mpr ⟨u, hu'.2, hA⟩⟩
  have names : ∀ (u : List Nat) p, p < P → gl_A φ tk Λ u p → xa_N (u.map g) := by
    intro u
    induction u with
    | nil => intro p _ _ x hx; cases hx
    | cons a u ih =>
      rintro p hp ⟨q, f1, e, hA⟩
      have hq := a3 p q hp f1
      rw [List.map_cons]
      exact xa_N_cons.mpr ⟨by rw [← e]; exact hg q hq, ih q hq hA⟩
  refine ⟨?_, ?_, ?_⟩
  · intro w hN
    cases w with
    | nil =>
      constructor
      · intro hb; exact ⟨[], a4.mp (h5.mp hb), rfl⟩
      · rintro ⟨u, hu, e⟩
        rw [List.map_eq_nil_iff.mp e] at hu
        exact h5.mpr (a4.mpr hu)
    | cons n w =>
      obtain ⟨hn, hN⟩ := xa_N_cons.mp hN
      constructor
      · rintro ⟨q, b1, b2, b3⟩
        have f1 := (h3 q).mp b1
        have hq := a1 q f1
        obtain ⟨u, hu, hA⟩ := (key w q hN hq).mp b3
        obtain ⟨_, e⟩ := (h6 n q hn).mp b2
        exact ⟨tk q :: u, (a5 _ u).mpr ⟨q, f1, rfl, hA⟩, by rw [List.map_cons, hu, e]⟩
      · rintro ⟨u, hu, e⟩
        cases u with
        | nil => cases e
        | cons a u =>
          have e' := List.cons.inj e
          obtain ⟨q, f1, eq, hA⟩ := (a5 a u).mp hu
          have hq := a1 q f1
          exact ⟨q, (h3 q).mpr f1, (h6 n q hn).mpr ⟨hq, by rw [eq]; exact e'.1⟩, (key w q hN hq).mpr ⟨u, e'.2, hA⟩⟩
  · rintro w ⟨u, hu, e⟩
    rw [← e]
    cases u with
    | nil => intro x hx; cases hx
    | cons a u =>
      obtain ⟨q, f1, eq, hA⟩ := (a5 a u).mp hu
      have hq := a1 q f1
      rw [List.map_cons]
      exact xa_N_cons.mpr ⟨by rw [← eq]; exact hg q hq, names u q hq hA⟩
  · intro s q hs hb
    have hq : q < P := by
      by_cases e : s = 30
      · rw [e] at hb; exact a1 q ((h3 q).mp hb)
      · rcases Nat.lt_or_ge s P with g1 | g1
        · exact a3 s q g1 ((h1 s q g1).mp hb)
        · rw [h2 s q g1 (by omega)] at hb; cases hb
    obtain ⟨u, hu⟩ := a6 q hq
    refine ⟨by omega, ⟨g (tk q), hg q hq, (h6 _ q (hg q hq)).mpr ⟨hq, rfl⟩⟩, u.map g, names u q hq hu, ?_⟩
    exact (key _ q (names u q hq hu) hq).mpr ⟨u, rfl, hu⟩
end
section
/-! ===== counting, the least token in doubt, chains that are closed ===== -/
def cb_n (f : Nat → Bool) : Nat → Nat
  | 0 => 0
  | m + 1 => cb_n f m + (if f m = true then 1 else 0)
theorem cb_le (f : Nat → Bool) : ∀ m, cb_n f m ≤ m := by
  intro m
  induction m with
  | zero => exact Nat.le_refl 0
  | succ m ih => unfold cb_n; split <;> omega
theorem cb_mono {f g : Nat → Bool} : ∀ m, (∀ i, i < m → f i = true → g i = true) → cb_n f m ≤ cb_n g m := by
  intro m
  induction m with
  | zero => intro _; exact Nat.le_refl 0
  | succ m ih =>
    intro h
    have h1 := ih (fun i hi => h i (by omega))
    unfold cb_n
    by_cases hf : f m = true
    · rw [if_pos hf, if_pos (h m (by omega) hf)]; omega
    · rw [if_neg hf]; omega
theorem cb_lt {f g : Nat → Bool} {k : Nat} (hk : f k = false) (hg : g k = true) : ∀ m, k < m → (∀ i, i < m → f i = true → g i = true) → cb_n f m < cb_n g m := by
  intro m
  induction m with
  | zero => intro h; omega
  | succ m ih =>
    intro hm h
    unfold cb_n
    by_cases e : k = m
    · have h1 := cb_mono m (fun i hi => h i (by omega))
      rw [← e, if_neg (by rw [hk]; exact Bool.false_ne_true), if_pos hg]
      rw [← e] at h1
      omega
    · have h1 := ih (by omega) (fun i hi => h i (by omega))
      by_cases hf : f m = true
      · rw [if_pos hf, if_pos (h m (by omega) hf)]; omega
      · rw [if_neg hf]; omega
theorem cb_cg {f g : Nat → Bool} : ∀ m, (∀ i, i < m → f i = g i) → cb_n f m = cb_n g m := by
  intro m
  induction m with
  | zero => intro _; rfl
  | succ m ih =>
    intro h
    unfold cb_n
    rw [ih (fun i hi => h i (by omega)), h m (by omega)]
/-- r: the least of the tokens that may be confused with another; -1 if there is none -/
def cf_best (C : Nat → Nat → Prop) (r : Int32) : Prop :=
  (r = -1 ∧ ∀ a b, a ≠ b → ¬ C a b) ∨ (∃ t, t < 16 ∧ r = nI t ∧ (∃ b, b ≠ t ∧ C t b) ∧ ∀ a b, a ≠ b → C a b → t ≤ a)
theorem cf_uniq {C : Nat → Nat → Prop} {r s : Int32} (h1 : cf_best C r) (h2 : cf_best C s) : r = s := by
  rcases h1 with ⟨e1, n1⟩ | ⟨t1, _, e1, ⟨b1, d1, c1⟩, m1⟩
  · rcases h2 with ⟨e2, n2⟩ | ⟨t2, _, e2, ⟨b2, d2, c2⟩, m2⟩
    · rw [e1, e2]
    · exact (n1 t2 b2 (fun e => d2 e.symm) c2).elim
  · rcases h2 with ⟨e2, n2⟩ | ⟨t2, _, e2, ⟨b2, d2, c2⟩, m2⟩
    · exact (n2 t1 b1 (fun e => d1 e.symm) c1).elim
    · have h3 := m1 t2 b2 (fun e => d2 e.symm) c2
      have h4 := m2 t1 b1 (fun e => d1 e.symm) c1
      rw [e1, e2, show t1 = t2 by omega]
theorem cf_iff {C D : Nat → Nat → Prop} (h : ∀ a b, C a b ↔ D a b) {r : Int32} (hr : cf_best C r) : cf_best D r := by
  rcases hr with ⟨e1, n1⟩ | ⟨t1, h0, e1, ⟨b1, d1, c1⟩, m1⟩
  · exact Or.inl ⟨e1, fun a b hab hc => n1 a b hab ((h a b).mpr hc)⟩
  · exact Or.inr ⟨t1, h0, e1, ⟨b1, d1, (h _ _).mp c1⟩, fun a b hab hc => m1 a b hab ((h a b).mpr hc)⟩
theorem gl_C_symm {L : List Nat → Prop} {g : Nat → Nat} {a b : Nat} (h : gl_C L g a b) : gl_C L g b a := by
  obtain ⟨e, u, v, x, y, h1, h2, h3⟩ := h
  exact ⟨e.symm, v, u, y, x, h2, h1, h3.symm⟩
theorem gl_C_congr {L L' : List Nat → Prop} {g : Nat → Nat} (h : ∀ u, L u ↔ L' u) (a b : Nat) : gl_C L g a b ↔ gl_C L' g a b := by
  constructor
  · rintro ⟨e, u, v, x, y, h1, h2, h3⟩; exact ⟨e, u, v, x, y, (h _).mp h1, (h _).mp h2, h3⟩
  · rintro ⟨e, u, v, x, y, h1, h2, h3⟩; exact ⟨e, u, v, x, y, (h _).mpr h1, (h _).mpr h2, h3⟩
theorem dp_clo {L : List Nat → Prop} {w : Nat → Nat} {n a : Nat} {A : Nat → Prop} (ha : A a) (hc : ∀ m k, A m → k ≤ n → dp_E L w m k → A k) : ∀ i m, m ≤ n → dp_ch L w i a m → A m := by
  intro i
  induction i with
  | zero => intro m _ h; rw [← show a = m from h]; exact ha
  | succ i ih =>
    rintro m hm ⟨k, h1, h2⟩
    exact hc k m (ih k (Nat.le_trans h2.1 hm) h1) hm h2
/-- a chain of at least one word from a to a: the empty word is one -/
theorem dp_ch_loop {L : List Nat → Prop} {w : Nat → Nat} {i a : Nat} (h : dp_ch L w (i + 1) a a) : dp_E L w a a := by
  obtain ⟨k, h1, h2⟩ := (dp_ch_cons i a a).mp h
  have h3 := dp_ch_le i k a h2
  have h4 := h1.1
  obtain rfl : k = a := by omega
  exact h1
end
section
/-! ===== what the reference's tables hold: one lemma a kind of token ===== -/
def ex_sh : ex_T → Nat
  | .var _ => 1
  | .num _ => 0
  | .natCast _ => 0
  | .intCast _ => 0
  | .neg _ => 0
  | .add a b => if ex_sh a < ex_sh b then ex_sh a else ex_sh b
  | .mul a b => ex_sh a + ex_sh b
  | .sub a b => ex_sh a + ex_sh b
  | .pow a k => ex_lo k * ex_sh a
theorem dp_s_cat {A B : List Nat → Prop} {s t : Nat} (hA : dp_s A s) (hB : dp_s B t) : dp_s (ex_cat A B) (s + t) := by
  obtain ⟨⟨x, lx, hx⟩, h2⟩ := hA
  obtain ⟨⟨y, ly, hy⟩, h4⟩ := hB
  refine ⟨⟨x ++ y, by rw [List.length_append, lx, ly], x, y, rfl, hx, hy⟩, ?_⟩
  rintro q ⟨a, b, e, ha, hb⟩
  have := h2 a ha
  have := h4 b hb
  rw [e, List.length_append]
  omega
theorem ex_sh_s (f : Nat → Nat) : ∀ (R : ex_T), ex_W R → dp_s (ex_L f R) (ex_sh R) ∧ ex_sh R ≤ ex_w R := by
  intro R
  induction R with
  | num k => intro _; exact ⟨⟨⟨[], rfl, rfl⟩, fun q _ => Nat.zero_le _⟩, Nat.le_refl _⟩
  | natCast k => intro _; exact ⟨⟨⟨[], rfl, rfl⟩, fun q _ => Nat.zero_le _⟩, Nat.le_refl _⟩
  | intCast k => intro _; exact ⟨⟨⟨[], rfl, rfl⟩, fun q _ => Nat.zero_le _⟩, Nat.le_refl _⟩
  | var i => intro _; exact ⟨⟨⟨[f i], rfl, rfl⟩, fun q hq => by rw [show q = [f i] from hq]; exact Nat.le_refl 1⟩, Nat.le_refl _⟩
  | neg a ih => intro _; exact ⟨⟨⟨[], rfl, Or.inl rfl⟩, fun q _ => Nat.zero_le _⟩, Nat.zero_le _⟩
  | add a b iha ihb =>
    intro h
    obtain ⟨⟨⟨x, lx, hx⟩, h2⟩, h3⟩ := iha h.1
    obtain ⟨⟨⟨y, ly, hy⟩, h4⟩, h5⟩ := ihb h.2
    simp only [ex_sh, ex_w]
    by_cases hlt : ex_sh a < ex_sh b
    · rw [if_pos hlt]
      refine ⟨⟨⟨x, lx, Or.inl hx⟩, ?_⟩, by omega⟩
      rintro q (hq | hq)
      · exact h2 q hq
      · have := h4 q hq; omega
    · rw [if_neg hlt]
      refine ⟨⟨⟨y, ly, Or.inr hy⟩, ?_⟩, by omega⟩
      rintro q (hq | hq)
      · have := h2 q hq; omega
      · exact h4 q hq
  | mul a b iha ihb =>
    intro h
    obtain ⟨h1, h2⟩ := iha h.1
    obtain ⟨h3, h4⟩ := ihb h.2
    simp only [ex_sh, ex_w]
    exact ⟨dp_s_cat h1 h3, by omega⟩
  | sub a b iha ihb =>
    intro h
    obtain ⟨h1, h2⟩ := iha h.1
    obtain ⟨h3, h4⟩ := ihb h.2
    have c1 := dp_s_cat h1 h3
    have c2 := dp_s_cat h3 h1
    simp only [ex_sh, ex_w]
    refine ⟨⟨?_, ?_⟩, by omega⟩
    · obtain ⟨q, lq, hq⟩ := c1.1
      exact ⟨q, lq, Or.inl hq⟩
    · rintro q (hq | hq)
      · exact c1.2 q hq
      · have := c2.2 q hq; omega
  | pow a k ih =>
    intro h
    obtain ⟨h1, h2⟩ := ih h.1
    simp only [ex_sh, ex_w]
    refine ⟨⟨?_, ?_⟩, ?_⟩
    · obtain ⟨q, lq, hq⟩ := (dp_s_pw h1 (ex_lo k)).1
      exact ⟨q, lq, ex_lo k, Nat.le_refl _, ex_lohi h.2.2, hq⟩
    · rintro q ⟨j, hj, _, hq⟩
      have h3 := (dp_s_pw h1 j).2 q hq
      have h4 : ex_lo k * ex_sh a ≤ j * ex_sh a := Nat.mul_le_mul_right _ hj
      omega
    · have h5 : ex_lo k ≤ ex_m k := by
        unfold ex_lo ex_m
        by_cases hk : k < 16
        · rw [if_pos hk, if_pos hk]; exact (h.2.2 hk).1
        · rw [if_neg hk, if_neg hk]; have := h.2.1; omega
      exact Nat.mul_le_mul h5 h2
/-- NAME -/
theorem dp_var_E {f : Nat → Nat} {w : Nat → Nat} {i a m : Nat} : dp_E (ex_L f (.var i)) w a m ↔ m = a + 1 ∧ w a = f i := by
  constructor
  · rintro ⟨h1, h2⟩
    have h2' : dp_sl w (m - a) a = [f i] := h2
    have hl : (dp_sl w (m - a) a).length = 1 := by rw [h2']; rfl
    rw [dp_sl_len] at hl
    rw [hl] at h2'
    have h3 : [w a] = [f i] := h2'
    exact ⟨by omega, (List.cons.inj h3).1⟩
  · rintro ⟨h1, h2⟩
    refine ⟨by omega, ?_⟩
    show dp_sl w (m - a) a = [f i]
    rw [show m - a = 1 by omega, ← h2]
    rfl
theorem dp_var_M {f : Nat → Nat} {w : Nat → Nat} {i n a : Nat} (ha : a ≤ n) : dp_M 1 (dp_K (ex_L f (.var i)) w n a) (if a = n then 1 else if w a = f i ∧ a + 1 = n then 0 else 100000) := by
  by_cases h : a = n
  · rw [if_pos h]
    left
    refine ⟨⟨[f i], rfl, ?_⟩, Nat.le_refl 1, ?_⟩
    · show _ = _
      rw [show n - a = 0 by omega]; rfl
    · rintro d ⟨v, lv, hv⟩
      have hv' : dp_sl w (n - a) a ++ v = [f i] := hv
      rw [show n - a = 0 by omega] at hv'
      have : v = [f i] := hv'
      rw [← lv, this]; exact Nat.le_refl 1
  · rw [if_neg h]
    by_cases h2 : w a = f i ∧ a + 1 = n
    · rw [if_pos h2]
      left
      refine ⟨⟨[], rfl, ?_⟩, Nat.zero_le _, fun d _ => Nat.zero_le _⟩
      show dp_sl w (n - a) a ++ [] = [f i]
      rw [show n - a = 1 by omega, ← h2.1]; rfl
    · rw [if_neg h2]
      right
      refine ⟨rfl, ?_⟩
      rintro d ⟨v, lv, hv⟩
      have hv' : dp_sl w (n - a) a ++ v = [f i] := hv
      have hl : (dp_sl w (n - a) a ++ v).length = 1 := by rw [hv']; rfl
      rw [List.length_append, dp_sl_len] at hl
      rw [show n - a = 1 by omega] at hv'
      have h3 : w a :: v = [f i] := hv'
      exact h2 ⟨(List.cons.inj h3).1, by omega⟩
/-- NOTHING -/
theorem dp_eps_E {w : Nat → Nat} {a m : Nat} : dp_E (fun u => u = []) w a m ↔ m = a := by
  constructor
  · rintro ⟨h1, h2⟩
    have h2' : dp_sl w (m - a) a = [] := h2
    have hl : (dp_sl w (m - a) a).length = 0 := by rw [h2']; rfl
    rw [dp_sl_len] at hl
    omega
  · intro h
    refine ⟨by omega, ?_⟩
    rw [h, Nat.sub_self]; rfl
theorem dp_eps_M {w : Nat → Nat} {n a : Nat} (ha : a ≤ n) : dp_M 0 (dp_K (fun u => u = []) w n a) (if a = n then 0 else 100000) := by
  by_cases h : a = n
  · rw [if_pos h]
    left
    refine ⟨⟨[], rfl, ?_⟩, Nat.le_refl 0, fun d _ => Nat.zero_le _⟩
    rw [show n - a = 0 by omega]; rfl
  · rw [if_neg h]
    right
    refine ⟨rfl, ?_⟩
    rintro d ⟨v, lv, hv⟩
    have hv' := (List.append_eq_nil_iff.mp hv).1
    have hl : (dp_sl w (n - a) a).length = 0 := by rw [hv']; rfl
    rw [dp_sl_len] at hl
    omega
/-- OPTION -/
theorem dp_opt_E {L : List Nat → Prop} {w : Nat → Nat} {a m : Nat} : dp_E (fun u => u = [] ∨ L u) w a m ↔ m = a ∨ dp_E L w a m := by
  rw [← dp_eps_E (w := w)]
  constructor
  · rintro ⟨h1, h2 | h2⟩
    · exact Or.inl ⟨h1, h2⟩
    · exact Or.inr ⟨h1, h2⟩
  · rintro (⟨h1, h2⟩ | ⟨h1, h2⟩)
    · exact ⟨h1, Or.inl h2⟩
    · exact ⟨h1, Or.inr h2⟩
theorem dp_opt_M {B : Nat} {L : List Nat → Prop} {w : Nat → Nat} {n a x : Nat} (ha : a ≤ n) (h : dp_M B (dp_K L w n a) x) : dp_M B (dp_K (fun u => u = [] ∨ L u) w n a) (if a = n then 0 else x) := by
  by_cases e : a = n
  · rw [if_pos e]
    left
    refine ⟨⟨[], rfl, Or.inl ?_⟩, Nat.zero_le _, fun d _ => Nat.zero_le _⟩
    rw [show n - a = 0 by omega]; rfl
  · rw [if_neg e]
    have hk : ∀ d, dp_K (fun u => u = [] ∨ L u) w n a d ↔ dp_K L w n a d := by
      intro d
      constructor
      · rintro ⟨v, lv, hv | hv⟩
        · have hv' := (List.append_eq_nil_iff.mp hv).1
          have hl : (dp_sl w (n - a) a).length = 0 := by rw [hv']; rfl
          rw [dp_sl_len] at hl
          omega
        · exact ⟨v, lv, hv⟩
      · rintro ⟨v, lv, hv⟩; exact ⟨v, lv, Or.inr hv⟩
    rcases h with ⟨h1, h2, h3⟩ | ⟨h1, h2⟩
    · exact Or.inl ⟨(hk x).mpr h1, h2, fun d hd => h3 d ((hk d).mp hd)⟩
    · exact Or.inr ⟨h1, fun d hd => h2 d ((hk d).mp hd)⟩
theorem dp_or_E {A B : List Nat → Prop} {w : Nat → Nat} {a m : Nat} : dp_E (fun u => A u ∨ B u) w a m ↔ dp_E A w a m ∨ dp_E B w a m := by
  constructor
  · rintro ⟨h1, h2 | h2⟩
    · exact Or.inl ⟨h1, h2⟩
    · exact Or.inr ⟨h1, h2⟩
  · rintro (⟨h1, h2⟩ | ⟨h1, h2⟩)
    · exact ⟨h1, Or.inl h2⟩
    · exact ⟨h1, Or.inr h2⟩
theorem dp_or_K {A B : List Nat → Prop} {w : Nat → Nat} {n a d : Nat} : dp_K (fun u => A u ∨ B u) w n a d ↔ dp_K A w n a d ∨ dp_K B w n a d := by
  constructor
  · rintro ⟨v, lv, h2 | h2⟩
    · exact Or.inl ⟨v, lv, h2⟩
    · exact Or.inr ⟨v, lv, h2⟩
  · rintro (⟨v, lv, h2⟩ | ⟨v, lv, h2⟩)
    · exact ⟨v, lv, Or.inl h2⟩
    · exact ⟨v, lv, Or.inr h2⟩
/-- SEQ -/
theorem dp_cat_M {A B : List Nat → Prop} {w : Nat → Nat} {n a s x few p q : Nat} {y : Nat → Nat} (ha : a ≤ n) (hX : dp_M p (dp_K A w n a) x) (hY : ∀ k, k ≤ n → dp_M q (dp_K B w n k) (y k)) (hs : dp_s B s) (hsq : s ≤ q) (hpq : p + q < 100000)
    (f1 : few = 100000 ∨ few = x + s ∨ ∃ k, k ≤ n ∧ dp_E A w a k ∧ few = y k) (f2 : few ≤ 100000) (f3 : few ≤ x + s) (f4 : ∀ k, k ≤ n → dp_E A w a k → few ≤ y k) : dp_M (p + q) (dp_K (ex_cat A B) w n a) few := by
  refine dp_fin (C := fun c => c = x + s ∨ ∃ k, k ≤ n ∧ dp_E A w a k ∧ c = y k) f1 ?_ f2 ?_ ?_
  · rintro c (e | ⟨k, hk, hE, e⟩)
    · omega
    · have := f4 k hk hE; omega
  · rintro c (e | ⟨k, hk, hE, e⟩) hc
    · rcases hX with ⟨h1, h2, _⟩ | ⟨h1, _⟩
      · obtain ⟨v, lv, hv⟩ := hs.1
        exact ⟨(dp_K_cat ha).mpr (Or.inl ⟨x, s, e, h1, v, lv, hv⟩), by omega⟩
      · omega
    · rcases hY k hk with ⟨h1, h2, _⟩ | ⟨h1, _⟩
      · rw [e]
        exact ⟨(dp_K_cat ha).mpr (Or.inr ⟨k, hk, hE, h1⟩), by omega⟩
      · omega
  · intro d hd
    rcases (dp_K_cat ha).mp hd with ⟨d1, d2, e, h1, v, lv, hv⟩ | ⟨k, hk, hE, h1⟩
    · have h2 := hs.2 v hv
      rcases hX with ⟨h3, h4, h5⟩ | ⟨_, h3⟩
      · have := h5 d1 h1
        exact ⟨x + s, Or.inl rfl, by omega, by omega⟩
      · exact (h3 d1 h1).elim
    · rcases hY k hk with ⟨h3, h4, h5⟩ | ⟨_, h3⟩
      · have := h5 d h1
        exact ⟨y k, Or.inr ⟨k, hk, hE, rfl⟩, this, by omega⟩
      · exact (h3 d h1).elim
/-- STAR and PLUS -/
theorem dp_rep {L : List Nat → Prop} {w : Nat → Nat} {n a B lo few : Nat} {lk : Nat → Nat} {A S : Nat → Prop} (hlo : lo ≤ 1) (ha : a ≤ n) (hB : B < 100000) (hM : ∀ m, m ≤ n → dp_M B (dp_K L w n m) (lk m))
    (a1 : A a) (a2 : ∀ m, A m → m ≤ n ∧ ∃ i, dp_ch L w i a m) (a3 : ∀ m k, A m → k ≤ n → dp_E L w m k → A k)
    (s1 : ∀ m, S m → m ≤ n ∧ ∃ i, lo ≤ i ∧ dp_ch L w i a m) (s2 : ∀ m, A m → (lo = 0 ∨ m ≠ a ∨ dp_E L w a a) → S m)
    (f1 : few = 100000 ∨ (few = 0 ∧ S n) ∨ ∃ m, A m ∧ few = lk m) (f2 : S n → few = 0) (f3 : ∀ m, A m → few ≤ lk m) (f4 : few ≤ 100000) :
    (∀ m, m ≤ n → (S m ↔ dp_E (fun u => ∃ j, lo ≤ j ∧ ex_pw L j u) w a m)) ∧ dp_M B (dp_K (fun u => ∃ j, lo ≤ j ∧ ex_pw L j u) w n a) few := by
  have hS : ∀ m, m ≤ n → (S m ↔ ∃ j, lo ≤ j ∧ dp_ch L w j a m) := by
    intro m hm
    constructor
    · intro h; exact (s1 m h).2
    · rintro ⟨j, hj, hc⟩
      refine s2 m (dp_clo a1 a3 j m hm hc) ?_
      by_cases h0 : lo = 0
      · exact Or.inl h0
      · by_cases e : m = a
        · rw [e] at hc
          obtain ⟨i, rfl⟩ : ∃ i, j = i + 1 := ⟨j - 1, by omega⟩
          exact Or.inr (Or.inr (dp_ch_loop hc))
        · exact Or.inr (Or.inl e)
  have hE : ∀ m, dp_E (fun u => ∃ j, lo ≤ j ∧ ex_pw L j u) w a m ↔ ∃ j, lo ≤ j ∧ dp_ch L w j a m := by
    intro m
    constructor
    · rintro ⟨h1, j, hj, h2⟩; exact ⟨j, hj, (dp_E_pw j a m).mp ⟨h1, h2⟩⟩
    · rintro ⟨j, hj, h2⟩
      obtain ⟨h3, h4⟩ := (dp_E_pw j a m).mpr h2
      exact ⟨h3, j, hj, h4⟩
  have hK : ∀ d, dp_K (fun u => ∃ j, lo ≤ j ∧ ex_pw L j u) w n a d ↔ ∃ j, lo ≤ j ∧ dp_K (ex_pw L j) w n a d := by
    intro d
    constructor
    · rintro ⟨v, lv, j, hj, hv⟩; exact ⟨j, hj, v, lv, hv⟩
    · rintro ⟨j, hj, v, lv, hv⟩; exact ⟨v, lv, j, hj, hv⟩
  refine ⟨fun m hm => by rw [hS m hm, hE m], ?_⟩
  refine dp_fin (C := fun c => (c = 0 ∧ S n) ∨ ∃ m, A m ∧ c = lk m) f1 ?_ f4 ?_ ?_
  · rintro c (⟨e, h⟩ | ⟨m, hm, e⟩)
    · have := f2 h; omega
    · have := f3 m hm; omega
  · rintro c (⟨e, h⟩ | ⟨m, hm, e⟩) hc
    · obtain ⟨j, hj, h2⟩ := (hS n (Nat.le_refl n)).mp h
      rw [e]
      exact ⟨(hK 0).mpr ⟨j, hj, (dp_K_pw j a 0 ha).mpr (Or.inl ⟨rfl, h2⟩)⟩, Nat.zero_le _⟩
    · obtain ⟨hmn, i, hi⟩ := a2 m hm
      rcases hM m hmn with ⟨h1, h2, _⟩ | ⟨h1, _⟩
      · rw [e]
        exact ⟨(hK _).mpr ⟨i + 1, by omega, (dp_K_pw (i + 1) a _ ha).mpr (Or.inr ⟨i, 0, m, lk m, 0, rfl, hmn, hi, h1, rfl, [], rfl, rfl⟩)⟩, h2⟩
      · omega
  · intro d hd
    obtain ⟨j, hj, hd⟩ := (hK d).mp hd
    rcases (dp_K_pw j a d ha).mp hd with ⟨e, h⟩ | ⟨i, r, m, d1, d2, _, hmn, hc, h1, e, _⟩
    · exact ⟨0, Or.inl ⟨rfl, (hS n (Nat.le_refl n)).mpr ⟨j, hj, h⟩⟩, by omega, by omega⟩
    · have hA := dp_clo a1 a3 i m hmn hc
      rcases hM m hmn with ⟨_, h2, h3⟩ | ⟨_, h2⟩
      · have := h3 d1 h1
        exact ⟨lk m, Or.inr ⟨m, hA, rfl⟩, by omega, by omega⟩
      · exact (h2 d1 h1).elim
/-- TIMES -/
theorem dp_tms {L : List Nat → Prop} {w : Nat → Nat} {n a B lo hi few s : Nat} {lk : Nat → Nat} {S : Nat → Prop} (hlh : lo ≤ hi) (ha : a ≤ n) (hB : hi * B < 100000) (hM : ∀ m, m ≤ n → dp_M B (dp_K L w n m) (lk m)) (hs : dp_s L s) (hsB : s ≤ B)
    (s1 : ∀ m, m ≤ n → (S m ↔ ∃ j, lo ≤ j ∧ j ≤ hi ∧ dp_ch L w j a m))
    (f1 : few = 100000 ∨ (few = 0 ∧ S n) ∨ ∃ i m, i < hi ∧ m ≤ n ∧ dp_ch L w i a m ∧ few = lk m + (lo - 1 - i) * s) (f2 : S n → few = 0) (f3 : ∀ i m, i < hi → m ≤ n → dp_ch L w i a m → few ≤ lk m + (lo - 1 - i) * s) (f4 : few ≤ 100000) :
    (∀ m, m ≤ n → (S m ↔ dp_E (fun u => ∃ j, lo ≤ j ∧ j ≤ hi ∧ ex_pw L j u) w a m)) ∧ dp_M (hi * B) (dp_K (fun u => ∃ j, lo ≤ j ∧ j ≤ hi ∧ ex_pw L j u) w n a) few := by
  have hE : ∀ m, dp_E (fun u => ∃ j, lo ≤ j ∧ j ≤ hi ∧ ex_pw L j u) w a m ↔ ∃ j, lo ≤ j ∧ j ≤ hi ∧ dp_ch L w j a m := by
    intro m
    constructor
    · rintro ⟨h1, j, hj, hj2, h2⟩; exact ⟨j, hj, hj2, (dp_E_pw j a m).mp ⟨h1, h2⟩⟩
    · rintro ⟨j, hj, hj2, h2⟩
      obtain ⟨h3, h4⟩ := (dp_E_pw j a m).mpr h2
      exact ⟨h3, j, hj, hj2, h4⟩
  have hK : ∀ d, dp_K (fun u => ∃ j, lo ≤ j ∧ j ≤ hi ∧ ex_pw L j u) w n a d ↔ ∃ j, lo ≤ j ∧ j ≤ hi ∧ dp_K (ex_pw L j) w n a d := by
    intro d
    constructor
    · rintro ⟨v, lv, j, hj, hj2, hv⟩; exact ⟨j, hj, hj2, v, lv, hv⟩
    · rintro ⟨j, hj, hj2, v, lv, hv⟩; exact ⟨v, lv, j, hj, hj2, hv⟩
  have bound : ∀ i, i < hi → B + (lo - 1 - i) * s ≤ hi * B := by
    intro i hi'
    have h1 : (lo - 1 - i) * s ≤ (hi - 1) * B := Nat.mul_le_mul (by omega) hsB
    have h2 : hi * B = (hi - 1) * B + B := by
      rw [← Nat.succ_mul]
      congr 1
      omega
    omega
  refine ⟨fun m hm => by rw [s1 m hm, hE m], ?_⟩
  refine dp_fin (C := fun c => (c = 0 ∧ S n) ∨ ∃ i m, i < hi ∧ m ≤ n ∧ dp_ch L w i a m ∧ c = lk m + (lo - 1 - i) * s) f1 ?_ f4 ?_ ?_
  · rintro c (⟨e, h⟩ | ⟨i, m, hi', hm, hc, e⟩)
    · have := f2 h; omega
    · have := f3 i m hi' hm hc; omega
  · rintro c (⟨e, h⟩ | ⟨i, m, hi', hm, hch, e⟩) hc
    · obtain ⟨j, hj, hj2, h2⟩ := (s1 n (Nat.le_refl n)).mp h
      rw [e]
      exact ⟨(hK 0).mpr ⟨j, hj, hj2, (dp_K_pw j a 0 ha).mpr (Or.inl ⟨rfl, h2⟩)⟩, Nat.zero_le _⟩
    · rcases hM m hm with ⟨h1, h2, _⟩ | ⟨h1, _⟩
      · obtain ⟨q, lq, hq⟩ := (dp_s_pw hs (lo - 1 - i)).1
        have := bound i hi'
        refine ⟨(hK _).mpr ⟨i + 1 + (lo - 1 - i), by omega, by omega, (dp_K_pw _ a _ ha).mpr (Or.inr ⟨i, lo - 1 - i, m, lk m, _, rfl, hm, hch, h1, e, q, lq, hq⟩)⟩, by omega⟩
      · omega
  · intro d hd
    obtain ⟨j, hj, hj2, hd⟩ := (hK d).mp hd
    rcases (dp_K_pw j a d ha).mp hd with ⟨e, h⟩ | ⟨i, r, m, d1, d2, ej, hmn, hc, h1, e, q, lq, hq⟩
    · exact ⟨0, Or.inl ⟨rfl, (s1 n (Nat.le_refl n)).mpr ⟨j, hj, hj2, h⟩⟩, by omega, by omega⟩
    · rcases hM m hmn with ⟨_, h2, h3⟩ | ⟨_, h2⟩
      · have h4 := h3 d1 h1
        have h5 := (dp_s_pw hs r).2 q hq
        have h6 : (lo - 1 - i) * s ≤ r * s := Nat.mul_le_mul_right _ (by omega)
        have := bound i (by omega)
        exact ⟨_, Or.inr ⟨i, m, by omega, hmn, hc, rfl⟩, by omega, by omega⟩
      · exact (h2 d1 h1).elim
end
section
/-! ===== small numbers, small methods ===== -/
theorem nb_i8 {n : Nat} (h : n < 128) : (nI n).toInt8.toInt32 = nI n := (by decide +kernel : ∀ n, n < 128 → (nI n).toInt8.toInt32 = nI n) n h
theorem nb_vb {n : Nat} (h : n < 128) : vp_nar .byte (nI n) = nI n := by rw [vp_nar_byte, nb_i8 h]
theorem nb_v8 {n : Nat} (h : n < 128) : vp_nar .byte (nI n).toInt8.toInt32 = nI n := by rw [nb_i8 h, nb_vb h]
theorem nb_m1 : vp_nar .byte (-1) = -1 := by rw [vp_nar_byte]; decide +kernel
theorem nb_m8 : vp_nar .byte ((-1 : Int32).toInt8.toInt32) = -1 := by rw [vp_nar_byte]; decide +kernel
theorem nb_z8 : vp_nar .byte ((0 : Int32).toInt8.toInt32) = 0 := nb_v8 (n := 0) (by decide)
theorem nb_0 : vp_nar .byte 0 = 0 := nb_vb (n := 0) (by decide)
theorem nb_1 : vp_nar .byte 1 = 1 := nb_vb (n := 1) (by decide)
theorem nb_2 : vp_nar .byte 2 = 2 := nb_vb (n := 2) (by decide)
theorem nb_b0 : vp_nar .boolean 0 = 0 := by decide
theorem nb_b1 : vp_nar .boolean 1 = 1 := by decide
theorem nb_n0 : narrow .boolean (.int 0) = .int 0 := by decide
theorem nb_n1 : narrow .boolean (.int 1) = .int 1 := by decide
theorem nb_10 : ¬ (1 : Int32) = 0 := by decide
theorem nb_m10 : (-1 : Int32) < 0 := by decide
theorem nb_nm {n : Nat} (h : n < 2 ^ 31) : ¬ nI n = -1 := by
  intro e
  have := congrArg Int32.toInt e
  rw [nI_toInt h] at this
  have h2 : (-1 : Int32).toInt = -1 := by decide
  rw [h2] at this
  omega
theorem nb_cl {n : Nat} (h : n < 2 ^ 31) : (nI n).toNatClampNeg = n := nI_clamp h
theorem nb_ix (x : Int32) (n : Nat) (hn : n < 2 ^ 31) : (x < 0 ∨ nI n ≤ x) ∨ ∃ j : Nat, j < n ∧ x = nI j := by
  rcases pk_ix x hn with h | h | h
  · exact Or.inl (Or.inl h)
  · exact Or.inl (Or.inr h)
  · exact Or.inr h
theorem nb_le0 {n : Nat} (h : n < 2 ^ 31) : nI n ≤ 0 ↔ n = 0 := by
  rw [← nI_0, nI_leI h (by omega)]
  omega
theorem nb_pos {n : Nat} (h : n < 2 ^ 31) : (0 : Int32) ≤ nI n := nI_pos' h
theorem nb_m1le (x : Int32) (h : x < 0) : ¬ (0 : Int32) ≤ x := by
  rw [Int32.le_iff_toInt_le]
  rw [Int32.lt_iff_toInt_lt] at h
  omega
theorem nb_lt_of {x : Int32} {n : Nat} (hn : n < 2 ^ 31) (h : nI n ≤ x) : ¬ x < nI n := by
  rw [Int32.lt_iff_toInt_lt]
  rw [Int32.le_iff_toInt_le] at h
  omega
theorem nb_nneg {x : Int32} {n : Nat} (hn : n < 2 ^ 31) (h : nI n ≤ x) : ¬ x < 0 := by
  rw [Int32.lt_iff_toInt_lt]
  rw [Int32.le_iff_toInt_le, nI_toInt hn] at h
  have h2 : (0 : Int32).toInt = 0 := by decide
  omega
section
variable {post : Int32 → Prop}
theorem sx_name0 {x : Int32} (h : x < 0 ∨ nI 6 ≤ x) (p : post 0) : wpX_isName post x := by
  by_cases h0 : x < 0
  · exact br_t h0 p
  · exact br_f h0 (br_t (h.resolve_left h0) p)
theorem sx_name1 {j : Nat} (h : j < 6) (p : post 1) : wpX_isName post (nI j) := br_f (nI_pos (by omega)) (br_f (nI_ge (b := 6) h (by decide)) p)
theorem sx_type0 {x : Int32} (h : x < 0 ∨ nI 6 ≤ x) (p : post 0) : wpX_isType post x := by
  by_cases h0 : x < 0
  · exact br_t h0 p
  · exact br_f h0 (br_t (h.resolve_left h0) p)
theorem sx_type1 {j : Nat} (h : j < 6) (p : post 1) : wpX_isType post (nI j) := br_f (nI_pos (by omega)) (br_f (nI_ge (b := 6) h (by decide)) p)
theorem sx_attr0 {x : Int32} (h : x < 0 ∨ nI 4 ≤ x) (p : post 0) : wpX_isAttribute post x := by
  by_cases h0 : x < 0
  · exact br_t h0 p
  · exact br_f h0 (br_t (h.resolve_left h0) p)
theorem sx_attr1 {j : Nat} (h : j < 4) (p : post 1) : wpX_isAttribute post (nI j) := br_f (nI_pos (by omega)) (br_f (nI_ge (b := 4) h (by decide)) p)
theorem sy_out1 {x : Int32} {n : Nat} (hn : n < 2 ^ 31) (h : x < 0 ∨ nI n ≤ x) (p : post 1) : wpY_out post x (nI n) := by
  by_cases h0 : x < 0
  · exact br_t h0 p
  · exact br_f h0 (br_f (nb_lt_of hn (h.resolve_left h0)) p)
theorem sy_out0 {j n : Nat} (hn : n < 2 ^ 31) (h : j < n) (p : post 0) : wpY_out post (nI j) (nI n) := br_f (nI_pos (by omega)) (br_t (nI_lt h hn) p)
theorem sx_parts {k : Nat} (hk : k < 9) (p : post (nI (ex_pt k))) : wpX_partsOf post (nI k) := by
  have hc : k = 0 ∨ k = 1 ∨ k = 2 ∨ k = 3 ∨ k = 4 ∨ k = 5 ∨ k = 6 ∨ k = 7 ∨ k = 8 := by omega
  unfold wpX_partsOf
  rcases hc with rfl | rfl | rfl | rfl | rfl | rfl | rfl | rfl | rfl
  · exact br_t (by decide) p
  · exact br_f (by decide) (br_f (by decide) (br_t (by decide) p))
  · exact br_f (by decide) (br_f (by decide) (br_f (by decide) (br_t (by decide) p)))
  · exact br_f (by decide) (br_f (by decide) (br_f (by decide) (br_f (by decide) (br_f (by decide) p))))
  · exact br_f (by decide) (br_f (by decide) (br_f (by decide) (br_f (by decide) (br_f (by decide) p))))
  · exact br_f (by decide) (br_f (by decide) (br_f (by decide) (br_f (by decide) (br_f (by decide) p))))
  · exact br_f (by decide) (br_t (by decide) p)
  · exact br_f (by decide) (br_f (by decide) (br_f (by decide) (br_f (by decide) (br_t (by decide) p))))
  · exact br_f (by decide) (br_f (by decide) (br_f (by decide) (br_f (by decide) (br_f (by decide) p))))
theorem sy_parts {k : Nat} (hk : k < 9) (p : post (nI (ex_pt k))) : wpY_parts post (nI k) := by
  have hc : k = 0 ∨ k = 1 ∨ k = 2 ∨ k = 3 ∨ k = 4 ∨ k = 5 ∨ k = 6 ∨ k = 7 ∨ k = 8 := by omega
  unfold wpY_parts
  rcases hc with rfl | rfl | rfl | rfl | rfl | rfl | rfl | rfl | rfl
  · exact br_f (by decide) (br_f (by decide) (br_f (by decide) (br_t (by decide) p)))
  · exact br_t (by decide) p
  · exact br_f (by decide) (br_t (by decide) p)
  · exact br_f (by decide) (br_f (by decide) (br_f (by decide) (br_f (by decide) (br_f (by decide) p))))
  · exact br_f (by decide) (br_f (by decide) (br_f (by decide) (br_f (by decide) (br_f (by decide) p))))
  · exact br_f (by decide) (br_f (by decide) (br_f (by decide) (br_f (by decide) (br_f (by decide) p))))
  · exact br_f (by decide) (br_f (by decide) (br_f (by decide) (br_f (by decide) (br_t (by decide) p))))
  · exact br_f (by decide) (br_f (by decide) (br_t (by decide) p))
  · exact br_f (by decide) (br_f (by decide) (br_f (by decide) (br_f (by decide) (br_f (by decide) p))))
/-- what may be a token -/
def tk_ok (k v : Int32) : Prop := (k = 0 ∧ ∃ j, j < 6 ∧ v = nI j) ∨ (k = 8 ∧ ∃ j, j < 16 ∧ v = nI j ∧ j / 4 ≤ j % 4 ∧ 1 ≤ j % 4) ∨ (∃ j, 0 < j ∧ j < 8 ∧ k = nI j)
theorem tk_sh {j : Nat} (h : j < 2 ^ 31) : nI j >>> ((2 : Int32) &&& 31) = nI (j / 4) := pk_shrN h _ 2 (by decide)
theorem tk_an {j : Nat} (h : j < 2 ^ 31) : nI j &&& 3 = nI (j % 4) := pk_andN (by omega) 2 (by decide)
theorem tk_no {k v : Int32} (hk : k < 0 ∨ nI 9 ≤ k) : ¬ tk_ok k v := by
  rintro (⟨e, _⟩ | ⟨e, _⟩ | ⟨j, h1, h2, e⟩)
  · rw [e] at hk; exact absurd hk (by decide)
  · rw [e] at hk; exact absurd hk (by decide)
  · rw [e] at hk
    rcases hk with hk | hk
    · exact nI_pos (by omega) hk
    · exact nI_ge (b := 9) (by omega) (by omega) hk
theorem sx_isToken {k v : Int32} (h1 : tk_ok k v → post 1) (h0 : ¬ tk_ok k v → post 0) : wpX_isToken post k v := by
  rcases nb_ix k 9 (by omega) with hk | ⟨c, hc, rfl⟩
  · have hn : ¬ tk_ok k v := tk_no hk
    have e0 : ¬ k = 0 := by rintro rfl; exact absurd hk (by decide)
    have e8 : ¬ k = 8 := by rintro rfl; exact absurd hk (by decide)
    refine br_f e0 (br_f e8 ?_)
    by_cases hz : k < 0
    · exact br_t hz (h0 hn)
    · refine br_f hz (br_t ?_ (h0 hn))
      have h9 := hk.resolve_left hz
      rw [Int32.lt_iff_toInt_lt]
      rw [Int32.le_iff_toInt_le] at h9
      have a1 : (8 : Int32).toInt = 8 := by decide
      have a2 : (nI 9).toInt = 9 := by decide
      omega
  · by_cases c0 : c = 0
    · subst c0
      refine br_t rfl ?_
      rcases nb_ix v 6 (by omega) with hv | ⟨j, hj, rfl⟩
      · refine sx_name0 hv ⟨nb_n0, h0 ?_⟩
        rintro (⟨_, j, hj, rfl⟩ | ⟨e, _⟩ | ⟨j, hj, hj2, e⟩)
        · rcases hv with hv | hv
          · exact nI_pos (by omega) hv
          · exact nI_ge (b := 6) hj (by omega) hv
        · exact absurd e (by decide)
        · have e' := (nI_eq (by omega) (by omega)).mp e
          omega
      · exact sx_name1 hj ⟨nb_n1, h1 (Or.inl ⟨rfl, j, hj, rfl⟩)⟩
    · have e0 : ¬ nI c = 0 := nI_ne0 (by omega) (by omega)
      refine br_f e0 ?_
      by_cases c8 : c = 8
      · subst c8
        refine br_t rfl ?_
        have no : (∀ j, j < 16 → v = nI j → j / 4 ≤ j % 4 → 1 ≤ j % 4 → False) → ¬ tk_ok (nI 8) v := by
          intro h
          rintro (⟨e, _⟩ | ⟨_, j, a1, a2, a3, a4⟩ | ⟨j, a1, a2, e⟩)
          · exact e0 e
          · exact h j a1 a2 a3 a4
          · have e' := (nI_eq (by omega) (by omega)).mp e
            omega
        by_cases hz : v < 0
        · refine br_t hz (h0 (no ?_))
          intro j h1 h2 _ _
          rw [h2] at hz
          exact nI_pos (by omega) hz
        · obtain ⟨j, hj, rfl⟩ := nI_of hz
          refine br_f hz ?_
          show ((3 : Int32) < nI j >>> ((2 : Int32) &&& 31) → post 0) ∧ _
          rw [tk_sh hj]
          have no' : (j < 16 → j / 4 ≤ j % 4 → 1 ≤ j % 4 → False) → ¬ tk_ok (nI 8) (nI j) := by
            intro h
            refine no ?_
            intro i a1 a2 a3 a4
            obtain rfl := (nI_eq hj (by omega)).mp a2
            exact h a1 a3 a4
          refine pk_lt 3 (j / 4) (fun hlt => h0 (no' (fun _ _ _ => by omega))) (fun hge => ?_)
          show (nI j &&& 3 < 1 → post 0) ∧ (¬ nI j &&& 3 < 1 → (nI j &&& 3 < nI j >>> ((2 : Int32) &&& 31) → post 0) ∧ (¬ nI j &&& 3 < nI j >>> ((2 : Int32) &&& 31) → post 1))
          rw [tk_sh hj, tk_an hj]
          refine pk_lt (j % 4) 1 (fun hlt => h0 (no' (fun _ _ _ => by omega))) (fun hge1 => ?_)
          refine pk_lt (j % 4) (j / 4) (fun hlt => h0 (no' (fun _ _ _ => by omega))) (fun hge2 => ?_)
          exact h1 (Or.inr (Or.inl ⟨rfl, j, by omega, rfl, hge2, hge1⟩))
      · have e8 : ¬ nI c = 8 := fun e => c8 ((nI_eq (b := 8) (by omega) (by omega)).mp e)
        refine br_f e8 (br_f (nI_pos (by omega)) (br_f (nI_nlt (b := c) (a := 8) (by omega) (by omega)) ?_))
        exact h1 (Or.inr (Or.inr ⟨c, by omega, by omega, rfl⟩))
end
end
section
/-! ===== the relation ===== -/
/-- the tokens at o .. o + n: kd, vl are their kinds and values -/
def rl_K (yk yw : Nat → Int32) (o n : Nat) (kd vl : Nat → Nat) : Prop := ∀ i, i < n → yk (o + i) = nI (kd i) ∧ kd i < 9 ∧ (kd i = 0 → vl i < 6) ∧ (kd i = 8 → vl i < 16 ∧ vl i / 4 ≤ vl i % 4 ∧ 1 ≤ vl i % 4) ∧ (kd i = 0 ∨ kd i = 8 → yw (o + i) = nI (vl i))
/-- the draft -/
def rl_D (d : Nat) (dk dv yk yw ys : Nat → Int32) : Prop := d ≤ 16 ∧ ys 6 = nI d ∧ ∃ kd vl, rl_K yk yw 96 d kd vl ∧ ∀ i, i < d → dk i = nI (kd i) ∧ (kd i = 0 ∨ kd i = 8 → dv i = nI (vl i))
/-- ranges -/
def rl_T (so mn us ty tn : Nat → Int32) : Prop := (∀ t, t < 6 → ∃ s, s < 3 ∧ so t = nI s) ∧ (∀ t, t < 6 → ∃ c, c ≤ 4 ∧ mn t = nI c) ∧ (∀ j, j < 24 → (∃ c, c < 3 ∧ us j = nI c) ∧ ∃ c, c < 6 ∧ ty j = nI c) ∧ (∀ n, n < 6 → tn n = -1 ∨ ∃ t, t < 6 ∧ tn n = nI t)
/-- the models: what the reference holds spells a tree, the component's automaton takes its words -/
def rl_M1 (t : Nat) (fo be ac yk yw ys : Nat → Int32) : Prop := ∃ kd vl R, ex_n R ≤ 16 ∧ ys t = nI (ex_n R) ∧ rl_K yk yw (16 * t) (ex_n R) kd vl ∧ ex_S kd vl R 0 ∧ ex_W R ∧ ex_w R ≤ 30 ∧ xa_OK (fun s => fo (31 * t + s)) (fun c => be (6 * t + c)) (ac t) (ex_L vl R)
def rl_M (so fo be ac yk yw ys : Nat → Int32) : Prop := ∀ t, t < 6 → so t = nI 2 → rl_M1 t fo be ac yk yw ys
/-- the parent as a number -/
def rl_p : Option Nat → Int32
  | none => -1
  | some p => nI p
/-- the document -/
def rl_E1 (iu nm pp ct kc yp : Nat → Int32) (po : Nat → Option Nat) (c : Nat → Nat) (ch : Nat → Nat → Nat) (g rk : Nat → Nat) : Prop :=
  (∀ e, iu e = 0 ∨ iu e = 1) ∧ (∀ e, e < 24 → nm e = nI (g e) ∧ g e < 6) ∧ (∀ e, e < 24 → iu e ≠ 0 → ct e = nI (c e) ∧ pp e = rl_p (po e) ∧ yp e = rl_p (po e)) ∧
  (∀ e k, e < 24 → iu e ≠ 0 → k < c e → kc (24 * e + k) = nI (ch e k)) ∧ tr_I (fun e => iu e ≠ 0) po c ch rk
def rl_E (ec root : Int32) (iu nm pp ct kc yp : Nat → Int32) : Prop := ec = nI (tr_cn iu 24) ∧ root = (if iu 0 = 0 then -1 else 0) ∧ (∀ j, j < 600 → vp_nar .byte (kc j) = kc j) ∧ ∃ po c ch g rk, rl_E1 iu nm pp ct kc yp po c ch g rk
def i_Rel (_ : Nat) (u : SX) (v : SY) : Prop := ∃ (drafted latestPlace positions fragments elementCount : Int32) (draftKind draftValue weights tokenAt fragmentBegin fragmentFirst fragmentLast fragmentEmpty reachedWith follow bearing accepting kindOfType leastOf greatestOf listedCount listedValue attributeUse attributeType typeOfName inUse nameOf parentOf kidCount kids hasValue valueOf hasAttribute attributeValue walked waiting : Nat → Int32) (yroot yrowLength yfirst youts ytop : Int32) (ykind ywith ysize yparent yrow yends ylack yshortest youtKind youtWith ywork yworkWith yweight yfollow yfirsts ylasts ybare ymet ynameAt ytokenAt ytodo : Nat → Int32), u = ((drafted, latestPlace, positions, fragments, elementCount, draftKind, draftValue, weights, tokenAt, fragmentBegin, fragmentFirst, fragmentLast, fragmentEmpty, reachedWith, follow, bearing, accepting, kindOfType, leastOf, greatestOf, listedCount, listedValue, attributeUse, attributeType, typeOfName, inUse, nameOf, parentOf, kidCount, kids, hasValue, valueOf, hasAttribute, attributeValue, walked, waiting) : SX) ∧ v = ((latestPlace, yroot, yrowLength, yfirst, youts, ytop, ykind, ywith, ysize, kindOfType, listedCount, attributeUse, attributeType, leastOf, greatestOf, listedValue, typeOfName, inUse, hasValue, hasAttribute, nameOf, yparent, kids, kidCount, yrow, valueOf, attributeValue, yends, ylack, yshortest, youtKind, youtWith, ywork, yworkWith, yweight, yfollow, yfirsts, ylasts, ybare, ymet, ynameAt, ytokenAt, ytodo) : SY) ∧ (∃ d, drafted = nI d ∧ rl_D d draftKind draftValue ykind ywith ysize) ∧ rl_T kindOfType listedCount attributeUse attributeType typeOfName ∧ rl_M kindOfType follow bearing accepting ykind ywith ysize ∧ rl_E elementCount yroot inUse nameOf parentOf kidCount kids yparent
section
variable {drafted latestPlace positions fragments elementCount : Int32} {draftKind draftValue weights tokenAt fragmentBegin fragmentFirst fragmentLast fragmentEmpty reachedWith follow bearing accepting kindOfType leastOf greatestOf listedCount listedValue attributeUse attributeType typeOfName inUse nameOf parentOf kidCount kids hasValue valueOf hasAttribute attributeValue walked waiting : Nat → Int32} {yroot yrowLength yfirst youts ytop : Int32} {ykind ywith ysize yparent yrow yends ylack yshortest youtKind youtWith ywork yworkWith yweight yfollow yfirsts ylasts ybare ymet ynameAt ytokenAt ytodo : Nat → Int32}
theorem i_mk {k d : Nat} (h1 : rl_D d draftKind draftValue ykind ywith ysize) (h2 : rl_T kindOfType listedCount attributeUse attributeType typeOfName) (h3 : rl_M kindOfType follow bearing accepting ykind ywith ysize) (h4 : rl_E elementCount yroot inUse nameOf parentOf kidCount kids yparent) : i_Rel k (nI d, latestPlace, positions, fragments, elementCount, draftKind, draftValue, weights, tokenAt, fragmentBegin, fragmentFirst, fragmentLast, fragmentEmpty, reachedWith, follow, bearing, accepting, kindOfType, leastOf, greatestOf, listedCount, listedValue, attributeUse, attributeType, typeOfName, inUse, nameOf, parentOf, kidCount, kids, hasValue, valueOf, hasAttribute, attributeValue, walked, waiting) (latestPlace, yroot, yrowLength, yfirst, youts, ytop, ykind, ywith, ysize, kindOfType, listedCount, attributeUse, attributeType, leastOf, greatestOf, listedValue, typeOfName, inUse, hasValue, hasAttribute, nameOf, yparent, kids, kidCount, yrow, valueOf, attributeValue, yends, ylack, yshortest, youtKind, youtWith, ywork, yworkWith, yweight, yfollow, yfirsts, ylasts, ybare, ymet, ynameAt, ytokenAt, ytodo) :=
  ⟨nI d, latestPlace, positions, fragments, elementCount, draftKind, draftValue, weights, tokenAt, fragmentBegin, fragmentFirst, fragmentLast, fragmentEmpty, reachedWith, follow, bearing, accepting, kindOfType, leastOf, greatestOf, listedCount, listedValue, attributeUse, attributeType, typeOfName, inUse, nameOf, parentOf, kidCount, kids, hasValue, valueOf, hasAttribute, attributeValue, walked, waiting, yroot, yrowLength, yfirst, youts, ytop, ykind, ywith, ysize, yparent, yrow, yends, ylack, yshortest, youtKind, youtWith, ywork, yworkWith, yweight, yfollow, yfirsts, ylasts, ybare, ymet, ynameAt, ytokenAt, ytodo, rfl, rfl, ⟨d, rfl, h1⟩, h2, h3, h4⟩
end
theorem i_el {k : Nat} {u : SX} {v : SY} (I : i_Rel k u v) {P : SX → SY → Prop} (h : ∀ (d : Nat) (latestPlace positions fragments elementCount : Int32) (draftKind draftValue weights tokenAt fragmentBegin fragmentFirst fragmentLast fragmentEmpty reachedWith follow bearing accepting kindOfType leastOf greatestOf listedCount listedValue attributeUse attributeType typeOfName inUse nameOf parentOf kidCount kids hasValue valueOf hasAttribute attributeValue walked waiting : Nat → Int32) (yroot yrowLength yfirst youts ytop : Int32) (ykind ywith ysize yparent yrow yends ylack yshortest youtKind youtWith ywork yworkWith yweight yfollow yfirsts ylasts ybare ymet ynameAt ytokenAt ytodo : Nat → Int32), rl_D d draftKind draftValue ykind ywith ysize → rl_T kindOfType listedCount attributeUse attributeType typeOfName → rl_M kindOfType follow bearing accepting ykind ywith ysize → rl_E elementCount yroot inUse nameOf parentOf kidCount kids yparent → P (nI d, latestPlace, positions, fragments, elementCount, draftKind, draftValue, weights, tokenAt, fragmentBegin, fragmentFirst, fragmentLast, fragmentEmpty, reachedWith, follow, bearing, accepting, kindOfType, leastOf, greatestOf, listedCount, listedValue, attributeUse, attributeType, typeOfName, inUse, nameOf, parentOf, kidCount, kids, hasValue, valueOf, hasAttribute, attributeValue, walked, waiting) (latestPlace, yroot, yrowLength, yfirst, youts, ytop, ykind, ywith, ysize, kindOfType, listedCount, attributeUse, attributeType, leastOf, greatestOf, listedValue, typeOfName, inUse, hasValue, hasAttribute, nameOf, yparent, kids, kidCount, yrow, valueOf, attributeValue, yends, ylack, yshortest, youtKind, youtWith, ywork, yworkWith, yweight, yfollow, yfirsts, ylasts, ybare, ymet, ynameAt, ytokenAt, ytodo)) : P u v := by
  obtain ⟨drafted, latestPlace, positions, fragments, elementCount, draftKind, draftValue, weights, tokenAt, fragmentBegin, fragmentFirst, fragmentLast, fragmentEmpty, reachedWith, follow, bearing, accepting, kindOfType, leastOf, greatestOf, listedCount, listedValue, attributeUse, attributeType, typeOfName, inUse, nameOf, parentOf, kidCount, kids, hasValue, valueOf, hasAttribute, attributeValue, walked, waiting, yroot, yrowLength, yfirst, youts, ytop, ykind, ywith, ysize, yparent, yrow, yends, ylack, yshortest, youtKind, youtWith, ywork, yworkWith, yweight, yfollow, yfirsts, ylasts, ybare, ymet, ynameAt, ytokenAt, ytodo, rfl, rfl, ⟨d, rfl, hD⟩, hT, hM, hE⟩ := I
  exact h _ _ _ _ _ _ _ _ _ _ _ _ _ _ _ _ _ _ _ _ _ _ _ _ _ _ _ _ _ _ _ _ _ _ _ _ _ _ _ _ _ _ _ _ _ _ _ _ _ _ _ _ _ _ _ _ _ _ _ _ _ _ hD hT hM hE
theorem i_up {k : Nat} {u : SX} {v : SY} (h : i_Rel k u v) : i_Rel (k + 5) u v := h
theorem rl_K_cg {yk yw yk' yw' : Nat → Int32} {o o' n : Nat} {kd vl : Nat → Nat} (h : rl_K yk yw o n kd vl) (h1 : ∀ i, i < n → yk' (o' + i) = yk (o + i)) (h2 : ∀ i, i < n → yw' (o' + i) = yw (o + i)) : rl_K yk' yw' o' n kd vl := by
  intro i hi
  obtain ⟨a1, a2, a3, a4, a5⟩ := h i hi
  refine ⟨(h1 i hi).trans a1, a2, a3, a4, fun hk => (h2 i hi).trans (a5 hk)⟩
theorem xa_OK_cg {fo be fo' be' : Nat → Int32} {ac ac' : Int32} {L : List Nat → Prop} (h : xa_OK fo be ac L) (h1 : ∀ s, s < 31 → fo' s = fo s) (h2 : ∀ n, n < 6 → be' n = be n) (h3 : ac' = ac) : xa_OK fo' be' ac' L := by
  have key : ∀ (w : List Nat), xa_N w → ∀ s, s < 31 → (xa_B fo' be' ac' w s ↔ xa_B fo be ac w s) := by
    intro w
    induction w with
    | nil => intro _ s _; rw [h3]; exact Iff.rfl
    | cons n w ih =>
      intro hN s hs
      obtain ⟨hn, hN⟩ := xa_N_cons.mp hN
      constructor
      · rintro ⟨q, b1, b2, b3⟩
        rw [h1 s hs] at b1
        rw [h2 n hn] at b2
        have hq := (h.2.2 s q hs b1).1
        exact ⟨q, b1, b2, (ih hN q (by omega)).mp b3⟩
      · rintro ⟨q, b1, b2, b3⟩
        have hq := (h.2.2 s q hs b1).1
        exact ⟨q, by rw [h1 s hs]; exact b1, by rw [h2 n hn]; exact b2, (ih hN q (by omega)).mpr b3⟩
  refine ⟨fun w hN => (key w hN 30 (by omega)).trans (h.1 w hN), h.2.1, ?_⟩
  intro s q hs b
  rw [h1 s hs] at b
  obtain ⟨a1, ⟨n, hn, a2⟩, w, hN, a3⟩ := h.2.2 s q hs b
  exact ⟨a1, ⟨n, hn, by rw [h2 n hn]; exact a2⟩, w, hN, (key w hN q (by omega)).mpr a3⟩
theorem rl_M_cg {so fo be ac yk yw ys so' fo' be' ac' yk' yw' ys' : Nat → Int32} (h : rl_M so fo be ac yk yw ys) (h0 : ∀ t, t < 6 → so' t = nI 2 → so t = nI 2) (h1 : ∀ j, j < 186 → fo' j = fo j) (h2 : ∀ j, j < 36 → be' j = be j) (h3 : ∀ t, t < 6 → ac' t = ac t) (h4 : ∀ j, j < 96 → yk' j = yk j) (h5 : ∀ j, j < 96 → yw' j = yw j) (h6 : ∀ t, t < 6 → ys' t = ys t) : rl_M so' fo' be' ac' yk' yw' ys' := by
  intro t ht hs
  obtain ⟨kd, vl, R, a1, a2, a3, a4, a5, a6, a7⟩ := h t ht (h0 t ht hs)
  exact ⟨kd, vl, R, a1, (h6 t ht).trans a2, rl_K_cg a3 (fun i hi => h4 _ (by omega)) (fun i hi => h5 _ (by omega)), a4, a5, a6, xa_OK_cg a7 (fun s hs => h1 _ (by omega)) (fun n hn => h2 _ (by omega)) (h3 t ht)⟩
end
section
/-! ===== the beginning; token, place, simple, listed, attribute.., element ===== -/
section
variable {drafted latestPlace positions fragments elementCount : Int32} {draftKind draftValue weights tokenAt fragmentBegin fragmentFirst fragmentLast fragmentEmpty reachedWith follow bearing accepting kindOfType leastOf greatestOf listedCount listedValue attributeUse attributeType typeOfName inUse nameOf parentOf kidCount kids hasValue valueOf hasAttribute attributeValue walked waiting : Nat → Int32} {yplace yroot yrowLength yfirst youts ytop : Int32} {ykind ywith ysize ysort ymany yuse ytypeOf yleast ygreatest ylisted ytypeOfName yused yvalued ygiven yname yparent ychildren ycount yrow yvalue yattributes yends ylack yshortest youtKind youtWith ywork yworkWith yweight yfollow yfirsts ylasts ybare ymet ynameAt ytokenAt ytodo : Nat → Int32}
theorem sx_token {post : Int32 → SX → Prop} {d : Nat} {k v : Int32} (hd : d ≤ 16) (h0 : d = 16 ∨ ¬ tk_ok k v → post 0 (nI d, latestPlace, positions, fragments, elementCount, draftKind, draftValue, weights, tokenAt, fragmentBegin, fragmentFirst, fragmentLast, fragmentEmpty, reachedWith, follow, bearing, accepting, kindOfType, leastOf, greatestOf, listedCount, listedValue, attributeUse, attributeType, typeOfName, inUse, nameOf, parentOf, kidCount, kids, hasValue, valueOf, hasAttribute, attributeValue, walked, waiting)) (h1 : d < 16 → tk_ok k v → post 1 (nI (d + 1), latestPlace, positions, fragments, elementCount, upd draftKind d k, upd draftValue d v, weights, tokenAt, fragmentBegin, fragmentFirst, fragmentLast, fragmentEmpty, reachedWith, follow, bearing, accepting, kindOfType, leastOf, greatestOf, listedCount, listedValue, attributeUse, attributeType, typeOfName, inUse, nameOf, parentOf, kidCount, kids, hasValue, valueOf, hasAttribute, attributeValue, walked, waiting)) : wpX_token post (nI d, latestPlace, positions, fragments, elementCount, draftKind, draftValue, weights, tokenAt, fragmentBegin, fragmentFirst, fragmentLast, fragmentEmpty, reachedWith, follow, bearing, accepting, kindOfType, leastOf, greatestOf, listedCount, listedValue, attributeUse, attributeType, typeOfName, inUse, nameOf, parentOf, kidCount, kids, hasValue, valueOf, hasAttribute, attributeValue, walked, waiting) k v := by
  refine pk_le 16 d (fun h => h0 (Or.inl (by omega))) (fun h => ?_)
  refine sx_isToken (fun hk => ?_) (fun hk => br_t rfl (h0 (Or.inr hk)))
  exact br_f nb_10 ⟨vp_in_nI h (by omega), nm_r (by rw [nb_cl (by omega)]) ⟨vp_in_nI h (by omega), nm_r (by rw [nb_cl (by omega)]) (nm_r (nI_1 d) (h1 h hk))⟩⟩
theorem sy_tok68 {post : Int32 → SY → Prop} {d c : Nat} {v : Int32} (hs : ysize 6 = nI d) (hd : d < 16) (hc : c < 9) (hv : c = 0 ∨ c = 8 → ∃ j, j < 128 ∧ v = nI j) (h1 : post 1 (yplace, yroot, yrowLength, yfirst, youts, ytop, upd ykind (96 + d) (nI c), upd ywith (96 + d) (if c = 0 ∨ c = 8 then v else 0), upd ysize 6 (nI (d + 1)), ysort, ymany, yuse, ytypeOf, yleast, ygreatest, ylisted, ytypeOfName, yused, yvalued, ygiven, yname, yparent, ychildren, ycount, yrow, yvalue, yattributes, yends, ylack, yshortest, youtKind, youtWith, ywork, yworkWith, yweight, yfollow, yfirsts, ylasts, ybare, ymet, ynameAt, ytokenAt, ytodo)) : wY_token_68 post (nI c) v yplace yroot yrowLength yfirst youts ytop ykind ywith ysize ysort ymany yuse ytypeOf yleast ygreatest ylisted ytypeOfName yused yvalued ygiven yname yparent ychildren ycount yrow yvalue yattributes yends ylack yshortest youtKind youtWith ywork yworkWith yweight yfollow yfirsts ylasts ybare ymet ynameAt ytokenAt ytodo := by
  have e1 : vp_nar .byte ((ysize 6 + 1).toInt8.toInt32) = nI (d + 1) := by rw [hs, nI_1, nb_v8 (by omega)]
  have e2 : 96 + ysize 6 = nI (96 + d) := by rw [hs]; exact nI_add 96 d
  have e3 : vp_in (nI (96 + d)) 112 := vp_in_nI (by omega) (by omega)
  have e4 : vp_nar .byte (nI c).toInt8.toInt32 = nI c := nb_v8 (by omega)
  refine nm_r (by rw [e1]) (nm_r e2 ⟨e3, nm_r (by rw [nb_cl (by omega), e4]) ?_⟩)
  by_cases c0 : c = 0
  · obtain ⟨j, hj, rfl⟩ := hv (Or.inl c0)
    refine br_t (by rw [c0]; rfl) ⟨e3, nm_r (by rw [nb_cl (by omega), nb_v8 hj]) ?_⟩
    rw [if_pos (Or.inl c0)] at h1
    exact h1
  · refine br_f (nI_ne0 (by omega) (by omega)) ?_
    by_cases c8 : c = 8
    · obtain ⟨j, hj, rfl⟩ := hv (Or.inr c8)
      refine br_t (by rw [c8]; rfl) ⟨e3, nm_r (by rw [nb_cl (by omega), nb_v8 hj]) ?_⟩
      rw [if_pos (Or.inr c8)] at h1
      exact h1
    · refine br_f (fun e => c8 ((nI_eq (b := 8) (by omega) (by omega)).mp e)) ⟨e3, nm_r (by rw [nb_cl (by omega), nb_z8]) ?_⟩
      rw [if_neg (by omega)] at h1
      exact h1
theorem sy_token {post : Int32 → SY → Prop} {d : Nat} {k v : Int32} (hs : ysize 6 = nI d) (hd : d ≤ 16) (h0 : d = 16 ∨ ¬ tk_ok k v → post 0 (yplace, yroot, yrowLength, yfirst, youts, ytop, ykind, ywith, ysize, ysort, ymany, yuse, ytypeOf, yleast, ygreatest, ylisted, ytypeOfName, yused, yvalued, ygiven, yname, yparent, ychildren, ycount, yrow, yvalue, yattributes, yends, ylack, yshortest, youtKind, youtWith, ywork, yworkWith, yweight, yfollow, yfirsts, ylasts, ybare, ymet, ynameAt, ytokenAt, ytodo)) (h1 : d < 16 → tk_ok k v → ∀ c, c < 9 → k = nI c → post 1 (yplace, yroot, yrowLength, yfirst, youts, ytop, upd ykind (96 + d) (nI c), upd ywith (96 + d) (if c = 0 ∨ c = 8 then v else 0), upd ysize 6 (nI (d + 1)), ysort, ymany, yuse, ytypeOf, yleast, ygreatest, ylisted, ytypeOfName, yused, yvalued, ygiven, yname, yparent, ychildren, ycount, yrow, yvalue, yattributes, yends, ylack, yshortest, youtKind, youtWith, ywork, yworkWith, yweight, yfollow, yfirsts, ylasts, ybare, ymet, ynameAt, ytokenAt, ytodo)) : wpY_token post (yplace, yroot, yrowLength, yfirst, youts, ytop, ykind, ywith, ysize, ysort, ymany, yuse, ytypeOf, yleast, ygreatest, ylisted, ytypeOfName, yused, yvalued, ygiven, yname, yparent, ychildren, ycount, yrow, yvalue, yattributes, yends, ylack, yshortest, youtKind, youtWith, ywork, yworkWith, yweight, yfollow, yfirsts, ylasts, ybare, ymet, ynameAt, ytokenAt, ytodo) k v := by
  unfold wpY_token
  rcases nb_ix k 9 (by omega) with hk | ⟨c, hc, rfl⟩
  · refine sy_out1 (n := 9) (by omega) hk ?_
    refine br_f nb_10 ?_
    exact h0 (Or.inr (tk_no hk))
  · refine sy_out0 (n := 9) (by omega) hc ?_
    refine br_t rfl ?_
    refine pk_eq d 16 (fun h => h0 (Or.inl h)) (fun h => ?_) hs
    have hd' : d < 16 := by omega
    by_cases c0 : c = 0
    · subst c0
      refine br_t rfl ?_
      rcases nb_ix v 6 (by omega) with hv | ⟨j, hj, rfl⟩
      · refine sy_out1 (n := 6) (by omega) hv ?_
        refine br_f nb_10 ?_
        refine h0 (Or.inr ?_)
        rintro (⟨_, j, hj, rfl⟩ | ⟨e, _⟩ | ⟨j, hj, hj2, e⟩)
        · rcases hv with hv | hv
          · exact nI_pos (by omega) hv
          · exact nI_ge (b := 6) hj (by omega) hv
        · exact absurd e (by decide)
        · have e' := (nI_eq (by omega) (by omega)).mp e
          omega
      · refine sy_out0 (n := 6) (by omega) hj ?_
        refine br_t rfl ?_
        refine br_f (by decide) ?_
        exact sy_tok68 hs hd' (by omega) (fun _ => ⟨j, by omega, rfl⟩) (h1 hd' (Or.inl ⟨rfl, j, hj, rfl⟩) 0 (by omega) rfl)
    · refine br_f (nI_ne0 (by omega) (by omega)) ?_
      by_cases c8 : c = 8
      · subst c8
        refine br_t rfl ?_
        have no : (∀ j, j < 16 → v = nI j → j / 4 ≤ j % 4 → 1 ≤ j % 4 → False) → ¬ tk_ok (nI 8) v := by
          intro h
          rintro (⟨e, _⟩ | ⟨_, j, a1, a2, a3, a4⟩ | ⟨j, a1, a2, e⟩)
          · exact nI_ne0 (n := 8) (by omega) (by omega) e
          · exact h j a1 a2 a3 a4
          · have e' := (nI_eq (by omega) (by omega)).mp e
            omega
        rcases nb_ix v 16 (by omega) with hv | ⟨j, hj, rfl⟩
        · refine sy_out1 (n := 16) (by omega) hv ?_
          refine br_f nb_10 ?_
          refine h0 (Or.inr (no ?_))
          rintro j a1 rfl _ _
          rcases hv with hv | hv
          · exact nI_pos (by omega) hv
          · exact nI_ge (b := 16) a1 (by omega) hv
        · have no' : (j / 4 ≤ j % 4 → 1 ≤ j % 4 → False) → ¬ tk_ok (nI 8) (nI j) := by
            intro h
            refine no ?_
            intro i a1 a2 a3 a4
            obtain rfl := (nI_eq (by omega) (by omega)).mp a2
            exact h a3 a4
          refine sy_out0 (n := 16) (by omega) hj ?_
          refine br_t rfl ?_
          refine pk_eq (j % 4) 0 (fun h => h0 (Or.inr (no' (fun _ _ => by omega)))) (fun h => ?_) (tk_an (by omega))
          refine pk_le (j / 4) (j % 4) (fun h2 => ?_) (fun h2 => h0 (Or.inr (no' (fun _ _ => by omega)))) (tk_sh (by omega)) (tk_an (by omega))
          exact sy_tok68 hs hd' (by omega) (fun _ => ⟨j, by omega, rfl⟩) (h1 hd' (Or.inr (Or.inl ⟨rfl, j, hj, rfl, h2, by omega⟩)) 8 (by omega) rfl)
      · refine br_f (fun e => c8 ((nI_eq (b := 8) (by omega) (by omega)).mp e)) ?_
        exact sy_tok68 hs hd' hc (fun h => by omega) (h1 hd' (Or.inr (Or.inr ⟨c, by omega, by omega, rfl⟩)) c hc rfl)
end
theorem rl_D_add {d c : Nat} {dk dv yk yw ys : Nat → Int32} {v : Int32} (h : rl_D d dk dv yk yw ys) (hd : d < 16) (hc : c < 9) (hk : tk_ok (nI c) v) : rl_D (d + 1) (upd dk d (nI c)) (upd dv d v) (upd yk (96 + d) (nI c)) (upd yw (96 + d) (if c = 0 ∨ c = 8 then v else 0)) (upd ys 6 (nI (d + 1))) := by
  obtain ⟨_, _, kd, vl, hK, hX⟩ := h
  have hv : ∃ w, (c = 0 → w < 6 ∧ v = nI w) ∧ (c = 8 → w < 16 ∧ v = nI w ∧ w / 4 ≤ w % 4 ∧ 1 ≤ w % 4) := by
    rcases hk with ⟨e, j, a1, a2⟩ | ⟨e, j, a1, a2, a3, a4⟩ | ⟨j, a1, a2, e⟩
    · have e' : c = 0 := (nI_eq (b := 0) (by omega) (by omega)).mp e
      exact ⟨j, fun _ => ⟨a1, a2⟩, fun h => by omega⟩
    · have e' : c = 8 := (nI_eq (b := 8) (by omega) (by omega)).mp e
      exact ⟨j, fun h => by omega, fun _ => ⟨a1, a2, a3, a4⟩⟩
    · have e' := (nI_eq (by omega) (by omega)).mp e
      exact ⟨0, fun h => by omega, fun h => by omega⟩
  obtain ⟨w, w1, w2⟩ := hv
  refine ⟨by omega, by unfold upd; rw [if_pos rfl], fun i => if i = d then c else kd i, fun i => if i = d then w else vl i, ?_, ?_⟩
  · intro i hi
    by_cases e : i = d
    · subst e
      simp only [upd, if_true]
      refine ⟨trivial, hc, fun h => (w1 h).1, fun h => ⟨(w2 h).1, (w2 h).2.2⟩, fun h => ?_⟩
      rw [if_pos h]
      rcases h with h | h
      · exact (w1 h).2
      · exact (w2 h).2.1
    · have := hK i (by omega)
      have e2 : ¬ 96 + i = 96 + d := by omega
      simp only [upd, if_neg e, if_neg e2]
      exact this
  · intro i hi
    by_cases e : i = d
    · subst e
      simp only [upd, if_true]
      refine ⟨trivial, fun h => ?_⟩
      rcases h with h | h
      · exact (w1 h).2
      · exact (w2 h).2.1
    · have := hX i (by omega)
      simp only [upd, if_neg e]
      exact this
theorem i_vc_token {k : Nat} {u : SX} {v : SY} (I : i_Rel k u v) (hk : k + 5 ≤ 2560) (v1 : Int32) (v2 : Int32) : wpX_token (fun r u' => wpY_token (fun r' v' => r' = r ∧ i_Rel (k + 5) u' v') v v1 v2) u v1 v2 := by
  refine i_el I (P := fun u v => wpX_token (fun r u' => wpY_token (fun r' v' => r' = r ∧ i_Rel (k + 5) u' v') v v1 v2) u v1 v2) ?_
  intro d latestPlace positions fragments elementCount draftKind draftValue weights tokenAt fragmentBegin fragmentFirst fragmentLast fragmentEmpty reachedWith follow bearing accepting kindOfType leastOf greatestOf listedCount listedValue attributeUse attributeType typeOfName inUse nameOf parentOf kidCount kids hasValue valueOf hasAttribute attributeValue walked waiting yroot yrowLength yfirst youts ytop ykind ywith ysize yparent yrow yends ylack yshortest youtKind youtWith ywork yworkWith yweight yfollow yfirsts ylasts ybare ymet ynameAt ytokenAt ytodo hD hT hM hE
  have hd := hD.1
  have hs := hD.2.1
  refine sx_token hd (fun h => ?_) (fun h hx => ?_)
  · exact sy_token hs hd (fun _ => ⟨rfl, i_mk hD hT hM hE⟩) (fun h2 hx2 c hc e => by rcases h with h | h; omega; exact absurd hx2 h)
  · refine sy_token hs hd (fun h2 => by rcases h2 with h2 | h2; omega; exact absurd hx h2) (fun h2 hx2 c hc e => ?_)
    subst e
    refine ⟨rfl, i_mk (rl_D_add hD h hc hx) hT (rl_M_cg hM (fun _ _ h => h) (fun _ _ => rfl) (fun _ _ => rfl) (fun _ _ => rfl) (fun j hj => ?_) (fun j hj => ?_) (fun t ht => ?_)) hE⟩
    · exact pk_un (by omega)
    · exact pk_un (by omega)
    · exact pk_un (by omega)
theorem i_vc_place {k : Nat} {u : SX} {v : SY} (I : i_Rel k u v) (hk : k + 5 ≤ 2560) : wpX_place (fun r => wpY_place (fun r' => r' = r ∧ i_Rel (k + 5) u v) v) u := by
  refine i_el I (P := fun u v => wpX_place (fun r => wpY_place (fun r' => r' = r ∧ i_Rel (k + 5) u v) v) u) ?_
  intro d latestPlace positions fragments elementCount draftKind draftValue weights tokenAt fragmentBegin fragmentFirst fragmentLast fragmentEmpty reachedWith follow bearing accepting kindOfType leastOf greatestOf listedCount listedValue attributeUse attributeType typeOfName inUse nameOf parentOf kidCount kids hasValue valueOf hasAttribute attributeValue walked waiting yroot yrowLength yfirst youts ytop ykind ywith ysize yparent yrow yends ylack yshortest youtKind youtWith ywork yworkWith yweight yfollow yfirsts ylasts ybare ymet ynameAt ytokenAt ytodo hD hT hM hE
  exact ⟨rfl, i_mk hD hT hM hE⟩
end
section
/-! ===== simple, listed, attribute, element, rename, value, set, child ===== -/
theorem nb_m4 (t i : Nat) : nI t * 4 + nI i = nI (4 * t + i) := by
  show nI t * nI 4 + nI i = _
  rw [pk_mul, nI_add, Nat.mul_comm]
theorem nb_4m (t i : Nat) : 4 * nI t + nI i = nI (4 * t + i) := by
  show nI 4 * nI t + nI i = _
  rw [pk_mul, nI_add]
theorem nb_m24 (t i : Nat) : nI t * 24 + nI i = nI (24 * t + i) := by
  show nI t * nI 24 + nI i = _
  rw [pk_mul, nI_add, Nat.mul_comm]
theorem nb_24m (t i : Nat) : 24 * nI t + nI i = nI (24 * t + i) := by
  show nI 24 * nI t + nI i = _
  rw [pk_mul, nI_add]
theorem el_cs (iu : Nat → Int32) (x : Int32) : ((x < 0 ∨ nI 24 ≤ x) ∨ ∃ j, j < 24 ∧ x = nI j ∧ iu j = 0) ∨ ∃ j, j < 24 ∧ x = nI j ∧ iu j ≠ 0 := by
  rcases nb_ix x 24 (by omega) with h | ⟨j, hj, e⟩
  · exact Or.inl (Or.inl h)
  · by_cases hu : iu j = 0
    · exact Or.inl (Or.inr ⟨j, hj, e, hu⟩)
    · exact Or.inr ⟨j, hj, e, hu⟩
section
variable {drafted latestPlace positions fragments elementCount : Int32} {draftKind draftValue weights tokenAt fragmentBegin fragmentFirst fragmentLast fragmentEmpty reachedWith follow bearing accepting kindOfType leastOf greatestOf listedCount listedValue attributeUse attributeType typeOfName inUse nameOf parentOf kidCount kids hasValue valueOf hasAttribute attributeValue walked waiting : Nat → Int32} {yplace yroot yrowLength yfirst youts ytop : Int32} {ykind ywith ysize ysort ymany yuse ytypeOf yleast ygreatest ylisted ytypeOfName yused yvalued ygiven yname yparent ychildren ycount yrow yvalue yattributes yends ylack yshortest youtKind youtWith ywork yworkWith yweight yfollow yfirsts ylasts ybare ymet ynameAt ytokenAt ytodo : Nat → Int32}
theorem sx_elem0 {post : Int32 → Prop} {x : Int32} (h : (x < 0 ∨ nI 24 ≤ x) ∨ ∃ j, j < 24 ∧ x = nI j ∧ inUse j = 0) (p : post 0) : wpX_isElement post (drafted, latestPlace, positions, fragments, elementCount, draftKind, draftValue, weights, tokenAt, fragmentBegin, fragmentFirst, fragmentLast, fragmentEmpty, reachedWith, follow, bearing, accepting, kindOfType, leastOf, greatestOf, listedCount, listedValue, attributeUse, attributeType, typeOfName, inUse, nameOf, parentOf, kidCount, kids, hasValue, valueOf, hasAttribute, attributeValue, walked, waiting) x := by
  rcases h with h | ⟨j, hj, rfl, hu⟩
  · by_cases h0 : x < 0
    · exact br_t h0 p
    · exact br_f h0 (br_t (h.resolve_left h0) p)
  · exact br_f (nI_pos (by omega)) (br_f (nI_ge (b := 24) hj (by decide)) ⟨vp_in_nI hj (by omega), br_t (by rw [nb_cl (by omega)]; exact hu) p⟩)
theorem sx_elem1 {post : Int32 → Prop} {j : Nat} (hj : j < 24) (hu : inUse j ≠ 0) (p : post 1) : wpX_isElement post (drafted, latestPlace, positions, fragments, elementCount, draftKind, draftValue, weights, tokenAt, fragmentBegin, fragmentFirst, fragmentLast, fragmentEmpty, reachedWith, follow, bearing, accepting, kindOfType, leastOf, greatestOf, listedCount, listedValue, attributeUse, attributeType, typeOfName, inUse, nameOf, parentOf, kidCount, kids, hasValue, valueOf, hasAttribute, attributeValue, walked, waiting) (nI j) :=
  br_f (nI_pos (by omega)) (br_f (nI_ge (b := 24) hj (by decide)) ⟨vp_in_nI hj (by omega), br_f (by rw [nb_cl (by omega)]; exact hu) p⟩)
theorem sy_no1 {post : Int32 → Prop} {x : Int32} (h : (x < 0 ∨ nI 24 ≤ x) ∨ ∃ j, j < 24 ∧ x = nI j ∧ yused j = 0) (p : post 1) : wpY_no post (yplace, yroot, yrowLength, yfirst, youts, ytop, ykind, ywith, ysize, ysort, ymany, yuse, ytypeOf, yleast, ygreatest, ylisted, ytypeOfName, yused, yvalued, ygiven, yname, yparent, ychildren, ycount, yrow, yvalue, yattributes, yends, ylack, yshortest, youtKind, youtWith, ywork, yworkWith, yweight, yfollow, yfirsts, ylasts, ybare, ymet, ynameAt, ytokenAt, ytodo) x := by
  unfold wpY_no
  rcases h with h | ⟨j, hj, rfl, hu⟩
  · refine sy_out1 (n := 24) (by omega) h ?_
    exact br_f nb_10 p
  · refine sy_out0 (n := 24) (by omega) hj ?_
    refine br_t rfl ?_
    exact ⟨vp_in_nI hj (by omega), br_t (by rw [nb_cl (by omega)]; exact hu) p⟩
theorem sy_no0 {post : Int32 → Prop} {j : Nat} (hj : j < 24) (hu : yused j ≠ 0) (p : post 0) : wpY_no post (yplace, yroot, yrowLength, yfirst, youts, ytop, ykind, ywith, ysize, ysort, ymany, yuse, ytypeOf, yleast, ygreatest, ylisted, ytypeOfName, yused, yvalued, ygiven, yname, yparent, ychildren, ycount, yrow, yvalue, yattributes, yends, ylack, yshortest, youtKind, youtWith, ywork, yworkWith, yweight, yfollow, yfirsts, ylasts, ybare, ymet, ynameAt, ytokenAt, ytodo) (nI j) := by
  unfold wpY_no
  refine sy_out0 (n := 24) (by omega) hj ?_
  exact br_t rfl ⟨vp_in_nI hj (by omega), br_f (by rw [nb_cl (by omega)]; exact hu) p⟩
theorem sx_isL {post : Int32 → Prop} {t c : Nat} {v : Int32} (ht : t < 6) (hc : listedCount t = nI c) (hc4 : c ≤ 4) (h1 : (∃ j, j < c ∧ listedValue (4 * t + j) = v) → post 1) (h0 : (∀ j, j < c → listedValue (4 * t + j) ≠ v) → post 0) : ∀ m i, i + m = c → (∀ j, j < i → listedValue (4 * t + j) ≠ v) → wX_isListed_2 post (nI t) v drafted latestPlace positions fragments elementCount draftKind draftValue weights tokenAt fragmentBegin fragmentFirst fragmentLast fragmentEmpty reachedWith follow bearing accepting kindOfType leastOf greatestOf listedCount listedValue attributeUse attributeType typeOfName inUse nameOf parentOf kidCount kids hasValue valueOf hasAttribute attributeValue walked waiting (m + 1) (nI i) := by
  intro m
  induction m with
  | zero =>
    intro i hi hn
    refine ⟨vp_in_nI ht (by omega), pk_le c i (fun _ => h0 (fun j hj => hn j (by omega))) (fun h => by omega) (by rw [nb_cl (by omega), hc])⟩
  | succ m ih =>
    intro i hi hn
    refine ⟨vp_in_nI ht (by omega), pk_le c i (fun h => by omega) (fun h => ?_) (by rw [nb_cl (by omega), hc])⟩
    rw [nb_m4]
    refine ⟨vp_in_nI (by omega) (by omega), ?_⟩
    rw [nb_cl (by omega)]
    by_cases e : listedValue (4 * t + i) = v
    · exact br_t e (h1 ⟨i, by omega, e⟩)
    · refine br_f e (nm_r (nI_1 i) (ih (i + 1) (by omega) (fun j hj => ?_)))
      by_cases e2 : j = i
      · rw [e2]; exact e
      · exact hn j (by omega)
theorem sx_isListed {post : Int32 → Prop} {t c : Nat} {v : Int32} (ht : t < 6) (hc : listedCount t = nI c) (hc4 : c ≤ 4) (h1 : (∃ j, j < c ∧ listedValue (4 * t + j) = v) → post 1) (h0 : (∀ j, j < c → listedValue (4 * t + j) ≠ v) → post 0) : wpX_isListed post (drafted, latestPlace, positions, fragments, elementCount, draftKind, draftValue, weights, tokenAt, fragmentBegin, fragmentFirst, fragmentLast, fragmentEmpty, reachedWith, follow, bearing, accepting, kindOfType, leastOf, greatestOf, listedCount, listedValue, attributeUse, attributeType, typeOfName, inUse, nameOf, parentOf, kidCount, kids, hasValue, valueOf, hasAttribute, attributeValue, walked, waiting) (nI t) v :=
  ⟨c + 1, sx_isL ht hc hc4 h1 h0 c 0 (by omega) (fun j hj => by omega)⟩
theorem sy_lst {post : Int32 → SY → Prop} {t c : Nat} {v : Int32} (ht : t < 6) (hc : ymany t = nI c) (hc4 : c < 4) (h1 : (∃ j, j < c ∧ ylisted (4 * t + j) = v) → post (-1) (yplace, yroot, yrowLength, yfirst, youts, ytop, ykind, ywith, ysize, ysort, ymany, yuse, ytypeOf, yleast, ygreatest, ylisted, ytypeOfName, yused, yvalued, ygiven, yname, yparent, ychildren, ycount, yrow, yvalue, yattributes, yends, ylack, yshortest, youtKind, youtWith, ywork, yworkWith, yweight, yfollow, yfirsts, ylasts, ybare, ymet, ynameAt, ytokenAt, ytodo)) (h0 : (∀ j, j < c → ylisted (4 * t + j) ≠ v) → post 0 (yplace, yroot, yrowLength, yfirst, youts, ytop, ykind, ywith, ysize, ysort, upd ymany t (nI (c + 1)), yuse, ytypeOf, yleast, ygreatest, upd ylisted (4 * t + c) v, ytypeOfName, yused, yvalued, ygiven, yname, yparent, ychildren, ycount, yrow, yvalue, yattributes, yends, ylack, yshortest, youtKind, youtWith, ywork, yworkWith, yweight, yfollow, yfirsts, ylasts, ybare, ymet, ynameAt, ytokenAt, ytodo)) : ∀ m i, i + m = c → (∀ j, j < i → ylisted (4 * t + j) ≠ v) → wY_listed_33 post (nI t) v yplace yroot yrowLength yfirst youts ytop ykind ywith ysize ysort ymany yuse ytypeOf yleast ygreatest ylisted ytypeOfName yused yvalued ygiven yname yparent ychildren ycount yrow yvalue yattributes yends ylack yshortest youtKind youtWith ywork yworkWith yweight yfollow yfirsts ylasts ybare ymet ynameAt ytokenAt ytodo (m + 1) (nI i) := by
  have e1 : ymany (nI t).toNatClampNeg = nI c := by rw [nb_cl (by omega), hc]
  have e2 : vp_nar .byte ((ymany (nI t).toNatClampNeg + 1).toInt8.toInt32) = nI (c + 1) := by rw [e1, nI_1, nb_v8 (by omega)]
  have e3 : 4 * nI t + ymany (nI t).toNatClampNeg = nI (4 * t + c) := by rw [e1, nb_4m]
  have vt : vp_in (nI t) 6 := vp_in_nI ht (by omega)
  intro m
  induction m with
  | zero =>
    intro i hi hn
    refine ⟨vt, pk_le c i (fun _ => ?_) (fun h => by omega) e1⟩
    refine ⟨vt, vt, nm_r (by rw [e2, nb_cl (by omega)]) ?_⟩
    rw [e3]
    exact ⟨vp_in_nI (by omega) (by omega), nm_r (by rw [nb_cl (by omega)]) (h0 (fun j hj => hn j (by omega)))⟩
  | succ m ih =>
    intro i hi hn
    refine ⟨vt, pk_le c i (fun h => by omega) (fun h => ?_) e1⟩
    rw [nb_4m]
    refine ⟨vp_in_nI (by omega) (by omega), ?_⟩
    rw [nb_cl (by omega)]
    by_cases e : ylisted (4 * t + i) = v
    · exact br_t e (h1 ⟨i, by omega, e⟩)
    · refine br_f e (nm_r (nI_1 i) (ih (i + 1) (by omega) (fun j hj => ?_)))
      by_cases e2 : j = i
      · rw [e2]; exact e
      · exact hn j (by omega)
theorem sx_kind0 {post : Int32 → Prop} {x : Int32} {s : Int32} (h : (x < 0 ∨ nI 6 ≤ x) ∨ ∃ t, t < 6 ∧ x = nI t ∧ kindOfType t ≠ s) (p : post 0) : wpX_isOfKind post (drafted, latestPlace, positions, fragments, elementCount, draftKind, draftValue, weights, tokenAt, fragmentBegin, fragmentFirst, fragmentLast, fragmentEmpty, reachedWith, follow, bearing, accepting, kindOfType, leastOf, greatestOf, listedCount, listedValue, attributeUse, attributeType, typeOfName, inUse, nameOf, parentOf, kidCount, kids, hasValue, valueOf, hasAttribute, attributeValue, walked, waiting) x s := by
  unfold wpX_isOfKind
  rcases h with h | ⟨t, ht, rfl, hs⟩
  · refine sx_type0 h ?_
    exact br_t rfl p
  · refine sx_type1 ht ?_
    refine br_f nb_10 ?_
    exact ⟨vp_in_nI ht (by omega), br_f (by rw [nb_cl (by omega)]; exact hs) p⟩
theorem sx_kind1 {post : Int32 → Prop} {t : Nat} {s : Int32} (ht : t < 6) (hs : kindOfType t = s) (p : post 1) : wpX_isOfKind post (drafted, latestPlace, positions, fragments, elementCount, draftKind, draftValue, weights, tokenAt, fragmentBegin, fragmentFirst, fragmentLast, fragmentEmpty, reachedWith, follow, bearing, accepting, kindOfType, leastOf, greatestOf, listedCount, listedValue, attributeUse, attributeType, typeOfName, inUse, nameOf, parentOf, kidCount, kids, hasValue, valueOf, hasAttribute, attributeValue, walked, waiting) (nI t) s := by
  unfold wpX_isOfKind
  refine sx_type1 ht ?_
  exact br_f nb_10 ⟨vp_in_nI ht (by omega), br_t (by rw [nb_cl (by omega)]; exact hs) p⟩
end
theorem rl_T_so {so mn us ty tn : Nat → Int32} {t s : Nat} (h : rl_T so mn us ty tn) (hs : s < 3) : rl_T (upd so t (nI s)) mn us ty tn := by
  obtain ⟨h1, h2, h3, h4⟩ := h
  refine ⟨fun i hi => ?_, h2, h3, h4⟩
  unfold upd
  by_cases e : i = t
  · rw [if_pos e]; exact ⟨s, hs, rfl⟩
  · rw [if_neg e]; exact h1 i hi
theorem rl_T_mn {so mn us ty tn : Nat → Int32} {t s : Nat} (h : rl_T so mn us ty tn) (hs : s ≤ 4) : rl_T so (upd mn t (nI s)) us ty tn := by
  obtain ⟨h1, h2, h3, h4⟩ := h
  refine ⟨h1, fun i hi => ?_, h3, h4⟩
  unfold upd
  by_cases e : i = t
  · rw [if_pos e]; exact ⟨s, hs, rfl⟩
  · rw [if_neg e]; exact h2 i hi
theorem rl_T_us {so mn us ty tn : Nat → Int32} {j s : Nat} (h : rl_T so mn us ty tn) (hs : s < 3) : rl_T so mn (upd us j (nI s)) ty tn := by
  obtain ⟨h1, h2, h3, h4⟩ := h
  refine ⟨h1, h2, fun i hi => ⟨?_, (h3 i hi).2⟩, h4⟩
  unfold upd
  by_cases e : i = j
  · rw [if_pos e]; exact ⟨s, hs, rfl⟩
  · rw [if_neg e]; exact (h3 i hi).1
theorem rl_T_ty {so mn us ty tn : Nat → Int32} {j s : Nat} (h : rl_T so mn us ty tn) (hs : s < 6) : rl_T so mn us (upd ty j (nI s)) tn := by
  obtain ⟨h1, h2, h3, h4⟩ := h
  refine ⟨h1, h2, fun i hi => ⟨(h3 i hi).1, ?_⟩, h4⟩
  unfold upd
  by_cases e : i = j
  · rw [if_pos e]; exact ⟨s, hs, rfl⟩
  · rw [if_neg e]; exact (h3 i hi).2
theorem rl_T_tn {so mn us ty tn : Nat → Int32} {j : Nat} {x : Int32} (h : rl_T so mn us ty tn) (hx : x = -1 ∨ ∃ t, t < 6 ∧ x = nI t) : rl_T so mn us ty (upd tn j x) := by
  obtain ⟨h1, h2, h3, h4⟩ := h
  refine ⟨h1, h2, h3, fun i hi => ?_⟩
  unfold upd
  by_cases e : i = j
  · rw [if_pos e]; exact hx
  · rw [if_neg e]; exact h4 i hi
theorem rl_M_so {so fo be ac yk yw ys : Nat → Int32} {t : Nat} (h : rl_M so fo be ac yk yw ys) : rl_M (upd so t (nI 1)) fo be ac yk yw ys := by
  refine rl_M_cg h (fun i _ hs => ?_) (fun _ _ => rfl) (fun _ _ => rfl) (fun _ _ => rfl) (fun _ _ => rfl) (fun _ _ => rfl) (fun _ _ => rfl)
  unfold upd at hs
  by_cases e : i = t
  · rw [if_pos e] at hs; exact absurd hs (by decide)
  · rw [if_neg e] at hs; exact hs
theorem i_vc_simple {k : Nat} {u : SX} {v : SY} (I : i_Rel k u v) (hk : k + 5 ≤ 2560) (v1 : Int32) (v2 : Int32) (v3 : Int32) : wpX_simple (fun r u' => wpY_simple (fun r' v' => r' = r ∧ i_Rel (k + 5) u' v') v v1 v2 v3) u v1 v2 v3 := by
  refine i_el I (P := fun u v => wpX_simple (fun r u' => wpY_simple (fun r' v' => r' = r ∧ i_Rel (k + 5) u' v') v v1 v2 v3) u v1 v2 v3) ?_
  intro d latestPlace positions fragments elementCount draftKind draftValue weights tokenAt fragmentBegin fragmentFirst fragmentLast fragmentEmpty reachedWith follow bearing accepting kindOfType leastOf greatestOf listedCount listedValue attributeUse attributeType typeOfName inUse nameOf parentOf kidCount kids hasValue valueOf hasAttribute attributeValue walked waiting yroot yrowLength yfirst youts ytop ykind ywith ysize yparent yrow yends ylack yshortest youtKind youtWith ywork yworkWith yweight yfollow yfirsts ylasts ybare ymet ynameAt ytokenAt ytodo hD hT hM hE
  unfold wpX_simple
  rcases nb_ix v1 6 (by omega) with hv | ⟨t, ht, rfl⟩
  · refine sx_type0 hv ?_
    refine br_t rfl ?_
    try unfold wpY_simple
    refine sy_out1 (n := 6) (by omega) hv ?_
    refine br_f nb_10 ?_
    exact ⟨rfl, i_mk hD hT hM hE⟩
  · have vt : vp_in (nI t) 6 := vp_in_nI ht (by omega)
    have ec : (nI t).toNatClampNeg = t := nb_cl (by omega)
    refine sx_type1 ht ?_
    refine br_f nb_10 ?_
    refine ⟨vt, nm_r (by rw [ec]) ⟨vt, nm_r (by rw [ec]) ⟨vt, nm_r (by rw [ec]) ⟨vt, nm_r (by rw [ec]) ?_⟩⟩⟩⟩
    try unfold wpY_simple
    refine sy_out0 (n := 6) (by omega) ht ?_
    refine br_t rfl ?_
    refine ⟨vt, nm_r (by rw [ec, nb_1]) ⟨vt, nm_r (by rw [ec]) ⟨vt, nm_r (by rw [ec]) ⟨vt, nm_r (by rw [ec, nb_0]) ?_⟩⟩⟩⟩
    exact ⟨rfl, i_mk hD (rl_T_mn (s := 0) (rl_T_so (s := 1) hT (by omega)) (by omega)) (rl_M_so hM) hE⟩
theorem i_vc_listed {k : Nat} {u : SX} {v : SY} (I : i_Rel k u v) (hk : k + 5 ≤ 2560) (v1 : Int32) (v2 : Int32) : wpX_listed (fun r u' => wpY_listed (fun r' v' => r' = r ∧ i_Rel (k + 5) u' v') v v1 v2) u v1 v2 := by
  refine i_el I (P := fun u v => wpX_listed (fun r u' => wpY_listed (fun r' v' => r' = r ∧ i_Rel (k + 5) u' v') v v1 v2) u v1 v2) ?_
  intro d latestPlace positions fragments elementCount draftKind draftValue weights tokenAt fragmentBegin fragmentFirst fragmentLast fragmentEmpty reachedWith follow bearing accepting kindOfType leastOf greatestOf listedCount listedValue attributeUse attributeType typeOfName inUse nameOf parentOf kidCount kids hasValue valueOf hasAttribute attributeValue walked waiting yroot yrowLength yfirst youts ytop ykind ywith ysize yparent yrow yends ylack yshortest youtKind youtWith ywork yworkWith yweight yfollow yfirsts ylasts ybare ymet ynameAt ytokenAt ytodo hD hT hM hE
  unfold wpX_listed
  rcases nb_ix v1 6 (by omega) with hv | ⟨t, ht, rfl⟩
  · refine sx_kind0 (Or.inl hv) ?_
    refine br_t rfl ?_
    try unfold wpY_listed
    refine sy_out1 (n := 6) (by omega) hv ?_
    refine br_f nb_10 ?_
    exact ⟨rfl, i_mk hD hT hM hE⟩
  · have vt : vp_in (nI t) 6 := vp_in_nI ht (by omega)
    have ec : (nI t).toNatClampNeg = t := nb_cl (by omega)
    by_cases hs : kindOfType t = 1
    · obtain ⟨c, hc, ec4⟩ := hT.2.1 t ht
      have em : listedCount (nI t).toNatClampNeg = nI c := by rw [ec, ec4]
      refine sx_kind1 ht hs ?_
      refine br_f nb_10 ?_
      refine ⟨vt, pk_le 4 c (fun h => ?_) (fun h => ?_) rfl em⟩
      · try unfold wpY_listed
        refine sy_out0 (n := 6) (by omega) ht ?_
        refine br_t rfl ?_
        exact ⟨vt, br_t (by rw [ec]; exact hs) ⟨vt, pk_eq c 4 (fun _ => ⟨rfl, i_mk hD hT hM hE⟩) (fun h2 => by omega) em⟩⟩
      · have Y0 : ∀ {post : Int32 → SY → Prop}, ((∃ j, j < c ∧ listedValue (4 * t + j) = v2) → post (-1) (latestPlace, yroot, yrowLength, yfirst, youts, ytop, ykind, ywith, ysize, kindOfType, listedCount, attributeUse, attributeType, leastOf, greatestOf, listedValue, typeOfName, inUse, hasValue, hasAttribute, nameOf, yparent, kids, kidCount, yrow, valueOf, attributeValue, yends, ylack, yshortest, youtKind, youtWith, ywork, yworkWith, yweight, yfollow, yfirsts, ylasts, ybare, ymet, ynameAt, ytokenAt, ytodo)) → ((∀ j, j < c → listedValue (4 * t + j) ≠ v2) → post 0 (latestPlace, yroot, yrowLength, yfirst, youts, ytop, ykind, ywith, ysize, kindOfType, upd listedCount t (nI (c + 1)), attributeUse, attributeType, leastOf, greatestOf, upd listedValue (4 * t + c) v2, typeOfName, inUse, hasValue, hasAttribute, nameOf, yparent, kids, kidCount, yrow, valueOf, attributeValue, yends, ylack, yshortest, youtKind, youtWith, ywork, yworkWith, yweight, yfollow, yfirsts, ylasts, ybare, ymet, ynameAt, ytokenAt, ytodo)) → wpY_listed post (latestPlace, yroot, yrowLength, yfirst, youts, ytop, ykind, ywith, ysize, kindOfType, listedCount, attributeUse, attributeType, leastOf, greatestOf, listedValue, typeOfName, inUse, hasValue, hasAttribute, nameOf, yparent, kids, kidCount, yrow, valueOf, attributeValue, yends, ylack, yshortest, youtKind, youtWith, ywork, yworkWith, yweight, yfollow, yfirsts, ylasts, ybare, ymet, ynameAt, ytokenAt, ytodo) (nI t) v2 := by
          intro post h1 h0
          try unfold wpY_listed
          refine sy_out0 (n := 6) (by omega) ht ?_
          refine br_t rfl ?_
          exact ⟨vt, br_t (by rw [ec]; exact hs) ⟨vt, pk_eq c 4 (fun h2 => by omega) (fun _ => ⟨c + 1, sy_lst ht ec4 h h1 h0 c 0 (by omega) (fun j hj => by omega)⟩) em⟩⟩
        refine sx_isListed ht ec4 hc (fun h1 => ?_) (fun h0 => ?_)
        · exact br_f nb_10 (Y0 (fun _ => ⟨rfl, i_mk hD hT hM hE⟩) (fun h2 => by obtain ⟨j, hj, e⟩ := h1; exact absurd e (h2 j hj)))
        · have e4 : nI t * 4 + listedCount (nI t).toNatClampNeg = nI (4 * t + c) := by rw [em, nb_m4]
          refine br_t rfl ⟨vt, ?_⟩
          rw [e4]
          refine ⟨vp_in_nI (by omega) (by omega), nm_r (by rw [nb_cl (by omega)]) ⟨vt, vt, nm_r (by rw [em, nI_1, ec]) ?_⟩⟩
          exact Y0 (fun h2 => by obtain ⟨j, hj, e⟩ := h2; exact absurd e (h0 j hj)) (fun _ => ⟨rfl, i_mk hD (rl_T_mn hT (by omega)) hM hE⟩)
    · refine sx_kind0 (Or.inr ⟨t, ht, rfl, hs⟩) ?_
      refine br_t rfl ?_
      try unfold wpY_listed
      refine sy_out0 (n := 6) (by omega) ht ?_
      refine br_t rfl ?_
      exact ⟨vt, br_f (by rw [ec]; exact hs) ⟨rfl, i_mk hD hT hM hE⟩⟩
theorem i_vc_attribute {k : Nat} {u : SX} {v : SY} (I : i_Rel k u v) (hk : k + 5 ≤ 2560) (v1 : Int32) (v2 : Int32) (v3 : Int32) (v4 : Int32) : wpX_attribute (fun r u' => wpY_attribute (fun r' v' => r' = r ∧ i_Rel (k + 5) u' v') v v1 v2 v3 v4) u v1 v2 v3 v4 := by
  refine i_el I (P := fun u v => wpX_attribute (fun r u' => wpY_attribute (fun r' v' => r' = r ∧ i_Rel (k + 5) u' v') v v1 v2 v3 v4) u v1 v2 v3 v4) ?_
  intro d latestPlace positions fragments elementCount draftKind draftValue weights tokenAt fragmentBegin fragmentFirst fragmentLast fragmentEmpty reachedWith follow bearing accepting kindOfType leastOf greatestOf listedCount listedValue attributeUse attributeType typeOfName inUse nameOf parentOf kidCount kids hasValue valueOf hasAttribute attributeValue walked waiting yroot yrowLength yfirst youts ytop ykind ywith ysize yparent yrow yends ylack yshortest youtKind youtWith ywork yworkWith yweight yfollow yfirsts ylasts ybare ymet ynameAt ytokenAt ytodo hD hT hM hE
  unfold wpX_attribute
  rcases nb_ix v1 6 (by omega) with hv | ⟨t, ht, rfl⟩
  · refine sx_kind0 (Or.inl hv) ?_
    refine br_t rfl ?_
    try unfold wpY_attribute
    refine sy_out1 (n := 6) (by omega) hv ?_
    refine br_f nb_10 ?_
    exact ⟨rfl, i_mk hD hT hM hE⟩
  · have vt : vp_in (nI t) 6 := vp_in_nI ht (by omega)
    have ec : (nI t).toNatClampNeg = t := nb_cl (by omega)
    by_cases hs : kindOfType t = 2
    · refine sx_kind1 ht hs ?_
      refine br_f nb_10 ?_
      have Y0 : ∀ {post : Int32 → SY → Prop}, wpY_out (fun r_5 => (r_5 = 0 → wpY_out (fun r_7 => (r_7 = 0 → wpY_out (fun r_9 => (r_9 = 0 → vp_in (4 * nI t + v2) 24 ∧ ∀ a, a = upd attributeUse (4 * nI t + v2).toNatClampNeg (vp_nar .byte v3.toInt8.toInt32) → (vp_in (4 * nI t + v2) 24 ∧ ∀ b, b = upd attributeType (4 * nI t + v2).toNatClampNeg (vp_nar .byte v4.toInt8.toInt32) → post 0 (latestPlace, yroot, yrowLength, yfirst, youts, ytop, ykind, ywith, ysize, kindOfType, listedCount, a, b, leastOf, greatestOf, listedValue, typeOfName, inUse, hasValue, hasAttribute, nameOf, yparent, kids, kidCount, yrow, valueOf, attributeValue, yends, ylack, yshortest, youtKind, youtWith, ywork, yworkWith, yweight, yfollow, yfirsts, ylasts, ybare, ymet, ynameAt, ytokenAt, ytodo))) ∧ (¬ r_9 = 0 → post (-1) (latestPlace, yroot, yrowLength, yfirst, youts, ytop, ykind, ywith, ysize, kindOfType, listedCount, attributeUse, attributeType, leastOf, greatestOf, listedValue, typeOfName, inUse, hasValue, hasAttribute, nameOf, yparent, kids, kidCount, yrow, valueOf, attributeValue, yends, ylack, yshortest, youtKind, youtWith, ywork, yworkWith, yweight, yfollow, yfirsts, ylasts, ybare, ymet, ynameAt, ytokenAt, ytodo))) v4 6) ∧ (¬ r_7 = 0 → post (-1) (latestPlace, yroot, yrowLength, yfirst, youts, ytop, ykind, ywith, ysize, kindOfType, listedCount, attributeUse, attributeType, leastOf, greatestOf, listedValue, typeOfName, inUse, hasValue, hasAttribute, nameOf, yparent, kids, kidCount, yrow, valueOf, attributeValue, yends, ylack, yshortest, youtKind, youtWith, ywork, yworkWith, yweight, yfollow, yfirsts, ylasts, ybare, ymet, ynameAt, ytokenAt, ytodo))) v3 3) ∧ (¬ r_5 = 0 → post (-1) (latestPlace, yroot, yrowLength, yfirst, youts, ytop, ykind, ywith, ysize, kindOfType, listedCount, attributeUse, attributeType, leastOf, greatestOf, listedValue, typeOfName, inUse, hasValue, hasAttribute, nameOf, yparent, kids, kidCount, yrow, valueOf, attributeValue, yends, ylack, yshortest, youtKind, youtWith, ywork, yworkWith, yweight, yfollow, yfirsts, ylasts, ybare, ymet, ynameAt, ytokenAt, ytodo))) v2 4 → wpY_attribute post (latestPlace, yroot, yrowLength, yfirst, youts, ytop, ykind, ywith, ysize, kindOfType, listedCount, attributeUse, attributeType, leastOf, greatestOf, listedValue, typeOfName, inUse, hasValue, hasAttribute, nameOf, yparent, kids, kidCount, yrow, valueOf, attributeValue, yends, ylack, yshortest, youtKind, youtWith, ywork, yworkWith, yweight, yfollow, yfirsts, ylasts, ybare, ymet, ynameAt, ytokenAt, ytodo) (nI t) v2 v3 v4 := by
        intro post h
        try unfold wpY_attribute
        refine sy_out0 (n := 6) (by omega) ht ?_
        refine br_t rfl ?_
        exact ⟨vt, br_t (by rw [ec]; exact hs) h⟩
      rcases nb_ix v2 4 (by omega) with hv2 | ⟨a, ha, rfl⟩
      · refine sx_attr0 hv2 ?_
        refine br_t rfl ?_
        refine Y0 ?_
        refine sy_out1 (n := 4) (by omega) hv2 ?_
        refine br_f nb_10 ?_
        exact ⟨rfl, i_mk hD hT hM hE⟩
      · refine sx_attr1 ha ?_
        refine br_f nb_10 ?_
        rcases nb_ix v3 3 (by omega) with hv3 | ⟨c, hc, rfl⟩
        · have y3 : wpY_attribute (fun r' v' => r' = -1 ∧ i_Rel (k + 5) (nI d, latestPlace, positions, fragments, elementCount, draftKind, draftValue, weights, tokenAt, fragmentBegin, fragmentFirst, fragmentLast, fragmentEmpty, reachedWith, follow, bearing, accepting, kindOfType, leastOf, greatestOf, listedCount, listedValue, attributeUse, attributeType, typeOfName, inUse, nameOf, parentOf, kidCount, kids, hasValue, valueOf, hasAttribute, attributeValue, walked, waiting) v') (latestPlace, yroot, yrowLength, yfirst, youts, ytop, ykind, ywith, ysize, kindOfType, listedCount, attributeUse, attributeType, leastOf, greatestOf, listedValue, typeOfName, inUse, hasValue, hasAttribute, nameOf, yparent, kids, kidCount, yrow, valueOf, attributeValue, yends, ylack, yshortest, youtKind, youtWith, ywork, yworkWith, yweight, yfollow, yfirsts, ylasts, ybare, ymet, ynameAt, ytokenAt, ytodo) (nI t) (nI a) v3 v4 := by
            refine Y0 ?_
            refine sy_out0 (n := 4) (by omega) ha ?_
            refine br_t rfl ?_
            refine sy_out1 (n := 3) (by omega) hv3 ?_
            refine br_f nb_10 ?_
            exact ⟨rfl, i_mk hD hT hM hE⟩
          by_cases h0 : v3 < 0
          · exact br_t h0 y3
          · refine br_f h0 (br_t ?_ y3)
            have h3 := hv3.resolve_left h0
            rw [Int32.lt_iff_toInt_lt]
            rw [Int32.le_iff_toInt_le] at h3
            have a1 : (2 : Int32).toInt = 2 := by decide
            have a2 : (nI 3).toInt = 3 := by decide
            omega
        · refine br_f (nI_pos (by omega)) (br_f (nI_nlt (b := c) (a := 2) (by omega) (by omega)) ?_)
          rcases nb_ix v4 6 (by omega) with hv4 | ⟨s, hs', rfl⟩
          · refine sx_type0 hv4 ?_
            refine br_t rfl ?_
            refine Y0 ?_
            refine sy_out0 (n := 4) (by omega) ha ?_
            refine br_t rfl ?_
            refine sy_out0 (n := 3) (by omega) hc ?_
            refine br_t rfl ?_
            refine sy_out1 (n := 6) (by omega) hv4 ?_
            refine br_f nb_10 ?_
            exact ⟨rfl, i_mk hD hT hM hE⟩
          · refine sx_type1 hs' ?_
            refine br_f nb_10 ?_
            rw [nb_m4]
            have vi : vp_in (nI (4 * t + a)) 24 := vp_in_nI (by omega) (by omega)
            have ei : (nI (4 * t + a)).toNatClampNeg = 4 * t + a := nb_cl (by omega)
            refine ⟨vi, nm_r (by rw [ei]) ⟨vi, nm_r (by rw [ei]) ?_⟩⟩
            refine Y0 ?_
            refine sy_out0 (n := 4) (by omega) ha ?_
            refine br_t rfl ?_
            refine sy_out0 (n := 3) (by omega) hc ?_
            refine br_t rfl ?_
            refine sy_out0 (n := 6) (by omega) hs' ?_
            refine br_t rfl ?_
            rw [nb_4m]
            exact ⟨vi, nm_r (by rw [ei, nb_v8 (by omega)]) ⟨vi, nm_r (by rw [ei, nb_v8 (by omega)]) ⟨rfl, i_mk hD (rl_T_ty (rl_T_us hT hc) hs') hM hE⟩⟩⟩
    · refine sx_kind0 (Or.inr ⟨t, ht, rfl, hs⟩) ?_
      refine br_t rfl ?_
      try unfold wpY_attribute
      refine sy_out0 (n := 6) (by omega) ht ?_
      refine br_t rfl ?_
      exact ⟨vt, br_f (by rw [ec]; exact hs) ⟨rfl, i_mk hD hT hM hE⟩⟩
end
section
/-! ===== element, rename, value, set, child ===== -/
theorem rl_E_nm {ec root : Int32} {iu nm pp ct kc yp : Nat → Int32} {e n : Nat} (h : rl_E ec root iu nm pp ct kc yp) (hn : n < 6) : rl_E ec root iu (upd nm e (nI n)) pp ct kc yp := by
  obtain ⟨h1, h2, h3, po, c, ch, g, rk, a1, a2, a3, a4, a5⟩ := h
  refine ⟨h1, h2, h3, po, c, ch, fun i => if i = e then n else g i, rk, a1, fun i hi => ?_, a3, a4, a5⟩
  unfold upd
  by_cases q : i = e
  · simp only [if_pos q]; exact ⟨trivial, hn⟩
  · simp only [if_neg q]; exact a2 i hi
theorem i_vc_element {k : Nat} {u : SX} {v : SY} (I : i_Rel k u v) (hk : k + 5 ≤ 2560) (v1 : Int32) (v2 : Int32) : wpX_element (fun r u' => wpY_element (fun r' v' => r' = r ∧ i_Rel (k + 5) u' v') v v1 v2) u v1 v2 := by
  refine i_el I (P := fun u v => wpX_element (fun r u' => wpY_element (fun r' v' => r' = r ∧ i_Rel (k + 5) u' v') v v1 v2) u v1 v2) ?_
  intro d latestPlace positions fragments elementCount draftKind draftValue weights tokenAt fragmentBegin fragmentFirst fragmentLast fragmentEmpty reachedWith follow bearing accepting kindOfType leastOf greatestOf listedCount listedValue attributeUse attributeType typeOfName inUse nameOf parentOf kidCount kids hasValue valueOf hasAttribute attributeValue walked waiting yroot yrowLength yfirst youts ytop ykind ywith ysize yparent yrow yends ylack yshortest youtKind youtWith ywork yworkWith yweight yfollow yfirsts ylasts ybare ymet ynameAt ytokenAt ytodo hD hT hM hE
  unfold wpX_element
  rcases nb_ix v1 6 (by omega) with hv | ⟨t, ht, rfl⟩
  · refine sx_name0 hv ?_
    refine br_t rfl ?_
    try unfold wpY_element
    refine sy_out1 (n := 6) (by omega) hv ?_
    refine br_f nb_10 ?_
    exact ⟨rfl, i_mk hD hT hM hE⟩
  · have vt : vp_in (nI t) 6 := vp_in_nI ht (by omega)
    have ec : (nI t).toNatClampNeg = t := nb_cl (by omega)
    refine sx_name1 ht ?_
    refine br_f nb_10 ?_
    by_cases hm : v2 = -1
    · subst hm
      refine br_t rfl ⟨vt, nm_r (by rw [ec]) ?_⟩
      try unfold wpY_element
      refine sy_out0 (n := 6) (by omega) ht ?_
      refine br_t rfl ?_
      refine br_f (by decide) ?_
      refine br_t (by decide) ?_
      exact ⟨vt, nm_r (by rw [ec, nb_m8]) ⟨rfl, i_mk hD (rl_T_tn hT (Or.inl rfl)) hM hE⟩⟩
    · refine br_f hm ?_
      rcases nb_ix v2 6 (by omega) with hv2 | ⟨s, hs, rfl⟩
      · refine sx_type0 hv2 ?_
        refine br_t rfl ?_
        try unfold wpY_element
        refine sy_out0 (n := 6) (by omega) ht ?_
        refine br_t rfl ?_
        by_cases h0 : v2 < -1
        · exact br_t h0 ⟨rfl, i_mk hD hT hM hE⟩
        · refine br_f h0 (br_f ?_ ⟨rfl, i_mk hD hT hM hE⟩)
          have a1 : (-1 : Int32).toInt = -1 := by decide
          have a2 : (5 : Int32).toInt = 5 := by decide
          have a3 : (0 : Int32).toInt = 0 := by decide
          have a4 : (nI 6).toInt = 6 := by decide
          rw [Int32.le_iff_toInt_le]
          rw [Int32.lt_iff_toInt_lt] at h0
          rw [Int32.lt_iff_toInt_lt, Int32.le_iff_toInt_le] at hv2
          have hm' : v2.toInt ≠ -1 := fun e => hm (Int32.toInt_inj.mp (e.trans a1.symm))
          omega
      · refine sx_type1 hs ?_
        refine br_f nb_10 ?_
        refine ⟨vt, nm_r (by rw [ec]) ?_⟩
        try unfold wpY_element
        refine sy_out0 (n := 6) (by omega) ht ?_
        refine br_t rfl ?_
        refine br_f ?_ (br_t (nI_le (b := 5) (by omega) (by decide)) ⟨vt, nm_r (by rw [ec, nb_v8 (by omega)]) ⟨rfl, i_mk hD (rl_T_tn hT (Or.inr ⟨s, hs, rfl⟩)) hM hE⟩⟩)
        have a1 : (-1 : Int32).toInt = -1 := by decide
        rw [Int32.lt_iff_toInt_lt, nI_toInt (by omega)]
        omega
theorem i_vc_rename {k : Nat} {u : SX} {v : SY} (I : i_Rel k u v) (hk : k + 5 ≤ 2560) (v1 : Int32) (v2 : Int32) : wpX_rename (fun r u' => wpY_rename (fun r' v' => r' = r ∧ i_Rel (k + 5) u' v') v v1 v2) u v1 v2 := by
  refine i_el I (P := fun u v => wpX_rename (fun r u' => wpY_rename (fun r' v' => r' = r ∧ i_Rel (k + 5) u' v') v v1 v2) u v1 v2) ?_
  intro d latestPlace positions fragments elementCount draftKind draftValue weights tokenAt fragmentBegin fragmentFirst fragmentLast fragmentEmpty reachedWith follow bearing accepting kindOfType leastOf greatestOf listedCount listedValue attributeUse attributeType typeOfName inUse nameOf parentOf kidCount kids hasValue valueOf hasAttribute attributeValue walked waiting yroot yrowLength yfirst youts ytop ykind ywith ysize yparent yrow yends ylack yshortest youtKind youtWith ywork yworkWith yweight yfollow yfirsts ylasts ybare ymet ynameAt ytokenAt ytodo hD hT hM hE
  unfold wpX_rename
  rcases el_cs inUse v1 with hv | ⟨e, he, rfl, hu⟩
  · refine sx_elem0 hv ?_
    refine br_t rfl ?_
    try unfold wpY_rename
    refine sy_no1 hv ?_
    refine br_f nb_10 ?_
    exact ⟨rfl, i_mk hD hT hM hE⟩
  · have ve : vp_in (nI e) 24 := vp_in_nI he (by omega)
    have ec : (nI e).toNatClampNeg = e := nb_cl (by omega)
    refine sx_elem1 he hu ?_
    refine br_f nb_10 ?_
    rcases nb_ix v2 6 (by omega) with hv2 | ⟨n, hn, rfl⟩
    · refine sx_name0 hv2 ?_
      refine br_t rfl ?_
      try unfold wpY_rename
      refine sy_no0 he hu ?_
      refine br_t rfl ?_
      refine sy_out1 (n := 6) (by omega) hv2 ?_
      refine br_f nb_10 ?_
      exact ⟨rfl, i_mk hD hT hM hE⟩
    · refine sx_name1 hn ?_
      refine br_f nb_10 ?_
      refine ⟨ve, nm_r (by rw [ec]) ?_⟩
      try unfold wpY_rename
      refine sy_no0 he hu ?_
      refine br_t rfl ?_
      refine sy_out0 (n := 6) (by omega) hn ?_
      exact br_t rfl ⟨ve, nm_r (by rw [ec, nb_v8 (by omega)]) ⟨rfl, i_mk hD hT hM (rl_E_nm hE hn)⟩⟩
theorem i_vc_value {k : Nat} {u : SX} {v : SY} (I : i_Rel k u v) (hk : k + 5 ≤ 2560) (v1 : Int32) (v2 : Int32) (v3 : Int32) : wpX_value (fun r u' => wpY_value (fun r' v' => r' = r ∧ i_Rel (k + 5) u' v') v v1 (lw_bz v2) v3) u v1 (lw_bz v2) v3 := by
  refine i_el I (P := fun u v => wpX_value (fun r u' => wpY_value (fun r' v' => r' = r ∧ i_Rel (k + 5) u' v') v v1 (lw_bz v2) v3) u v1 (lw_bz v2) v3) ?_
  intro d latestPlace positions fragments elementCount draftKind draftValue weights tokenAt fragmentBegin fragmentFirst fragmentLast fragmentEmpty reachedWith follow bearing accepting kindOfType leastOf greatestOf listedCount listedValue attributeUse attributeType typeOfName inUse nameOf parentOf kidCount kids hasValue valueOf hasAttribute attributeValue walked waiting yroot yrowLength yfirst youts ytop ykind ywith ysize yparent yrow yends ylack yshortest youtKind youtWith ywork yworkWith yweight yfollow yfirsts ylasts ybare ymet ynameAt ytokenAt ytodo hD hT hM hE
  unfold wpX_value
  rcases el_cs inUse v1 with hv | ⟨e, he, rfl, hu⟩
  · refine sx_elem0 hv ?_
    refine br_t rfl ?_
    try unfold wpY_value
    refine sy_no1 hv ?_
    refine br_f nb_10 ?_
    exact ⟨rfl, i_mk hD hT hM hE⟩
  · have ve : vp_in (nI e) 24 := vp_in_nI he (by omega)
    have ec : (nI e).toNatClampNeg = e := nb_cl (by omega)
    refine sx_elem1 he hu ?_
    refine br_f nb_10 ?_
    refine ⟨ve, nm_e ⟨ve, nm_e ?_⟩⟩
    try unfold wpY_value
    refine sy_no0 he hu ?_
    exact br_t rfl ⟨ve, nm_e ⟨ve, nm_e ⟨rfl, i_mk hD hT hM hE⟩⟩⟩
theorem i_vc_set {k : Nat} {u : SX} {v : SY} (I : i_Rel k u v) (hk : k + 5 ≤ 2560) (v1 : Int32) (v2 : Int32) (v3 : Int32) (v4 : Int32) : wpX_set (fun r u' => wpY_set (fun r' v' => r' = r ∧ i_Rel (k + 5) u' v') v v1 v2 (lw_bz v3) v4) u v1 v2 (lw_bz v3) v4 := by
  refine i_el I (P := fun u v => wpX_set (fun r u' => wpY_set (fun r' v' => r' = r ∧ i_Rel (k + 5) u' v') v v1 v2 (lw_bz v3) v4) u v1 v2 (lw_bz v3) v4) ?_
  intro d latestPlace positions fragments elementCount draftKind draftValue weights tokenAt fragmentBegin fragmentFirst fragmentLast fragmentEmpty reachedWith follow bearing accepting kindOfType leastOf greatestOf listedCount listedValue attributeUse attributeType typeOfName inUse nameOf parentOf kidCount kids hasValue valueOf hasAttribute attributeValue walked waiting yroot yrowLength yfirst youts ytop ykind ywith ysize yparent yrow yends ylack yshortest youtKind youtWith ywork yworkWith yweight yfollow yfirsts ylasts ybare ymet ynameAt ytokenAt ytodo hD hT hM hE
  unfold wpX_set
  rcases el_cs inUse v1 with hv | ⟨e, he, rfl, hu⟩
  · refine sx_elem0 hv ?_
    refine br_t rfl ?_
    try unfold wpY_set
    refine sy_no1 hv ?_
    refine br_f nb_10 ?_
    exact ⟨rfl, i_mk hD hT hM hE⟩
  · refine sx_elem1 he hu ?_
    refine br_f nb_10 ?_
    rcases nb_ix v2 4 (by omega) with hv2 | ⟨a, ha, rfl⟩
    · refine sx_attr0 hv2 ?_
      refine br_t rfl ?_
      try unfold wpY_set
      refine sy_no0 he hu ?_
      refine br_t rfl ?_
      refine sy_out1 (n := 4) (by omega) hv2 ?_
      refine br_f nb_10 ?_
      exact ⟨rfl, i_mk hD hT hM hE⟩
    · refine sx_attr1 ha ?_
      refine br_f nb_10 ?_
      rw [nb_m4]
      have vi : vp_in (nI (4 * e + a)) 96 := vp_in_nI (by omega) (by omega)
      refine ⟨vi, nm_e ⟨vi, nm_e ?_⟩⟩
      try unfold wpY_set
      refine sy_no0 he hu ?_
      refine br_t rfl ?_
      refine sy_out0 (n := 4) (by omega) ha ?_
      refine br_t rfl ?_
      rw [nb_4m]
      exact ⟨vi, nm_e ⟨vi, nm_e ⟨rfl, i_mk hD hT hM hE⟩⟩⟩
theorem i_vc_child {k : Nat} {u : SX} {v : SY} (I : i_Rel k u v) (hk : k + 5 ≤ 2560) (v1 : Int32) (v2 : Int32) : wpX_child (fun r => wpY_child (fun r' => r' = r ∧ i_Rel (k + 5) u v) v v1 v2) u v1 v2 := by
  refine i_el I (P := fun u v => wpX_child (fun r => wpY_child (fun r' => r' = r ∧ i_Rel (k + 5) u v) v v1 v2) u v1 v2) ?_
  intro d latestPlace positions fragments elementCount draftKind draftValue weights tokenAt fragmentBegin fragmentFirst fragmentLast fragmentEmpty reachedWith follow bearing accepting kindOfType leastOf greatestOf listedCount listedValue attributeUse attributeType typeOfName inUse nameOf parentOf kidCount kids hasValue valueOf hasAttribute attributeValue walked waiting yroot yrowLength yfirst youts ytop ykind ywith ysize yparent yrow yends ylack yshortest youtKind youtWith ywork yworkWith yweight yfollow yfirsts ylasts ybare ymet ynameAt ytokenAt ytodo hD hT hM hE
  unfold wpX_child
  have I' : i_Rel (k + 5) (nI d, latestPlace, positions, fragments, elementCount, draftKind, draftValue, weights, tokenAt, fragmentBegin, fragmentFirst, fragmentLast, fragmentEmpty, reachedWith, follow, bearing, accepting, kindOfType, leastOf, greatestOf, listedCount, listedValue, attributeUse, attributeType, typeOfName, inUse, nameOf, parentOf, kidCount, kids, hasValue, valueOf, hasAttribute, attributeValue, walked, waiting) (latestPlace, yroot, yrowLength, yfirst, youts, ytop, ykind, ywith, ysize, kindOfType, listedCount, attributeUse, attributeType, leastOf, greatestOf, listedValue, typeOfName, inUse, hasValue, hasAttribute, nameOf, yparent, kids, kidCount, yrow, valueOf, attributeValue, yends, ylack, yshortest, youtKind, youtWith, ywork, yworkWith, yweight, yfollow, yfirsts, ylasts, ybare, ymet, ynameAt, ytokenAt, ytodo) := i_mk hD hT hM hE
  rcases el_cs inUse v1 with hv | ⟨e, he, rfl, hu⟩
  · refine sx_elem0 hv ?_
    refine br_t rfl ?_
    try unfold wpY_child
    refine sy_no1 hv ?_
    refine br_f nb_10 ?_
    exact ⟨rfl, I'⟩
  · have ve : vp_in (nI e) 24 := vp_in_nI he (by omega)
    have ec : (nI e).toNatClampNeg = e := nb_cl (by omega)
    obtain ⟨_, _, _, po, c, ch, g, rk, a1, a2, a3, a4, a5⟩ := hE
    have h23 := tr_F_c a5.1 hu
    have em : kidCount (nI e).toNatClampNeg = nI (c e) := by rw [ec]; exact (a3 e he hu).1
    refine sx_elem1 he hu ?_
    refine br_f nb_10 ?_
    rcases nb_ix v2 (c e) (by omega) with hv2 | ⟨i, hi, rfl⟩
    · have y : wpY_child (fun r' => r' = -1 ∧ i_Rel (k + 5) (nI d, latestPlace, positions, fragments, elementCount, draftKind, draftValue, weights, tokenAt, fragmentBegin, fragmentFirst, fragmentLast, fragmentEmpty, reachedWith, follow, bearing, accepting, kindOfType, leastOf, greatestOf, listedCount, listedValue, attributeUse, attributeType, typeOfName, inUse, nameOf, parentOf, kidCount, kids, hasValue, valueOf, hasAttribute, attributeValue, walked, waiting) (latestPlace, yroot, yrowLength, yfirst, youts, ytop, ykind, ywith, ysize, kindOfType, listedCount, attributeUse, attributeType, leastOf, greatestOf, listedValue, typeOfName, inUse, hasValue, hasAttribute, nameOf, yparent, kids, kidCount, yrow, valueOf, attributeValue, yends, ylack, yshortest, youtKind, youtWith, ywork, yworkWith, yweight, yfollow, yfirsts, ylasts, ybare, ymet, ynameAt, ytokenAt, ytodo)) (latestPlace, yroot, yrowLength, yfirst, youts, ytop, ykind, ywith, ysize, kindOfType, listedCount, attributeUse, attributeType, leastOf, greatestOf, listedValue, typeOfName, inUse, hasValue, hasAttribute, nameOf, yparent, kids, kidCount, yrow, valueOf, attributeValue, yends, ylack, yshortest, youtKind, youtWith, ywork, yworkWith, yweight, yfollow, yfirsts, ylasts, ybare, ymet, ynameAt, ytokenAt, ytodo) (nI e) v2 := by
        try unfold wpY_child
        refine sy_no0 he hu ?_
        refine br_t rfl ?_
        refine ⟨ve, ?_⟩
        rw [em]
        try unfold wpY_child
        refine sy_out1 (by omega) hv2 ?_
        refine br_f nb_10 ?_
        exact ⟨rfl, I'⟩
      by_cases h0 : v2 < 0
      · exact br_t h0 y
      · exact br_f h0 ⟨ve, br_t (by rw [em]; exact hv2.resolve_left h0) y⟩
    · refine br_f (nI_pos (by omega)) ⟨ve, br_f (by rw [em]; exact nI_ge hi (by omega)) ?_⟩
      rw [nb_m24]
      refine ⟨vp_in_nI (by omega) (by omega), ?_⟩
      try unfold wpY_child
      refine sy_no0 he hu ?_
      refine br_t rfl ⟨ve, ?_⟩
      rw [em]
      try unfold wpY_child
      refine sy_out0 (by omega) hi ?_
      refine br_t rfl ?_
      rw [nb_24m]
      exact ⟨vp_in_nI (by omega) (by omega), rfl, I'⟩
theorem i_vc0 : wpX_init (fun u => wpY_init (fun v => i_Rel 0 u v)) := by
  refine ⟨7, br_f (by decide) ⟨vp_in_iff.mpr (by decide), nm_e (nm_e (br_f (by decide) ⟨vp_in_iff.mpr (by decide), nm_e (nm_e (br_f (by decide) ⟨vp_in_iff.mpr (by decide), nm_e (nm_e (br_f (by decide) ⟨vp_in_iff.mpr (by decide), nm_e (nm_e (br_f (by decide) ⟨vp_in_iff.mpr (by decide), nm_e (nm_e (br_f (by decide) ⟨vp_in_iff.mpr (by decide), nm_e (nm_e (br_t (by decide) ?_))⟩))⟩))⟩))⟩))⟩))⟩⟩
  refine ⟨7, br_f (by decide) ⟨vp_in_iff.mpr (by decide), nm_r (by rw [nb_m1]) (nm_e (br_f (by decide) ⟨vp_in_iff.mpr (by decide), nm_r (by rw [nb_m1]) (nm_e (br_f (by decide) ⟨vp_in_iff.mpr (by decide), nm_r (by rw [nb_m1]) (nm_e (br_f (by decide) ⟨vp_in_iff.mpr (by decide), nm_r (by rw [nb_m1]) (nm_e (br_f (by decide) ⟨vp_in_iff.mpr (by decide), nm_r (by rw [nb_m1]) (nm_e (br_f (by decide) ⟨vp_in_iff.mpr (by decide), nm_r (by rw [nb_m1]) (nm_e (br_t (by decide) ?_))⟩))⟩))⟩))⟩))⟩))⟩⟩
  refine i_mk (d := 0) ⟨by omega, rfl, fun _ => 0, fun _ => 0, fun i hi => by omega, fun i hi => by omega⟩ ⟨fun t _ => ⟨0, by omega, rfl⟩, fun t _ => ⟨0, by omega, rfl⟩, fun j _ => ⟨⟨0, by omega, rfl⟩, ⟨0, by omega, rfl⟩⟩, fun n hn => Or.inl ?_⟩ (fun t _ h => absurd h (by decide)) ⟨rfl, rfl, fun j _ => nb_0, fun _ => none, fun _ => 0, fun _ _ => 0, fun _ => 0, fun _ => 0, fun _ => Or.inl rfl, fun e _ => ⟨rfl, (by decide : 0 < 6)⟩, fun e _ h => absurd rfl h, fun e k _ h => absurd rfl h, ⟨fun e h => absurd rfl h, fun p k h => absurd rfl h, fun p i j h => absurd rfl h⟩, fun e h => absurd rfl h, fun e h => absurd rfl h, fun h => absurd rfl h⟩
  have hc : n = 0 ∨ n = 1 ∨ n = 2 ∨ n = 3 ∨ n = 4 ∨ n = 5 := by omega
  rcases hc with rfl | rfl | rfl | rfl | rfl | rfl <;> decide +kernel
end
section
/-! ===== edits of the tree ===== -/
def ft_u {α : Type} (h : Nat → α) (k : Nat) (v : α) : Nat → α := fun x => if x = k then v else h x
theorem ft_s {α : Type} {h : Nat → α} {k : Nat} {v : α} : ft_u h k v k = v := if_pos rfl
theorem ft_n {α : Type} {h : Nat → α} {k : Nat} {v : α} {x : Nat} (q : x ≠ k) : ft_u h k v x = h x := if_neg q
def tr_dc (c : Nat → Nat) (q : Nat) : Nat → Nat := fun x => if x = q then c q - 1 else c x
def tr_dk (ch : Nat → Nat → Nat) (q s : Nat) : Nat → Nat → Nat := fun x i => if x = q ∧ s ≤ i then ch q (i + 1) else ch x i
def tr_ic (c : Nat → Nat) (p : Nat) : Nat → Nat := fun x => if x = p then c p + 1 else c x
def tr_ik (ch : Nat → Nat → Nat) (p k e : Nat) : Nat → Nat → Nat := fun x i => if x = p then (if i < k then ch p i else if i = k then e else ch p (i - 1)) else ch x i
/-- a kid of the new row is one of the old row, at the same place or the next -/
theorem tr_dk_at {ch : Nat → Nat → Nat} {c : Nat → Nat} {q s x i : Nat} (hi : i < tr_dc c q x) : ∃ j, j < c x ∧ tr_dk ch q s x i = ch x j ∧ ((x ≠ q ∧ j = i) ∨ (x = q ∧ i < s ∧ j = i) ∨ (x = q ∧ s ≤ i ∧ j = i + 1)) := by
  unfold tr_dc at hi
  unfold tr_dk
  by_cases e : x = q
  · rw [if_pos e] at hi
    by_cases hs : s ≤ i
    · rw [if_pos ⟨e, hs⟩, e]; exact ⟨i + 1, by omega, rfl, Or.inr (Or.inr ⟨rfl, hs, rfl⟩)⟩
    · rw [if_neg (fun h => hs h.2)]; exact ⟨i, by rw [e]; omega, rfl, Or.inr (Or.inl ⟨e, by omega, rfl⟩)⟩
  · rw [if_neg e] at hi
    rw [if_neg (fun h => e h.1)]
    exact ⟨i, hi, rfl, Or.inl ⟨e, rfl⟩⟩
theorem tr_del {us : Nat → Prop} {po : Nat → Option Nat} {c : Nat → Nat} {ch : Nat → Nat → Nat} {rk : Nat → Nat} {q s : Nat} (hF : tr_F us po c ch rk) : tr_F us po (tr_dc c q) (tr_dk ch q s) rk := by
  obtain ⟨f1, f2, f3⟩ := hF
  refine ⟨f1, fun p k hp hk => ?_, fun p i j hp hi hj h => ?_⟩
  · obtain ⟨j, hj, e, _⟩ := tr_dk_at (ch := ch) (s := s) hk
    rw [e]
    exact f2 p j hp hj
  · obtain ⟨a, ha, ea, oa⟩ := tr_dk_at (ch := ch) (s := s) hi
    obtain ⟨b, hb, eb, ob⟩ := tr_dk_at (ch := ch) (s := s) hj
    rw [ea, eb] at h
    have := f3 p a b hp ha hb h
    omega
/-- e was at place s: it is nobody's kid now -/
theorem tr_del_no {us : Nat → Prop} {po : Nat → Option Nat} {c : Nat → Nat} {ch : Nat → Nat → Nat} {rk : Nat → Nat} {q s e : Nat} (hF : tr_F us po c ch rk) (hq : us q) (hs : s < c q) (he : ch q s = e) : ∀ x i, us x → i < tr_dc c q x → tr_dk ch q s x i ≠ e := by
  obtain ⟨f1, f2, f3⟩ := hF
  intro x i hx hi h
  obtain ⟨j, hj, ej, oj⟩ := tr_dk_at (ch := ch) (s := s) hi
  rw [ej] at h
  have h1 := (f2 x j hx hj).2.1
  have h2 := (f2 q s hq hs).2.1
  rw [h] at h1
  rw [he, h1] at h2
  have hxq : x = q := Option.some.inj h2
  rw [hxq] at h hj
  have := f3 q j s hq hj hs (h.trans he.symm)
  omega
def tr_PK (us : Nat → Prop) (po : Nat → Option Nat) (c : Nat → Nat) (ch : Nat → Nat → Nat) (x : Nat) : Prop := ∃ p k, po x = some p ∧ us p ∧ k < c p ∧ ch p k = x
theorem tr_PK_del {us : Nat → Prop} {po : Nat → Option Nat} {c : Nat → Nat} {ch : Nat → Nat → Nat} {q s e x : Nat} (hs : s < c q) (he : ch q s = e) (hx : x ≠ e) (h : tr_PK us po c ch x) : tr_PK us po (tr_dc c q) (tr_dk ch q s) x := by
  obtain ⟨p, k, h1, h2, h3, h4⟩ := h
  by_cases e1 : p = q
  · subst e1
    have hks : k ≠ s := by
      intro e2
      rw [e2, he] at h4
      exact hx h4.symm
    by_cases hlt : k < s
    · refine ⟨p, k, h1, h2, by unfold tr_dc; rw [if_pos rfl]; omega, ?_⟩
      unfold tr_dk
      rw [if_neg (fun h => by omega)]
      exact h4
    · refine ⟨p, k - 1, h1, h2, by unfold tr_dc; rw [if_pos rfl]; omega, ?_⟩
      unfold tr_dk
      rw [if_pos ⟨rfl, by omega⟩, show k - 1 + 1 = k by omega]
      exact h4
  · refine ⟨p, k, h1, h2, by unfold tr_dc; rw [if_neg e1]; exact h3, ?_⟩
    unfold tr_dk
    rw [if_neg (fun h => e1 h.1)]
    exact h4
theorem tr_ik_at {ch : Nat → Nat → Nat} {c : Nat → Nat} {p k e x i : Nat} (hk : k ≤ c p) (hi : i < tr_ic c p x) : (x = p ∧ i = k ∧ tr_ik ch p k e x i = e) ∨ ∃ j, j < c x ∧ tr_ik ch p k e x i = ch x j ∧ ((x ≠ p ∧ j = i) ∨ (x = p ∧ i < k ∧ j = i) ∨ (x = p ∧ k < i ∧ i = j + 1)) := by
  unfold tr_ic at hi
  unfold tr_ik
  by_cases h : x = p
  · rw [if_pos h] at hi
    rw [if_pos h]
    by_cases h1 : i < k
    · rw [if_pos h1]; exact Or.inr ⟨i, by rw [h]; omega, by rw [h], Or.inr (Or.inl ⟨h, h1, rfl⟩)⟩
    · rw [if_neg h1]
      by_cases h2 : i = k
      · rw [if_pos h2]; exact Or.inl ⟨h, h2, rfl⟩
      · rw [if_neg h2]; exact Or.inr ⟨i - 1, by rw [h]; omega, by rw [h], Or.inr (Or.inr ⟨h, by omega, by omega⟩)⟩
  · rw [if_neg h] at hi
    rw [if_neg h]
    exact Or.inr ⟨i, hi, rfl, Or.inl ⟨h, rfl⟩⟩
theorem tr_ins {us us' : Nat → Prop} {po po' : Nat → Option Nat} {c : Nat → Nat} {ch : Nat → Nat → Nat} {rk rk' : Nat → Nat} {p e k : Nat} (hF : tr_F us po c ch rk) (hp : us p) (he : e < 24) (hne : ∀ x i, us x → i < c x → ch x i ≠ e) (hus : ∀ x, us' x ↔ us x ∨ x = e) (hpo : ∀ x, x ≠ e → po' x = po x) (hpe : po' e = some p) (hk : k ≤ c p) (hce : ¬ us e → c e = 0) (hep : e ≠ p) (hrk : ∀ x i, us x → i < c x → rk' x < rk' (ch x i)) (hrp : rk' p < rk' e) : tr_F us' po' (tr_ic c p) (tr_ik ch p k e) rk' := by
  obtain ⟨f1, f2, f3⟩ := hF
  have old : ∀ x, us' x → ∀ j, j < c x → us x := by
    intro x hx j hj
    rcases (hus x).mp hx with h | h
    · exact h
    · by_cases hu : us e
      · rw [h]; exact hu
      · rw [h, hce hu] at hj; omega
  refine ⟨fun x hx => ?_, fun x i hx hi => ?_, fun x i j hx hi hj h => ?_⟩
  · rcases (hus x).mp hx with h | h
    · exact f1 x h
    · rw [h]; exact he
  · rcases tr_ik_at (ch := ch) (e := e) hk hi with ⟨h1, h2, h3⟩ | ⟨j, hj, h3, _⟩
    · rw [h3, h1]
      exact ⟨(hus e).mpr (Or.inr rfl), hpe, hrp⟩
    · rw [h3]
      have ux := old x hx j hj
      obtain ⟨g1, g2, g3⟩ := f2 x j ux hj
      exact ⟨(hus _).mpr (Or.inl g1), by rw [hpo _ (hne x j ux hj)]; exact g2, hrk x j ux hj⟩
  · rcases tr_ik_at (ch := ch) (e := e) hk hi with ⟨h1, h2, h3⟩ | ⟨a, ha, h3, oa⟩
    · rcases tr_ik_at (ch := ch) (e := e) hk hj with ⟨g1, g2, g3⟩ | ⟨b, hb, g3, ob⟩
      · omega
      · rw [h3, g3] at h
        exact absurd h.symm (hne x b (old x hx b hb) hb)
    · rcases tr_ik_at (ch := ch) (e := e) hk hj with ⟨g1, g2, g3⟩ | ⟨b, hb, g3, ob⟩
      · rw [h3, g3] at h
        exact absurd h (hne x a (old x hx a ha) ha)
      · rw [h3, g3] at h
        have := f3 x a b (old x hx a ha) ha hb h
        omega
theorem tr_PK_ins {us us' : Nat → Prop} {po po' : Nat → Option Nat} {c : Nat → Nat} {ch : Nat → Nat → Nat} {p e k x : Nat} (hus : ∀ x, us x → us' x) (hpo : po' x = po x) (hk : k ≤ c p) (h : tr_PK us po c ch x) : tr_PK us' po' (tr_ic c p) (tr_ik ch p k e) x := by
  obtain ⟨q, i, h1, h2, h3, h4⟩ := h
  by_cases e1 : q = p
  · subst e1
    by_cases hlt : i < k
    · refine ⟨q, i, by rw [hpo]; exact h1, hus q h2, by unfold tr_ic; rw [if_pos rfl]; omega, ?_⟩
      unfold tr_ik
      rw [if_pos rfl, if_pos hlt]
      exact h4
    · refine ⟨q, i + 1, by rw [hpo]; exact h1, hus q h2, by unfold tr_ic; rw [if_pos rfl]; omega, ?_⟩
      unfold tr_ik
      rw [if_pos rfl, if_neg (by omega), if_neg (by omega), show i + 1 - 1 = i by omega]
      exact h4
  · refine ⟨q, i, by rw [hpo]; exact h1, hus q h2, by unfold tr_ic; rw [if_neg e1]; exact h3, ?_⟩
    unfold tr_ik
    rw [if_neg e1]
    exact h4
theorem tr_PK_e {us' : Nat → Prop} {po' : Nat → Option Nat} {c : Nat → Nat} {ch : Nat → Nat → Nat} {p e k : Nat} (hp : us' p) (hpe : po' e = some p) (hk : k ≤ c p) : tr_PK us' po' (tr_ic c p) (tr_ik ch p k e) e := by
  refine ⟨p, k, hpe, hp, by unfold tr_ic; rw [if_pos rfl]; omega, ?_⟩
  unfold tr_ik
  rw [if_pos rfl, if_neg (by omega), if_pos rfl]
/-- the rows of kids as they are written -/
def kp_sh (kc : Nat → Int32) (p c i : Nat) : Nat → Int32 := fun j => if 24 * p + i < j ∧ j ≤ 24 * p + c then kc (j - 1) else kc j
def kp_ins (kc : Nat → Int32) (p c k : Nat) (x : Int32) : Nat → Int32 := upd (kp_sh kc p c k) (24 * p + k) x
def kp_del (kc : Nat → Int32) (p s i : Nat) : Nat → Int32 := fun j => if 24 * p + s ≤ j ∧ j + 1 < 24 * p + i then kc (j + 1) else kc j
theorem kp_sh_c (kc : Nat → Int32) (p c : Nat) : kp_sh kc p c c = kc := by
  funext j
  unfold kp_sh
  rw [if_neg (by omega)]
theorem kp_sh_s {kc : Nat → Int32} {p c i : Nat} (h : i + 1 ≤ c) : upd (kp_sh kc p c (i + 1)) (24 * p + (i + 1)) (kp_sh kc p c (i + 1) (24 * p + i)) = kp_sh kc p c i := by
  funext j
  unfold upd
  by_cases e : j = 24 * p + (i + 1)
  · rw [if_pos e]
    unfold kp_sh
    rw [if_neg (by omega), if_pos (by omega), e, show 24 * p + (i + 1) - 1 = 24 * p + i by omega]
  · rw [if_neg e]
    unfold kp_sh
    by_cases h2 : 24 * p + (i + 1) < j ∧ j ≤ 24 * p + c
    · rw [if_pos h2, if_pos (by omega)]
    · rw [if_neg h2, if_neg (by omega)]
theorem kp_del_0 {kc : Nat → Int32} {p s i : Nat} (h : i ≤ s + 1) : kp_del kc p s i = kc := by
  funext j
  unfold kp_del
  rw [if_neg (by omega)]
theorem kp_del_s {kc : Nat → Int32} {p s i : Nat} (h : s < i) : upd (kp_del kc p s i) (24 * p + (i - 1)) (kc (24 * p + i)) = kp_del kc p s (i + 1) := by
  funext j
  unfold upd
  by_cases e : j = 24 * p + (i - 1)
  · rw [if_pos e]
    unfold kp_del
    rw [if_pos (by omega), e, show 24 * p + (i - 1) + 1 = 24 * p + i by omega]
  · rw [if_neg e]
    unfold kp_del
    by_cases h2 : 24 * p + s ≤ j ∧ j + 1 < 24 * p + i
    · rw [if_pos h2, if_pos (by omega)]
    · rw [if_neg h2, if_neg (by omega)]
theorem kp_id (kc : Nat → Int32) (j : Nat) : upd kc j (kc j) = kc := by
  funext i
  unfold upd
  by_cases e : i = j
  · rw [if_pos e, e]
  · rw [if_neg e]
/-- the written rows hold the edited kids -/
theorem kp_ins_ok {kc : Nat → Int32} {iu : Nat → Int32} {iu' : Nat → Int32} {c : Nat → Nat} {ch : Nat → Nat → Nat} {p k e : Nat} (h : ∀ x i, x < 24 → iu x ≠ 0 → i < c x → kc (24 * x + i) = nI (ch x i)) (hc : c p ≤ 23) (hk : k ≤ c p) (hu : ∀ x, x < 24 → iu' x ≠ 0 → iu x ≠ 0 ∨ c x = 0) (hc24 : ∀ x, x < 24 → iu' x ≠ 0 → c x ≤ 23) (hp : p < 24) (hep : e ≠ p) : ∀ x i, x < 24 → iu' x ≠ 0 → i < tr_ic c p x → kp_ins kc p (c p) k (nI e) (24 * x + i) = nI (tr_ik ch p k e x i) := by
  intro x i hx hux hi
  have h24 := hc24 x hx hux
  rcases tr_ik_at (ch := ch) (e := e) hk hi with ⟨h1, h2, h3⟩ | ⟨j, hj, h3, oj⟩
  · rw [h3, h1, h2]
    unfold kp_ins upd
    rw [if_pos rfl]
  · have hold : iu x ≠ 0 := (hu x hx hux).resolve_right (by omega)
    rw [h3, ← h x j hx hold hj]
    unfold kp_ins upd kp_sh
    rcases oj with ⟨o1, o2⟩ | ⟨o1, o2, o3⟩ | ⟨o1, o2, o3⟩
    · have hi' : i ≤ 23 := by omega
      rw [if_neg (by omega), if_neg (by omega), o2]
    · rw [o1, if_neg (by omega), if_neg (by omega), o3]
    · rw [o1, if_neg (by omega), if_pos (by rw [o1] at hj; omega), show 24 * p + i - 1 = 24 * p + j by omega]
theorem kp_del_ok {kc : Nat → Int32} {iu : Nat → Int32} {c : Nat → Nat} {ch : Nat → Nat → Nat} {q s : Nat} (h : ∀ x i, x < 24 → iu x ≠ 0 → i < c x → kc (24 * x + i) = nI (ch x i)) (hc24 : ∀ x, x < 24 → iu x ≠ 0 → c x ≤ 23) (hq : q < 24) (huq : iu q ≠ 0) : ∀ x i, x < 24 → iu x ≠ 0 → i < tr_dc c q x → kp_del kc q s (c q) (24 * x + i) = nI (tr_dk ch q s x i) := by
  intro x i hx hux hi
  have h24 := hc24 x hx hux
  have h24q := hc24 q hq huq
  obtain ⟨j, hj, h3, oj⟩ := tr_dk_at (ch := ch) (s := s) hi
  rw [h3, ← h x j hx hux hj]
  unfold kp_del
  rcases oj with ⟨o1, o2⟩ | ⟨o1, o2, o3⟩ | ⟨o1, o2, o3⟩
  · rw [if_neg (by omega), o2]
  · rw [o1, if_neg (by omega), o3]
  · rw [o1] at hj
    rw [o1, if_pos (by omega), o3]
    rfl
theorem kp_ins_b {kc : Nat → Int32} {p c k : Nat} {x : Int32} (h : ∀ j, j < 600 → vp_nar .byte (kc j) = kc j) (hx : vp_nar .byte x = x) : ∀ j, j < 600 → vp_nar .byte (kp_ins kc p c k x j) = kp_ins kc p c k x j := by
  intro j hj
  unfold kp_ins upd
  by_cases e : j = 24 * p + k
  · rw [if_pos e]; exact hx
  · rw [if_neg e]
    unfold kp_sh
    split
    · exact h _ (by omega)
    · exact h _ hj
theorem kp_del_b {kc : Nat → Int32} {p s i : Nat} (h : ∀ j, j < 600 → vp_nar .byte (kc j) = kc j) (hi : 24 * p + i ≤ 600) : ∀ j, j < 600 → vp_nar .byte (kp_del kc p s i j) = kp_del kc p s i j := by
  intro j hj
  unfold kp_del
  split
  · exact h _ (by omega)
  · exact h _ hj
end
section
/-! ===== attach and put, detach and take, a new element ===== -/
theorem nb_s1 {n : Nat} (h : 1 ≤ n) : nI n - 1 = nI (n - 1) := pk_sub (b := 1) h
theorem nb_a1 (n : Nat) : nI (n + 1) + (-1) = nI n := pk_m1 n
theorem kp_sh_b {kc : Nat → Int32} {p c i : Nat} (h : ∀ j, j < 600 → vp_nar .byte (kc j) = kc j) : ∀ j, j < 600 → vp_nar .byte (kp_sh kc p c i j) = kp_sh kc p c i j := by
  intro j hj
  unfold kp_sh
  split
  · exact h _ (by omega)
  · exact h _ hj
section
variable {drafted latestPlace positions fragments elementCount : Int32} {draftKind draftValue weights tokenAt fragmentBegin fragmentFirst fragmentLast fragmentEmpty reachedWith follow bearing accepting kindOfType leastOf greatestOf listedCount listedValue attributeUse attributeType typeOfName inUse nameOf parentOf kidCount kids hasValue valueOf hasAttribute attributeValue walked waiting : Nat → Int32} {yplace yroot yrowLength yfirst youts ytop : Int32} {ykind ywith ysize ysort ymany yuse ytypeOf yleast ygreatest ylisted ytypeOfName yused yvalued ygiven yname yparent ychildren ycount yrow yvalue yattributes yends ylack yshortest youtKind youtWith ywork yworkWith yweight yfollow yfirsts ylasts ybare ymet ynameAt ytokenAt ytodo : Nat → Int32}
theorem sx_att8 {post : SX → Prop} {e p k c : Nat} (hp : p < 24) (he : e < 24) (hc : c ≤ 23) (hct : kidCount p = nI c) (h : post (drafted, latestPlace, positions, fragments, elementCount, draftKind, draftValue, weights, tokenAt, fragmentBegin, fragmentFirst, fragmentLast, fragmentEmpty, reachedWith, follow, bearing, accepting, kindOfType, leastOf, greatestOf, listedCount, listedValue, attributeUse, attributeType, typeOfName, inUse, nameOf, upd parentOf e (nI p), upd kidCount p (nI (c + 1)), kp_ins kids p c k (nI e), hasValue, valueOf, hasAttribute, attributeValue, walked, waiting)) : ∀ m i, i = k + m → i ≤ c → wX_attach_8 post (nI e) (nI p) (nI k) drafted latestPlace positions fragments elementCount (m + 1) (nI i) draftKind draftValue weights tokenAt fragmentBegin fragmentFirst fragmentLast fragmentEmpty reachedWith follow bearing accepting kindOfType leastOf greatestOf listedCount listedValue attributeUse attributeType typeOfName inUse nameOf parentOf kidCount (kp_sh kids p c i) hasValue valueOf hasAttribute attributeValue walked waiting := by
  have ep : (nI p).toNatClampNeg = p := nb_cl (by omega)
  have ee : (nI e).toNatClampNeg = e := nb_cl (by omega)
  have vp : vp_in (nI p) 24 := vp_in_nI hp (by omega)
  have ve : vp_in (nI e) 24 := vp_in_nI he (by omega)
  intro m
  induction m with
  | zero =>
    intro i hi hic
    obtain rfl : i = k := by omega
    refine br_t (nI_le (Nat.le_refl i) (by omega)) ?_
    rw [nb_m24]
    exact ⟨vp_in_nI (by omega) (by omega), nm_r (e' := kp_ins kids p c i (nI e)) (by rw [nb_cl (by omega)]; rfl) ⟨vp, vp, nm_r (by rw [ep, hct, nI_1]) ⟨ve, nm_r (by rw [ee]) h⟩⟩⟩
  | succ m ih =>
    intro i hi hic
    obtain ⟨j, rfl⟩ : ∃ j, i = j + 1 := ⟨k + m, by omega⟩
    refine br_f (nI_ge (by omega) (by omega)) ?_
    rw [nb_m24, nb_s1 (by omega)]
    refine ⟨vp_in_nI (by omega) (by omega), vp_in_nI (by omega) (by omega), nm_r (e' := kp_sh kids p c j) ?_ (nm_r (nb_a1 j) (ih j (by omega) (by omega)))⟩
    rw [nb_cl (by omega), nb_cl (by omega), show 24 * p + (j + 1) - 1 = 24 * p + j by omega]
    exact kp_sh_s hic
theorem sx_attach {post : SX → Prop} {e p k c : Nat} (hp : p < 24) (he : e < 24) (hc : c ≤ 23) (hk : k ≤ c) (hct : kidCount p = nI c) (h : post (drafted, latestPlace, positions, fragments, elementCount, draftKind, draftValue, weights, tokenAt, fragmentBegin, fragmentFirst, fragmentLast, fragmentEmpty, reachedWith, follow, bearing, accepting, kindOfType, leastOf, greatestOf, listedCount, listedValue, attributeUse, attributeType, typeOfName, inUse, nameOf, upd parentOf e (nI p), upd kidCount p (nI (c + 1)), kp_ins kids p c k (nI e), hasValue, valueOf, hasAttribute, attributeValue, walked, waiting)) : wpX_attach post (drafted, latestPlace, positions, fragments, elementCount, draftKind, draftValue, weights, tokenAt, fragmentBegin, fragmentFirst, fragmentLast, fragmentEmpty, reachedWith, follow, bearing, accepting, kindOfType, leastOf, greatestOf, listedCount, listedValue, attributeUse, attributeType, typeOfName, inUse, nameOf, parentOf, kidCount, kids, hasValue, valueOf, hasAttribute, attributeValue, walked, waiting) (nI e) (nI p) (nI k) := by
  refine ⟨vp_in_nI hp (by omega), nm_r (by rw [nb_cl (by omega), hct]) ⟨c - k + 1, ?_⟩⟩
  have := sx_att8 (k := k) hp he hc hct h (c - k) c (by omega) (Nat.le_refl c)
  rw [kp_sh_c] at this
  exact this
theorem sy_put8 {post : SY → Prop} {e p k c : Nat} (hp : p < 24) (he : e < 24) (hc : c ≤ 23) (hct : ycount p = nI c) (hb : ∀ j, j < 600 → vp_nar .byte (ychildren j) = ychildren j) (h : post (yplace, yroot, yrowLength, yfirst, youts, ytop, ykind, ywith, ysize, ysort, ymany, yuse, ytypeOf, yleast, ygreatest, ylisted, ytypeOfName, yused, yvalued, ygiven, yname, upd yparent e (nI p), kp_ins ychildren p c k (nI e), upd ycount p (nI (c + 1)), yrow, yvalue, yattributes, yends, ylack, yshortest, youtKind, youtWith, ywork, yworkWith, yweight, yfollow, yfirsts, ylasts, ybare, ymet, ynameAt, ytokenAt, ytodo)) : ∀ m i, i = k + m → i ≤ c → wY_put_8 post (nI e) (nI p) (nI k) yplace yroot yrowLength yfirst youts ytop (m + 1) (nI i) ykind ywith ysize ysort ymany yuse ytypeOf yleast ygreatest ylisted ytypeOfName yused yvalued ygiven yname yparent (kp_sh ychildren p c i) ycount yrow yvalue yattributes yends ylack yshortest youtKind youtWith ywork yworkWith yweight yfollow yfirsts ylasts ybare ymet ynameAt ytokenAt ytodo := by
  have ep : (nI p).toNatClampNeg = p := nb_cl (by omega)
  have ee : (nI e).toNatClampNeg = e := nb_cl (by omega)
  have vp : vp_in (nI p) 24 := vp_in_nI hp (by omega)
  have ve : vp_in (nI e) 24 := vp_in_nI he (by omega)
  intro m
  induction m with
  | zero =>
    intro i hi hic
    obtain rfl : i = k := by omega
    refine br_t (nI_le (Nat.le_refl i) (by omega)) ?_
    rw [nb_24m]
    exact ⟨vp_in_nI (by omega) (by omega), nm_r (e' := kp_ins ychildren p c i (nI e)) (by rw [nb_cl (by omega), nb_v8 (by omega)]; rfl) ⟨vp, vp, nm_r (by rw [ep, hct, nI_1, nb_v8 (by omega)]) ⟨ve, nm_r (by rw [ee, nb_v8 (by omega)]) h⟩⟩⟩
  | succ m ih =>
    intro i hi hic
    obtain ⟨j, rfl⟩ : ∃ j, i = j + 1 := ⟨k + m, by omega⟩
    refine br_f (nI_ge (by omega) (by omega)) ?_
    rw [nb_24m, nb_s1 (by omega)]
    refine ⟨vp_in_nI (by omega) (by omega), vp_in_nI (by omega) (by omega), nm_r (e' := kp_sh ychildren p c j) ?_ (nm_r (nb_a1 j) (ih j (by omega) (by omega)))⟩
    rw [nb_cl (by omega), nb_cl (by omega), show 24 * p + (j + 1) - 1 = 24 * p + j by omega, kp_sh_b hb _ (by omega)]
    exact kp_sh_s hic
theorem sy_put {post : SY → Prop} {e p k c : Nat} (hp : p < 24) (he : e < 24) (hc : c ≤ 23) (hk : k ≤ c) (hct : ycount p = nI c) (hb : ∀ j, j < 600 → vp_nar .byte (ychildren j) = ychildren j) (h : post (yplace, yroot, yrowLength, yfirst, youts, ytop, ykind, ywith, ysize, ysort, ymany, yuse, ytypeOf, yleast, ygreatest, ylisted, ytypeOfName, yused, yvalued, ygiven, yname, upd yparent e (nI p), kp_ins ychildren p c k (nI e), upd ycount p (nI (c + 1)), yrow, yvalue, yattributes, yends, ylack, yshortest, youtKind, youtWith, ywork, yworkWith, yweight, yfollow, yfirsts, ylasts, ybare, ymet, ynameAt, ytokenAt, ytodo)) : wpY_put post (yplace, yroot, yrowLength, yfirst, youts, ytop, ykind, ywith, ysize, ysort, ymany, yuse, ytypeOf, yleast, ygreatest, ylisted, ytypeOfName, yused, yvalued, ygiven, yname, yparent, ychildren, ycount, yrow, yvalue, yattributes, yends, ylack, yshortest, youtKind, youtWith, ywork, yworkWith, yweight, yfollow, yfirsts, ylasts, ybare, ymet, ynameAt, ytokenAt, ytodo) (nI e) (nI p) (nI k) := by
  refine ⟨vp_in_nI hp (by omega), nm_r (by rw [nb_cl (by omega), hct]) ⟨c - k + 1, ?_⟩⟩
  have := sy_put8 (k := k) hp he hc hct hb h (c - k) c (by omega) (Nat.le_refl c)
  rw [kp_sh_c] at this
  exact this
theorem sx_det18 {post : SX → Prop} {e q s c : Nat} (hq : q < 24) (he : e < 24) (hc : c ≤ 23) (hs : s < c) (hct : kidCount q = nI c) (hk : ∀ i, i < c → (kids (24 * q + i) = nI e ↔ i = s)) (h : post (drafted, latestPlace, positions, fragments, elementCount, draftKind, draftValue, weights, tokenAt, fragmentBegin, fragmentFirst, fragmentLast, fragmentEmpty, reachedWith, follow, bearing, accepting, kindOfType, leastOf, greatestOf, listedCount, listedValue, attributeUse, attributeType, typeOfName, inUse, nameOf, upd parentOf e (-1), upd kidCount q (nI (c - 1)), kp_del kids q s c, hasValue, valueOf, hasAttribute, attributeValue, walked, waiting)) : ∀ m i, i + m = c → wX_detach_18 post (nI e) (nI q) drafted latestPlace positions fragments elementCount (m + 1) (nI (if i ≤ s then i else i - 1)) (nI i) draftKind draftValue weights tokenAt fragmentBegin fragmentFirst fragmentLast fragmentEmpty reachedWith follow bearing accepting kindOfType leastOf greatestOf listedCount listedValue attributeUse attributeType typeOfName inUse nameOf parentOf kidCount (kp_del kids q s i) hasValue valueOf hasAttribute attributeValue walked waiting := by
  have ep : (nI q).toNatClampNeg = q := nb_cl (by omega)
  have ee : (nI e).toNatClampNeg = e := nb_cl (by omega)
  have vp : vp_in (nI q) 24 := vp_in_nI hq (by omega)
  have ve : vp_in (nI e) 24 := vp_in_nI he (by omega)
  have em : kidCount (nI q).toNatClampNeg = nI c := by rw [ep, hct]
  intro m
  induction m with
  | zero =>
    intro i hi
    obtain rfl : i = c := by omega
    rw [if_neg (by omega)]
    exact ⟨vp, br_t (by rw [em]; exact nI_le (Nat.le_refl i) (by omega)) ⟨vp, nm_r (by rw [ep]) ⟨ve, nm_r (by rw [ee]) h⟩⟩⟩
  | succ m ih =>
    intro i hi
    refine ⟨vp, br_f (by rw [em]; exact nI_ge (by omega) (by omega)) ?_⟩
    have ih' := ih (i + 1) (by omega)
    have e0 : kp_del kids q s i (24 * q + i) = kids (24 * q + i) := by unfold kp_del; rw [if_neg (by omega)]
    rw [nb_m24 q i]
    refine ⟨vp_in_nI (by omega) (by omega), nm_r (by rw [nb_cl (by omega), e0]) ?_⟩
    by_cases e1 : i = s
    · refine br_t ((hk i (by omega)).mpr e1) (nm_r (nI_1 i) ?_)
      rw [if_neg (by omega), kp_del_0 (by omega)] at ih'
      rw [if_pos (by omega), kp_del_0 (by omega)]
      exact ih'
    · refine br_f (fun e => e1 ((hk i (by omega)).mp e)) ?_
      by_cases hlt : i < s
      · rw [if_pos (by omega), kp_del_0 (by omega)] at ih'
        rw [if_pos (by omega), kp_del_0 (by omega), nb_m24]
        exact ⟨vp_in_nI (by omega) (by omega), nm_r (by rw [nb_cl (by omega), kp_id]) (nm_r (nI_1 i) (nm_r (nI_1 i) ih'))⟩
      · rw [if_neg (by omega)] at ih'
        rw [if_neg (by omega), nb_m24]
        refine ⟨vp_in_nI (by omega) (by omega), nm_r (e' := kp_del kids q s (i + 1)) (by rw [nb_cl (by omega)]; exact kp_del_s (by omega)) (nm_r (e' := nI (i + 1 - 1)) (by rw [nI_1]; congr 1; omega) (nm_r (nI_1 i) ih'))⟩
theorem sx_detach {post : SX → Prop} {e q s c : Nat} (hq : q < 24) (he : e < 24) (hc : c ≤ 23) (hs : s < c) (hpe : parentOf e = nI q) (hct : kidCount q = nI c) (hk : ∀ i, i < c → (kids (24 * q + i) = nI e ↔ i = s)) (h : post (drafted, latestPlace, positions, fragments, elementCount, draftKind, draftValue, weights, tokenAt, fragmentBegin, fragmentFirst, fragmentLast, fragmentEmpty, reachedWith, follow, bearing, accepting, kindOfType, leastOf, greatestOf, listedCount, listedValue, attributeUse, attributeType, typeOfName, inUse, nameOf, upd parentOf e (-1), upd kidCount q (nI (c - 1)), kp_del kids q s c, hasValue, valueOf, hasAttribute, attributeValue, walked, waiting)) : wpX_detach post (drafted, latestPlace, positions, fragments, elementCount, draftKind, draftValue, weights, tokenAt, fragmentBegin, fragmentFirst, fragmentLast, fragmentEmpty, reachedWith, follow, bearing, accepting, kindOfType, leastOf, greatestOf, listedCount, listedValue, attributeUse, attributeType, typeOfName, inUse, nameOf, parentOf, kidCount, kids, hasValue, valueOf, hasAttribute, attributeValue, walked, waiting) (nI e) := by
  refine ⟨vp_in_nI he (by omega), nm_r (e' := nI q) (by rw [nb_cl (by omega), hpe]) (br_f (nb_nm (by omega)) ⟨c + 1, ?_⟩)⟩
  have := sx_det18 hq he hc hs hct hk h c 0 (by omega)
  rw [if_pos (by omega), kp_del_0 (by omega)] at this
  exact this
theorem sx_detach0 {post : SX → Prop} {e : Nat} (he : e < 24) (hpe : parentOf e = -1) (h : post (drafted, latestPlace, positions, fragments, elementCount, draftKind, draftValue, weights, tokenAt, fragmentBegin, fragmentFirst, fragmentLast, fragmentEmpty, reachedWith, follow, bearing, accepting, kindOfType, leastOf, greatestOf, listedCount, listedValue, attributeUse, attributeType, typeOfName, inUse, nameOf, parentOf, kidCount, kids, hasValue, valueOf, hasAttribute, attributeValue, walked, waiting)) : wpX_detach post (drafted, latestPlace, positions, fragments, elementCount, draftKind, draftValue, weights, tokenAt, fragmentBegin, fragmentFirst, fragmentLast, fragmentEmpty, reachedWith, follow, bearing, accepting, kindOfType, leastOf, greatestOf, listedCount, listedValue, attributeUse, attributeType, typeOfName, inUse, nameOf, parentOf, kidCount, kids, hasValue, valueOf, hasAttribute, attributeValue, walked, waiting) (nI e) :=
  ⟨vp_in_nI he (by omega), nm_r (e' := -1) (by rw [nb_cl (by omega), hpe]) (br_t rfl h)⟩
theorem sy_take46 {post : SY → Prop} {q s c : Nat} (hq : q < 24) (hc : c ≤ 23) (hct : ycount q = nI (c - 1)) (hb : ∀ j, j < 600 → vp_nar .byte (ychildren j) = ychildren j) (h : post (yplace, yroot, yrowLength, yfirst, youts, ytop, ykind, ywith, ysize, ysort, ymany, yuse, ytypeOf, yleast, ygreatest, ylisted, ytypeOfName, yused, yvalued, ygiven, yname, yparent, kp_del ychildren q s c, ycount, yrow, yvalue, yattributes, yends, ylack, yshortest, youtKind, youtWith, ywork, yworkWith, yweight, yfollow, yfirsts, ylasts, ybare, ymet, ynameAt, ytokenAt, ytodo)) (hs : s < c) : ∀ m k, k + m = c - 1 → s ≤ k → wY_take_46 post (nI q) yplace yroot yrowLength yfirst youts ytop (m + 1) (nI k) ykind ywith ysize ysort ymany yuse ytypeOf yleast ygreatest ylisted ytypeOfName yused yvalued ygiven yname yparent (kp_del ychildren q s (k + 1)) ycount yrow yvalue yattributes yends ylack yshortest youtKind youtWith ywork yworkWith yweight yfollow yfirsts ylasts ybare ymet ynameAt ytokenAt ytodo := by
  have em : ycount (nI q).toNatClampNeg = nI (c - 1) := by rw [nb_cl (by omega), hct]
  have vp : vp_in (nI q) 24 := vp_in_nI hq (by omega)
  intro m
  induction m with
  | zero =>
    intro k hk hsk
    refine ⟨vp, br_t (by rw [em]; exact nI_le (by omega) (by omega)) ?_⟩
    rw [show k + 1 = c by omega]
    exact h
  | succ m ih =>
    intro k hk hsk
    refine ⟨vp, br_f (by rw [em]; exact nI_ge (by omega) (by omega)) ?_⟩
    rw [nb_24m, nI_1]
    refine ⟨vp_in_nI (by omega) (by omega), vp_in_nI (by omega) (by omega), nm_r (e' := kp_del ychildren q s (k + 1 + 1)) ?_ (nm_r (nI_1 k) (ih (k + 1) (by omega) (by omega)))⟩
    have e0 : kp_del ychildren q s (k + 1) (24 * q + k + 1) = ychildren (24 * q + (k + 1)) := by
      unfold kp_del
      rw [if_neg (by omega)]
      rfl
    have := kp_del_s (kc := ychildren) (p := q) (s := s) (i := k + 1) (by omega)
    rw [nb_cl (by omega), nb_cl (by omega), e0, hb _ (by omega)]
    exact this
theorem sy_take14 {post : SY → Prop} {e q s c : Nat} (hq : q < 24) (hc : c ≤ 23) (hs : s < c) (hct : ycount q = nI c) (hb : ∀ j, j < 600 → vp_nar .byte (ychildren j) = ychildren j) (hk : ∀ i, i < c → (ychildren (24 * q + i) = nI e ↔ i = s)) (h : post (yplace, yroot, yrowLength, yfirst, youts, ytop, ykind, ywith, ysize, ysort, ymany, yuse, ytypeOf, yleast, ygreatest, ylisted, ytypeOfName, yused, yvalued, ygiven, yname, yparent, kp_del ychildren q s c, upd ycount q (nI (c - 1)), yrow, yvalue, yattributes, yends, ylack, yshortest, youtKind, youtWith, ywork, yworkWith, yweight, yfollow, yfirsts, ylasts, ybare, ymet, ynameAt, ytokenAt, ytodo)) : ∀ m k, k + m = s → wY_take_14 post (nI e) (nI q) yplace yroot yrowLength yfirst youts ytop ykind ywith ysize ysort ymany yuse ytypeOf yleast ygreatest ylisted ytypeOfName yused yvalued ygiven yname yparent ychildren ycount yrow yvalue yattributes yends ylack yshortest youtKind youtWith ywork yworkWith yweight yfollow yfirsts ylasts ybare ymet ynameAt ytokenAt ytodo (m + 1) (nI k) := by
  have em : ycount (nI q).toNatClampNeg = nI c := by rw [nb_cl (by omega), hct]
  have vp : vp_in (nI q) 24 := vp_in_nI hq (by omega)
  intro m
  induction m with
  | zero =>
    intro k hk'
    obtain rfl : k = s := by omega
    show vp_in (24 * nI q + nI k) 600 ∧ _
    rw [nb_24m]
    refine ⟨vp_in_nI (by omega) (by omega), br_t (by rw [nb_cl (by omega)]; exact (hk k hs).mpr rfl) ⟨vp, vp, nm_r (e' := upd ycount q (nI (c - 1))) (by rw [em, nb_s1 (by omega), nb_v8 (by omega), nb_cl (by omega)]) ⟨c - 1 - k + 1, ?_⟩⟩⟩
    have := sy_take46 (ycount := upd ycount q (nI (c - 1))) (s := k) hq hc pk_us hb h hs (c - 1 - k) k (by omega) (Nat.le_refl k)
    rw [kp_del_0 (by omega)] at this
    exact this
  | succ m ih =>
    intro k hk'
    show vp_in (24 * nI q + nI k) 600 ∧ _
    rw [nb_24m]
    refine ⟨vp_in_nI (by omega) (by omega), br_f (by rw [nb_cl (by omega)]; exact fun e => absurd ((hk k (by omega)).mp e) (by omega)) (nm_r (nI_1 k) (ih (k + 1) (by omega)))⟩
theorem sy_take {post : SY → Prop} {e q s c : Nat} (hq : q < 24) (he : e < 24) (hc : c ≤ 23) (hs : s < c) (hpe : yparent e = nI q) (hct : ycount q = nI c) (hb : ∀ j, j < 600 → vp_nar .byte (ychildren j) = ychildren j) (hk : ∀ i, i < c → (ychildren (24 * q + i) = nI e ↔ i = s)) (h : post (yplace, yroot, yrowLength, yfirst, youts, ytop, ykind, ywith, ysize, ysort, ymany, yuse, ytypeOf, yleast, ygreatest, ylisted, ytypeOfName, yused, yvalued, ygiven, yname, yparent, kp_del ychildren q s c, upd ycount q (nI (c - 1)), yrow, yvalue, yattributes, yends, ylack, yshortest, youtKind, youtWith, ywork, yworkWith, yweight, yfollow, yfirsts, ylasts, ybare, ymet, ynameAt, ytokenAt, ytodo)) : wpY_take post (yplace, yroot, yrowLength, yfirst, youts, ytop, ykind, ywith, ysize, ysort, ymany, yuse, ytypeOf, yleast, ygreatest, ylisted, ytypeOfName, yused, yvalued, ygiven, yname, yparent, ychildren, ycount, yrow, yvalue, yattributes, yends, ylack, yshortest, youtKind, youtWith, ywork, yworkWith, yweight, yfollow, yfirsts, ylasts, ybare, ymet, ynameAt, ytokenAt, ytodo) (nI e) :=
  ⟨vp_in_nI he (by omega), nm_r (e' := nI q) (by rw [nb_cl (by omega), hpe]) (br_t (nb_pos (by omega)) ⟨s + 1, sy_take14 hq hc hs hct hb hk h s 0 (by omega)⟩)⟩
theorem sy_take0 {post : SY → Prop} {e : Nat} (he : e < 24) (hpe : yparent e = -1) (h : post (yplace, yroot, yrowLength, yfirst, youts, ytop, ykind, ywith, ysize, ysort, ymany, yuse, ytypeOf, yleast, ygreatest, ylisted, ytypeOfName, yused, yvalued, ygiven, yname, yparent, ychildren, ycount, yrow, yvalue, yattributes, yends, ylack, yshortest, youtKind, youtWith, ywork, yworkWith, yweight, yfollow, yfirsts, ylasts, ybare, ymet, ynameAt, ytokenAt, ytodo)) : wpY_take post (yplace, yroot, yrowLength, yfirst, youts, ytop, ykind, ywith, ysize, ysort, ymany, yuse, ytypeOf, yleast, ygreatest, ylisted, ytypeOfName, yused, yvalued, ygiven, yname, yparent, ychildren, ycount, yrow, yvalue, yattributes, yends, ylack, yshortest, youtKind, youtWith, ywork, yworkWith, yweight, yfollow, yfirsts, ylasts, ybare, ymet, ynameAt, ytokenAt, ytodo) (nI e) :=
  ⟨vp_in_nI he (by omega), nm_r (e' := -1) (by rw [nb_cl (by omega), hpe]) (br_f (by decide) h)⟩
end
end
section
/-! ===== insert ===== -/
def ha_clr (ha : Nat → Int32) (f m : Nat) : Nat → Int32 := fun j => if 4 * f ≤ j ∧ j < 4 * f + m then 0 else ha j
theorem ha_0 (ha : Nat → Int32) (f : Nat) : ha_clr ha f 0 = ha := by
  funext j
  unfold ha_clr
  rw [if_neg (by omega)]
theorem ha_s (ha : Nat → Int32) (f m : Nat) : upd (ha_clr ha f m) (4 * f + m) 0 = ha_clr ha f (m + 1) := by
  funext j
  unfold upd ha_clr
  by_cases e : j = 4 * f + m
  · rw [if_pos e, if_pos (by omega)]
  · rw [if_neg e]
    by_cases h : 4 * f ≤ j ∧ j < 4 * f + m
    · rw [if_pos h, if_pos (by omega)]
    · rw [if_neg h, if_neg (by omega)]
/-- the least one not in use -/
theorem el_free (iu : Nat → Int32) : ∃ f, f ≤ 24 ∧ (∀ j, j < f → iu j ≠ 0) ∧ (f < 24 → iu f = 0) := by
  by_cases h : ∃ j, j < 24 ∧ iu j = 0
  · obtain ⟨f, h1, h2⟩ := pk_least (fun j => j < 24 ∧ iu j = 0) h
    refine ⟨f, by omega, fun j hj e => h2 j hj ⟨by omega, e⟩, fun _ => h1.2⟩
  · exact ⟨24, Nat.le_refl _, fun j hj e => h ⟨j, hj, e⟩, fun h => by omega⟩
section
variable {drafted latestPlace positions fragments elementCount : Int32} {draftKind draftValue weights tokenAt fragmentBegin fragmentFirst fragmentLast fragmentEmpty reachedWith follow bearing accepting kindOfType leastOf greatestOf listedCount listedValue attributeUse attributeType typeOfName inUse nameOf parentOf kidCount kids hasValue valueOf hasAttribute attributeValue walked waiting : Nat → Int32} {yplace yroot yrowLength yfirst youts ytop : Int32} {ykind ywith ysize ysort ymany yuse ytypeOf yleast ygreatest ylisted ytypeOfName yused yvalued ygiven yname yparent ychildren ycount yrow yvalue yattributes yends ylack yshortest youtKind youtWith ywork yworkWith yweight yfollow yfirsts ylasts ybare ymet ynameAt ytokenAt ytodo : Nat → Int32}
theorem sx_new60 {post : Int32 → SX → Prop} {f : Nat} {ec' : Int32} (hf : f < 24) (he : elementCount + 1 = ec') (h : post (nI f) (drafted, latestPlace, positions, fragments, ec', draftKind, draftValue, weights, tokenAt, fragmentBegin, fragmentFirst, fragmentLast, fragmentEmpty, reachedWith, follow, bearing, accepting, kindOfType, leastOf, greatestOf, listedCount, listedValue, attributeUse, attributeType, typeOfName, inUse, nameOf, parentOf, kidCount, kids, hasValue, valueOf, ha_clr hasAttribute f 4, attributeValue, walked, waiting)) : ∀ m i, i + m = 4 → wX_newElement_60 post (nI f) drafted latestPlace positions fragments elementCount (m + 1) (nI i) draftKind draftValue weights tokenAt fragmentBegin fragmentFirst fragmentLast fragmentEmpty reachedWith follow bearing accepting kindOfType leastOf greatestOf listedCount listedValue attributeUse attributeType typeOfName inUse nameOf parentOf kidCount kids hasValue valueOf (ha_clr hasAttribute f i) attributeValue walked waiting := by
  intro m
  induction m with
  | zero =>
    intro i hi
    obtain rfl : i = 4 := by omega
    exact br_t (by decide) (nm_r he h)
  | succ m ih =>
    intro i hi
    refine br_f (nI_ge (b := 4) (by omega) (by omega)) ?_
    rw [nb_m4]
    exact ⟨vp_in_nI (by omega) (by omega), nm_r (e' := ha_clr hasAttribute f (i + 1)) (by rw [nb_cl (by omega), nb_b0]; exact ha_s _ _ _) (nm_r (nI_1 i) (ih (i + 1) (by omega)))⟩
theorem sx_new23 {post : Int32 → SX → Prop} {f : Nat} {x ec' : Int32} (hf : f < 24) (he : elementCount + 1 = ec') (h : post (nI f) (drafted, latestPlace, positions, fragments, ec', draftKind, draftValue, weights, tokenAt, fragmentBegin, fragmentFirst, fragmentLast, fragmentEmpty, reachedWith, follow, bearing, accepting, kindOfType, leastOf, greatestOf, listedCount, listedValue, attributeUse, attributeType, typeOfName, upd inUse f 1, upd nameOf f x, upd parentOf f (-1), upd kidCount f 0, kids, upd hasValue f 0, valueOf, ha_clr hasAttribute f 4, attributeValue, walked, waiting)) : wX_newElement_23 post x (nI f) drafted latestPlace positions fragments elementCount draftKind draftValue weights tokenAt fragmentBegin fragmentFirst fragmentLast fragmentEmpty reachedWith follow bearing accepting kindOfType leastOf greatestOf listedCount listedValue attributeUse attributeType typeOfName inUse nameOf parentOf kidCount kids hasValue valueOf hasAttribute attributeValue walked waiting := by
  have vf : vp_in (nI f) 24 := vp_in_nI hf (by omega)
  have ef : (nI f).toNatClampNeg = f := nb_cl (by omega)
  refine ⟨vf, nm_r (by rw [ef, nb_b1]) ⟨vf, nm_r (by rw [ef]) ⟨vf, nm_r (by rw [ef]) ⟨vf, nm_r (by rw [ef]) ⟨vf, nm_r (by rw [ef, nb_b0]) ⟨5, ?_⟩⟩⟩⟩⟩⟩
  have := sx_new60 (inUse := upd inUse f 1) (nameOf := upd nameOf f x) (parentOf := upd parentOf f (-1)) (kidCount := upd kidCount f 0) (hasValue := upd hasValue f 0) hf he h 4 0 (by omega)
  rw [ha_0] at this
  exact this
theorem sx_new2 {post : Int32 → SX → Prop} {f : Nat} {x ec' : Int32} (hf : f < 24) (h1 : ∀ j, j < f → inUse j ≠ 0) (h2 : inUse f = 0) (he : elementCount + 1 = ec') (h : post (nI f) (drafted, latestPlace, positions, fragments, ec', draftKind, draftValue, weights, tokenAt, fragmentBegin, fragmentFirst, fragmentLast, fragmentEmpty, reachedWith, follow, bearing, accepting, kindOfType, leastOf, greatestOf, listedCount, listedValue, attributeUse, attributeType, typeOfName, upd inUse f 1, upd nameOf f x, upd parentOf f (-1), upd kidCount f 0, kids, upd hasValue f 0, valueOf, ha_clr hasAttribute f 4, attributeValue, walked, waiting)) : ∀ m i, i + m = f → wX_newElement_2 post x drafted latestPlace positions fragments elementCount draftKind draftValue weights tokenAt fragmentBegin fragmentFirst fragmentLast fragmentEmpty reachedWith follow bearing accepting kindOfType leastOf greatestOf listedCount listedValue attributeUse attributeType typeOfName inUse nameOf parentOf kidCount kids hasValue valueOf hasAttribute attributeValue walked waiting (m + 1) (nI i) := by
  intro m
  induction m with
  | zero =>
    intro i hi
    obtain rfl : i = f := by omega
    by_cases e : i = 23
    · subst e
      exact br_t (by decide) (sx_new23 hf he h)
    · exact br_f (nI_ge (b := 23) (by omega) (by omega)) ⟨vp_in_nI hf (by omega), br_t (by rw [nb_cl (by omega)]; exact h2) (sx_new23 hf he h)⟩
  | succ m ih =>
    intro i hi
    exact br_f (nI_ge (b := 23) (by omega) (by omega)) ⟨vp_in_nI (by omega) (by omega), br_f (by rw [nb_cl (by omega)]; exact h1 i (by omega)) (nm_r (nI_1 i) (ih (i + 1) (by omega)))⟩
theorem sx_newElement {post : Int32 → SX → Prop} {f : Nat} {x ec' : Int32} (hf : f < 24) (h1 : ∀ j, j < f → inUse j ≠ 0) (h2 : inUse f = 0) (he : elementCount + 1 = ec') (h : post (nI f) (drafted, latestPlace, positions, fragments, ec', draftKind, draftValue, weights, tokenAt, fragmentBegin, fragmentFirst, fragmentLast, fragmentEmpty, reachedWith, follow, bearing, accepting, kindOfType, leastOf, greatestOf, listedCount, listedValue, attributeUse, attributeType, typeOfName, upd inUse f 1, upd nameOf f x, upd parentOf f (-1), upd kidCount f 0, kids, upd hasValue f 0, valueOf, ha_clr hasAttribute f 4, attributeValue, walked, waiting)) : wpX_newElement post (drafted, latestPlace, positions, fragments, elementCount, draftKind, draftValue, weights, tokenAt, fragmentBegin, fragmentFirst, fragmentLast, fragmentEmpty, reachedWith, follow, bearing, accepting, kindOfType, leastOf, greatestOf, listedCount, listedValue, attributeUse, attributeType, typeOfName, inUse, nameOf, parentOf, kidCount, kids, hasValue, valueOf, hasAttribute, attributeValue, walked, waiting) x :=
  ⟨f + 1, sx_new2 hf h1 h2 he h f 0 (by omega)⟩
theorem sy_ins109R {post : Int32 → SY → Prop} {f : Nat} {x1 x2 : Int32} (hf : f < 24) (h : post (nI f) (yplace, nI f, yrowLength, yfirst, youts, ytop, ykind, ywith, ysize, ysort, ymany, yuse, ytypeOf, yleast, ygreatest, ylisted, ytypeOfName, yused, yvalued, ha_clr ygiven f 4, yname, upd yparent f (-1), ychildren, ycount, yrow, yvalue, yattributes, yends, ylack, yshortest, youtKind, youtWith, ywork, yworkWith, yweight, yfollow, yfirsts, ylasts, ybare, ymet, ynameAt, ytokenAt, ytodo)) : ∀ m i, i + m = 4 → wY_insert_109 post x1 x2 (nI f) yplace (-1) yrowLength yfirst youts ytop (m + 1) (nI i) ykind ywith ysize ysort ymany yuse ytypeOf yleast ygreatest ylisted ytypeOfName yused yvalued (ha_clr ygiven f i) yname yparent ychildren ycount yrow yvalue yattributes yends ylack yshortest youtKind youtWith ywork yworkWith yweight yfollow yfirsts ylasts ybare ymet ynameAt ytokenAt ytodo := by
  intro m
  induction m with
  | zero =>
    intro i hi
    obtain rfl : i = 4 := by omega
    exact br_t (by decide) ⟨vp_in_nI hf (by omega), nm_r (by rw [nb_cl (by omega), nb_m1]) (br_f (by decide) h)⟩
  | succ m ih =>
    intro i hi
    refine br_f (nI_ge (b := 4) (by omega) (by omega)) ?_
    rw [nb_4m]
    exact ⟨vp_in_nI (by omega) (by omega), nm_r (e' := ha_clr ygiven f (i + 1)) (by rw [nb_cl (by omega), nb_b0]; exact ha_s _ _ _) (nm_r (nI_1 i) (ih (i + 1) (by omega)))⟩
theorem sy_ins64R {post : Int32 → SY → Prop} {f n : Nat} {x1 x2 : Int32} (hf : f < 24) (hn : n < 6) (h : post (nI f) (yplace, nI f, yrowLength, yfirst, youts, ytop, ykind, ywith, ysize, ysort, ymany, yuse, ytypeOf, yleast, ygreatest, ylisted, ytypeOfName, upd yused f 1, upd yvalued f 0, ha_clr ygiven f 4, upd yname f (nI n), upd yparent f (-1), ychildren, upd ycount f 0, yrow, yvalue, yattributes, yends, ylack, yshortest, youtKind, youtWith, ywork, yworkWith, yweight, yfollow, yfirsts, ylasts, ybare, ymet, ynameAt, ytokenAt, ytodo)) : wY_insert_64 post x1 x2 (nI n) (nI f) yplace (-1) yrowLength yfirst youts ytop ykind ywith ysize ysort ymany yuse ytypeOf yleast ygreatest ylisted ytypeOfName yused yvalued ygiven yname yparent ychildren ycount yrow yvalue yattributes yends ylack yshortest youtKind youtWith ywork yworkWith yweight yfollow yfirsts ylasts ybare ymet ynameAt ytokenAt ytodo := by
  have vf : vp_in (nI f) 24 := vp_in_nI hf (by omega)
  have ef : (nI f).toNatClampNeg = f := nb_cl (by omega)
  refine br_f (fun e => absurd ((nI_eq (b := 24) (by omega) (by omega)).mp e) (by omega)) ⟨vf, nm_r (by rw [ef, nb_b1]) ⟨vf, nm_r (by rw [ef, nb_v8 (by omega)]) ⟨vf, nm_r (by rw [ef, nb_0]) ⟨vf, nm_r (by rw [ef, nb_b0]) ⟨5, ?_⟩⟩⟩⟩⟩
  have := sy_ins109R (yused := upd yused f 1) (yname := upd yname f (nI n)) (ycount := upd ycount f 0) (yvalued := upd yvalued f 0) (x1 := x1) (x2 := x2) hf h 4 0 (by omega)
  rw [ha_0] at this
  exact this
theorem sy_ins109P {post : Int32 → SY → Prop} {f e k c : Nat} (hf : f < 24) (he : e < 24) (hfe : f ≠ e) (hc : c ≤ 23) (hk : k ≤ c) (hct : ycount e = nI c) (hb : ∀ j, j < 600 → vp_nar .byte (ychildren j) = ychildren j) (h : post (nI f) (yplace, 0, yrowLength, yfirst, youts, ytop, ykind, ywith, ysize, ysort, ymany, yuse, ytypeOf, yleast, ygreatest, ylisted, ytypeOfName, yused, yvalued, ha_clr ygiven f 4, yname, upd (upd yparent f (-1)) f (nI e), kp_ins ychildren e c k (nI f), upd ycount e (nI (c + 1)), yrow, yvalue, yattributes, yends, ylack, yshortest, youtKind, youtWith, ywork, yworkWith, yweight, yfollow, yfirsts, ylasts, ybare, ymet, ynameAt, ytokenAt, ytodo)) : ∀ m i, i + m = 4 → wY_insert_109 post (nI e) (nI k) (nI f) yplace 0 yrowLength yfirst youts ytop (m + 1) (nI i) ykind ywith ysize ysort ymany yuse ytypeOf yleast ygreatest ylisted ytypeOfName yused yvalued (ha_clr ygiven f i) yname yparent ychildren ycount yrow yvalue yattributes yends ylack yshortest youtKind youtWith ywork yworkWith yweight yfollow yfirsts ylasts ybare ymet ynameAt ytokenAt ytodo := by
  intro m
  induction m with
  | zero =>
    intro i hi
    obtain rfl : i = 4 := by omega
    refine br_t (by decide) ⟨vp_in_nI hf (by omega), nm_r (e' := upd yparent f (-1)) (by rw [nb_cl (by omega), nb_m1]) (br_t (by decide) ?_)⟩
    exact sy_put (yparent := upd yparent f (-1)) he hf hc hk hct hb h
  | succ m ih =>
    intro i hi
    refine br_f (nI_ge (b := 4) (by omega) (by omega)) ?_
    rw [nb_4m]
    exact ⟨vp_in_nI (by omega) (by omega), nm_r (e' := ha_clr ygiven f (i + 1)) (by rw [nb_cl (by omega), nb_b0]; exact ha_s _ _ _) (nm_r (nI_1 i) (ih (i + 1) (by omega)))⟩
theorem sy_ins64P {post : Int32 → SY → Prop} {f n e k c : Nat} (hf : f < 24) (hn : n < 6) (he : e < 24) (hfe : f ≠ e) (hc : c ≤ 23) (hk : k ≤ c) (hct : ycount e = nI c) (hb : ∀ j, j < 600 → vp_nar .byte (ychildren j) = ychildren j) (h : post (nI f) (yplace, 0, yrowLength, yfirst, youts, ytop, ykind, ywith, ysize, ysort, ymany, yuse, ytypeOf, yleast, ygreatest, ylisted, ytypeOfName, upd yused f 1, upd yvalued f 0, ha_clr ygiven f 4, upd yname f (nI n), upd (upd yparent f (-1)) f (nI e), kp_ins ychildren e c k (nI f), upd (upd ycount f 0) e (nI (c + 1)), yrow, yvalue, yattributes, yends, ylack, yshortest, youtKind, youtWith, ywork, yworkWith, yweight, yfollow, yfirsts, ylasts, ybare, ymet, ynameAt, ytokenAt, ytodo)) : wY_insert_64 post (nI e) (nI k) (nI n) (nI f) yplace 0 yrowLength yfirst youts ytop ykind ywith ysize ysort ymany yuse ytypeOf yleast ygreatest ylisted ytypeOfName yused yvalued ygiven yname yparent ychildren ycount yrow yvalue yattributes yends ylack yshortest youtKind youtWith ywork yworkWith yweight yfollow yfirsts ylasts ybare ymet ynameAt ytokenAt ytodo := by
  have vf : vp_in (nI f) 24 := vp_in_nI hf (by omega)
  have ef : (nI f).toNatClampNeg = f := nb_cl (by omega)
  refine br_f (fun e => absurd ((nI_eq (b := 24) (by omega) (by omega)).mp e) (by omega)) ⟨vf, nm_r (by rw [ef, nb_b1]) ⟨vf, nm_r (by rw [ef, nb_v8 (by omega)]) ⟨vf, nm_r (by rw [ef, nb_0]) ⟨vf, nm_r (by rw [ef, nb_b0]) ⟨5, ?_⟩⟩⟩⟩⟩
  have hct' : upd ycount f 0 e = nI c := by rw [pk_un (by omega), hct]
  have := sy_ins109P (yused := upd yused f 1) (yname := upd yname f (nI n)) (ycount := upd ycount f 0) (yvalued := upd yvalued f 0) hf he hfe hc hk hct' hb h 4 0 (by omega)
  rw [ha_0] at this
  exact this
theorem sy_ins3 {post : Int32 → SY → Prop} {f : Nat} {x1 x2 x3 : Int32} (hf : f ≤ 24) (h1 : ∀ j, j < f → yused j ≠ 0) (h2 : f < 24 → yused f = 0) (h : wY_insert_26 post x1 x2 x3 (nI f) yplace yroot yrowLength yfirst youts ytop ykind ywith ysize ysort ymany yuse ytypeOf yleast ygreatest ylisted ytypeOfName yused yvalued ygiven yname yparent ychildren ycount yrow yvalue yattributes yends ylack yshortest youtKind youtWith ywork yworkWith yweight yfollow yfirsts ylasts ybare ymet ynameAt ytokenAt ytodo) : ∀ m i, i + m = f → wY_insert_3 post x1 x2 x3 yplace yroot yrowLength yfirst youts ytop ykind ywith ysize ysort ymany yuse ytypeOf yleast ygreatest ylisted ytypeOfName yused yvalued ygiven yname yparent ychildren ycount yrow yvalue yattributes yends ylack yshortest youtKind youtWith ywork yworkWith yweight yfollow yfirsts ylasts ybare ymet ynameAt ytokenAt ytodo (m + 1) (nI i) := by
  intro m
  induction m with
  | zero =>
    intro i hi
    obtain rfl : i = f := by omega
    by_cases e : i = 24
    · subst e
      exact br_t (by decide) h
    · exact br_f (nI_ge (b := 24) (by omega) (by omega)) ⟨vp_in_nI (by omega) (by omega), br_t (by rw [nb_cl (by omega)]; exact h2 (by omega)) h⟩
  | succ m ih =>
    intro i hi
    exact br_f (nI_ge (b := 24) (by omega) (by omega)) ⟨vp_in_nI (by omega) (by omega), br_f (by rw [nb_cl (by omega)]; exact h1 i (by omega)) (nm_r (nI_1 i) (ih (i + 1) (by omega)))⟩
end
theorem rl_E_new {ec root : Int32} {iu nm pp ct kc yp : Nat → Int32} {n : Nat} (h : rl_E ec root iu nm pp ct kc yp) (h0 : tr_cn iu 24 = 0) (hn : n < 6) : rl_E (nI 1) (nI 0) (upd iu 0 1) (upd nm 0 (nI n)) (upd pp 0 (-1)) (upd ct 0 0) kc (upd yp 0 (-1)) := by
  obtain ⟨h1, h2, h3, po, c, ch, g, rk, a1, a2, a3, a4, a5⟩ := h
  have z := (tr_cn_none 24).mp h0
  have z' : ∀ e, iu e ≠ 0 → False := fun e he => he (z e (a5.1.1 e he))
  have us : ∀ e, upd iu 0 1 e ≠ 0 → e = 0 := by
    intro e he
    by_cases q : e = 0
    · exact q
    · rw [pk_un q] at he; exact (z' e he).elim
  refine ⟨?_, ?_, h3, fun _ => none, fun _ => 0, fun _ _ => 0, ft_u g 0 n, fun _ => 0, fun e => ?_, fun e he => ?_, fun e he hu => ?_, fun e k _ _ hk => absurd hk (Nat.not_lt_zero _), ⟨⟨fun e hu => by rw [us e hu]; omega, fun p k _ hk => absurd hk (Nat.not_lt_zero _), fun p i j _ hi => absurd hi (Nat.not_lt_zero _)⟩, fun e hu => Or.inl (us e hu), fun e _ => ?_, fun _ => rfl⟩⟩
  · rw [tr_cn_set (z 0 (by omega)) nb_10 24 (by omega), h0]
  · rw [pk_us, if_neg nb_10]; rfl
  · by_cases q : e = 0
    · rw [q, pk_us]; exact Or.inr rfl
    · rw [pk_un q]; exact a1 e
  · by_cases q : e = 0
    · rw [q, pk_us, ft_s]; exact ⟨rfl, hn⟩
    · rw [pk_un q, ft_n q]; exact a2 e he
  · rw [us e hu, pk_us, pk_us, pk_us]
    exact ⟨rfl, rfl, rfl⟩
  · show upd iu 0 1 0 ≠ 0
    rw [pk_us]; exact nb_10
theorem rl_E_ins {ec root : Int32} {iu nm pp ct kc yp : Nat → Int32} {n e f k : Nat} {po : Nat → Option Nat} {c : Nat → Nat} {ch : Nat → Nat → Nat} {g rk : Nat → Nat} (hec : ec = nI (tr_cn iu 24)) (hroot : root = (if iu 0 = 0 then -1 else 0)) (h3 : ∀ j, j < 600 → vp_nar .byte (kc j) = kc j) (hE : rl_E1 iu nm pp ct kc yp po c ch g rk) (hn : n < 6) (he : e < 24) (hu : iu e ≠ 0) (hf : f < 24) (hfu : iu f = 0) (hk : k ≤ c e) :
    rl_E (nI (tr_cn iu 24 + 1)) root (upd iu f 1) (upd nm f (nI n)) (upd (upd pp f (-1)) f (nI e)) (upd (upd ct f 0) e (nI (c e + 1))) (kp_ins kc e (c e) k (nI f)) (upd (upd yp f (-1)) f (nI e)) := by
  obtain ⟨a1, a2, a3, a4, a5⟩ := hE
  obtain ⟨hF, t2, t3, t4⟩ := a5
  have hef : e ≠ f := fun q => hu (q ▸ hfu)
  have u0 : iu 0 ≠ 0 := t3 e hu
  have h0f : 0 ≠ f := fun q => u0 (q ▸ hfu)
  have us' : ∀ x, upd iu f 1 x ≠ 0 ↔ iu x ≠ 0 ∨ x = f := by
    intro x
    by_cases q : x = f
    · rw [q, pk_us]; exact ⟨fun _ => Or.inr rfl, fun _ => nb_10⟩
    · rw [pk_un q]; exact ⟨Or.inl, fun h => h.resolve_right q⟩
  have nf : ∀ x, iu x ≠ 0 → x ≠ f := fun x hx q => hx (q ▸ hfu)
  have hc23 := tr_F_c hF hu
  have hF0 : tr_F (fun x => iu x ≠ 0) po (ft_u c f 0) ch rk := by
    obtain ⟨f1, f2, f3⟩ := hF
    refine ⟨f1, fun p i hp hi => ?_, fun p i j hp hi hj q => ?_⟩
    · rw [ft_n (nf p hp)] at hi; exact f2 p i hp hi
    · rw [ft_n (nf p hp)] at hi hj; exact f3 p i j hp hi hj q
  have hc0 : ft_u c f 0 e = c e := ft_n hef
  have hk0 : k ≤ ft_u c f 0 e := by rw [hc0]; exact hk
  have hne : ∀ x i, iu x ≠ 0 → i < ft_u c f 0 x → ch x i ≠ f := by
    intro x i hx hi q
    have := (hF0.2.1 x i hx hi).1
    rw [q] at this
    exact this hfu
  have hI := tr_ins (us' := fun x => upd iu f 1 x ≠ 0) (po' := ft_u po f (some e)) (rk' := ft_u rk f (rk e + 1)) (k := k) hF0 hu hf hne us' (fun x q => ft_n q) ft_s hk0 (fun _ => ft_s) (Ne.symm hef)
    (fun x i hx hi => by
      rw [ft_n (nf x hx), ft_n (hne x i hx hi)]
      exact (hF0.2.1 x i hx hi).2.2)
    (by rw [ft_n hef, ft_s]; omega)
  have hic : ∀ x, tr_ic (ft_u c f 0) e x = if x = e then c e + 1 else ft_u c f 0 x := by
    intro x
    unfold tr_ic
    rw [hc0]
  refine ⟨?_, ?_, kp_ins_b h3 (nb_vb (by omega)), ft_u po f (some e), tr_ic (ft_u c f 0) e, tr_ik ch e k f, ft_u g f n, ft_u rk f (rk e + 1), fun x => ?_, fun x hx => ?_, fun x hx hux => ?_, ?_, hI, fun x hx => ?_, fun x _ => (us' 0).mpr (Or.inl u0), fun _ => by rw [ft_n h0f]; exact t4 u0⟩
  · rw [tr_cn_set hfu nb_10 24 hf]
  · rw [hroot, pk_un h0f]
  · by_cases q : x = f
    · rw [q, pk_us]; exact Or.inr rfl
    · rw [pk_un q]; exact a1 x
  · by_cases q : x = f
    · rw [q, pk_us, ft_s]; exact ⟨rfl, hn⟩
    · rw [pk_un q, ft_n q]; exact a2 x hx
  · rw [hic]
    by_cases q : x = f
    · have h1 : upd (upd ct f 0) e (nI (c e + 1)) f = 0 := by rw [pk_un (Ne.symm hef), pk_us]
      rw [q, h1, pk_us, pk_us, ft_s, if_neg (Ne.symm hef), ft_s]
      exact ⟨rfl, rfl, rfl⟩
    · have hux' : iu x ≠ 0 := ((us' x).mp hux).resolve_right q
      obtain ⟨b1, b2, b3⟩ := a3 x hx hux'
      rw [pk_un q, pk_un q, pk_un q, pk_un q, ft_n q, ft_n q]
      refine ⟨?_, b2, b3⟩
      by_cases r : x = e
      · rw [r, pk_us, if_pos rfl]
      · rw [pk_un r, pk_un q, if_neg r]; exact b1
  · have := kp_ins_ok (iu := iu) (iu' := upd iu f 1) (c := ft_u c f 0) (ch := ch) (kc := kc) (p := e) (k := k) (e := f) (fun x i hx hux hi => by
        rw [ft_n (nf x hux)] at hi
        exact a4 x i hx hux hi) (by rw [hc0]; exact hc23) hk0 (fun x hx hux => by
        rcases (us' x).mp hux with h | h
        · exact Or.inl h
        · exact Or.inr (by rw [h]; exact ft_s)) (fun x hx hux => by
        rcases (us' x).mp hux with h | h
        · rw [ft_n (nf x h)]
          exact tr_F_c hF h
        · rw [h, ft_s]; omega) he (Ne.symm hef)
    rw [hc0] at this
    exact this
  · by_cases q : x = f
    · rw [q]
      exact Or.inr (tr_PK_e ((us' e).mpr (Or.inl hu)) ft_s hk0)
    · rcases t2 x (((us' x).mp hx).resolve_right q) with h | ⟨p, i, b1, b2, b3, b4⟩
      · exact Or.inl h
      · exact Or.inr (tr_PK_ins (us := fun x => iu x ≠ 0) (po := po) (fun y hy => (us' y).mpr (Or.inl hy)) (ft_n q) hk0 ⟨p, i, b1, b2, by rw [ft_n (nf p b2)]; exact b3, b4⟩)
theorem i_vc_insert {k : Nat} {u : SX} {v : SY} (I : i_Rel k u v) (hk : k + 5 ≤ 2560) (v1 : Int32) (v2 : Int32) (v3 : Int32) : wpX_insert (fun r u' => wpY_insert (fun r' v' => r' = r ∧ i_Rel (k + 5) u' v') v v1 v2 v3) u v1 v2 v3 := by
  refine i_el I (P := fun u v => wpX_insert (fun r u' => wpY_insert (fun r' v' => r' = r ∧ i_Rel (k + 5) u' v') v v1 v2 v3) u v1 v2 v3) ?_
  intro d latestPlace positions fragments elementCount draftKind draftValue weights tokenAt fragmentBegin fragmentFirst fragmentLast fragmentEmpty reachedWith follow bearing accepting kindOfType leastOf greatestOf listedCount listedValue attributeUse attributeType typeOfName inUse nameOf parentOf kidCount kids hasValue valueOf hasAttribute attributeValue walked waiting yroot yrowLength yfirst youts ytop ykind ywith ysize yparent yrow yends ylack yshortest youtKind youtWith ywork yworkWith yweight yfollow yfirsts ylasts ybare ymet ynameAt ytokenAt ytodo hD hT hM hE
  unfold wpX_insert
  obtain ⟨f, f24, f1, f2⟩ := el_free inUse
  have fin : ∀ {post : Int32 → SY → Prop}, wY_insert_26 post v1 v2 v3 (nI f) latestPlace yroot yrowLength yfirst youts ytop ykind ywith ysize kindOfType listedCount attributeUse attributeType leastOf greatestOf listedValue typeOfName inUse hasValue hasAttribute nameOf yparent kids kidCount yrow valueOf attributeValue yends ylack yshortest youtKind youtWith ywork yworkWith yweight yfollow yfirsts ylasts ybare ymet ynameAt ytokenAt ytodo → wpY_insert post (latestPlace, yroot, yrowLength, yfirst, youts, ytop, ykind, ywith, ysize, kindOfType, listedCount, attributeUse, attributeType, leastOf, greatestOf, listedValue, typeOfName, inUse, hasValue, hasAttribute, nameOf, yparent, kids, kidCount, yrow, valueOf, attributeValue, yends, ylack, yshortest, youtKind, youtWith, ywork, yworkWith, yweight, yfollow, yfirsts, ylasts, ybare, ymet, ynameAt, ytokenAt, ytodo) v1 v2 v3 := fun h => ⟨f + 1, sy_ins3 f24 f1 f2 h f 0 (by omega)⟩
  rcases nb_ix v3 6 (by omega) with hv | ⟨n, hn, rfl⟩
  · refine sx_name0 hv ?_
    refine br_t rfl ?_
    refine fin ?_
    unfold wY_insert_26
    refine sy_out1 (n := 6) (by omega) hv ?_
    refine br_f nb_10 ?_
    exact ⟨rfl, i_mk hD hT hM hE⟩
  · refine sx_name1 hn ?_
    refine br_f nb_10 ?_
    have hE' := hE
    obtain ⟨hec, hroot, hb, po, c, ch, g, rk, hE1⟩ := hE'
    have hI := hE1.2.2.2.2
    have cn24 := tr_cn_le inUse 24
    subst hec
    by_cases c0 : tr_cn inUse 24 = 0
    · have z := (tr_cn_none 24).mp c0
      have z0 : inUse 0 = 0 := z 0 (by omega)
      have hr : yroot = -1 := by rw [hroot, if_pos z0]
      obtain rfl : f = 0 := by
        rcases Nat.eq_zero_or_pos f with h | h
        · exact h
        · exact absurd z0 (f1 0 h)
      subst hr
      refine br_t (by rw [c0]; rfl) ?_
      refine sx_newElement (f := 0) (ec' := nI 1) (by omega) (fun j hj => by omega) z0 (by rw [c0]; rfl) ?_
      refine fin ?_
      unfold wY_insert_26
      refine sy_out0 (n := 6) (by omega) hn ?_
      refine br_t rfl ?_
      refine br_t (by decide) ?_
      exact sy_ins64R (f := 0) (by omega) hn ⟨rfl, i_mk hD hT hM (rl_E_new hE c0 hn)⟩
    · refine br_f (fun e => c0 ((nI_eq (b := 0) (by omega) (by omega)).mp e)) ?_
      have u0 : inUse 0 ≠ 0 := by
        intro z0
        apply c0
        refine (tr_cn_none 24).mpr (fun i _ => ?_)
        apply Classical.byContradiction
        intro h
        exact hI.2.2.1 i h z0
      have hr : yroot = 0 := by rw [hroot, if_neg u0]
      subst hr
      have bad : (f = 24 ∨ ((v1 < 0 ∨ nI 24 ≤ v1) ∨ ∃ j, j < 24 ∧ v1 = nI j ∧ inUse j = 0) ∨ v2 < 0 ∨ ∃ e, e < 24 ∧ v1 = nI e ∧ inUse e ≠ 0 ∧ kidCount e < v2) → wpY_insert (fun r' v' => r' = -1 ∧ i_Rel (k + 5) (nI d, latestPlace, positions, fragments, nI (tr_cn inUse 24), draftKind, draftValue, weights, tokenAt, fragmentBegin, fragmentFirst, fragmentLast, fragmentEmpty, reachedWith, follow, bearing, accepting, kindOfType, leastOf, greatestOf, listedCount, listedValue, attributeUse, attributeType, typeOfName, inUse, nameOf, parentOf, kidCount, kids, hasValue, valueOf, hasAttribute, attributeValue, walked, waiting) v') (latestPlace, 0, yrowLength, yfirst, youts, ytop, ykind, ywith, ysize, kindOfType, listedCount, attributeUse, attributeType, leastOf, greatestOf, listedValue, typeOfName, inUse, hasValue, hasAttribute, nameOf, yparent, kids, kidCount, yrow, valueOf, attributeValue, yends, ylack, yshortest, youtKind, youtWith, ywork, yworkWith, yweight, yfollow, yfirsts, ylasts, ybare, ymet, ynameAt, ytokenAt, ytodo) v1 v2 (nI n) := by
        intro hbad
        refine fin ?_
        unfold wY_insert_26
        refine sy_out0 (n := 6) (by omega) hn ?_
        refine br_t rfl ?_
        refine br_f (by decide) ?_
        rcases el_cs inUse v1 with h | ⟨e, he, rfl, hu⟩
        · try unfold wpY_insert
          refine sy_no1 h ?_
          refine br_f nb_10 ?_
          exact ⟨rfl, i_mk hD hT hM hE⟩
        · try unfold wpY_insert
          refine sy_no0 he hu ?_
          refine br_t rfl ?_
          by_cases h0 : v2 < 0
          · exact br_t h0 ⟨rfl, i_mk hD hT hM hE⟩
          · refine br_f h0 ⟨vp_in_nI he (by omega), ?_⟩
            rw [nb_cl (by omega)]
            by_cases h1 : kidCount e < v2
            · exact br_t h1 ⟨rfl, i_mk hD hT hM hE⟩
            · refine br_f h1 ?_
              have hf : f = 24 := by
                rcases hbad with h | h | h | ⟨e', he', q, _, h⟩
                · exact h
                · rcases h with h | ⟨j, hj, q, hz⟩
                  · rcases h with h | h
                    · exact absurd h (nI_pos (by omega))
                    · exact absurd h (nI_ge (b := 24) he (by omega))
                  · obtain rfl := (nI_eq (by omega) (by omega)).mp q
                    exact absurd hz hu
                · exact absurd h h0
                · obtain rfl := (nI_eq (by omega) (by omega)).mp q
                  exact absurd h h1
              exact br_t (by rw [hf]; rfl) ⟨rfl, i_mk hD hT hM hE⟩
      refine pk_le 24 (tr_cn inUse 24) (fun h => bad (Or.inl ?_)) (fun hlt => ?_)
      · apply Classical.byContradiction
        intro hf
        have := (tr_cn_full (U := inUse) 24).mp (by omega) f (by omega)
        exact this (f2 (by omega))
      · rcases el_cs inUse v1 with h | ⟨e, he, rfl, hu⟩
        · refine sx_elem0 h ?_
          refine br_t rfl ?_
          exact bad (Or.inr (Or.inl h))
        · refine sx_elem1 he hu ?_
          refine br_f nb_10 ?_
          have h23 := tr_F_c hI.1 hu
          have em : kidCount e = nI (c e) := (hE1.2.2.1 e he hu).1
          have hf : f < 24 := by
            rcases Nat.lt_or_ge f 24 with h | h
            · exact h
            · have := (tr_cn_full (U := inUse) 24).mpr (fun i hi => f1 i (by omega))
              omega
          by_cases h0 : v2 < 0
          · exact br_t h0 (bad (Or.inr (Or.inr (Or.inl h0))))
          · obtain ⟨i, hi, rfl⟩ := nI_of h0
            refine br_f h0 ⟨vp_in_nI he (by omega), ?_⟩
            rw [nb_cl (by omega)]
            refine pk_le i (c e) (fun hle => ?_) (fun hgt => bad (Or.inr (Or.inr (Or.inr ⟨e, he, rfl, hu, by rw [em]; exact nI_lt hgt hi⟩)))) rfl em
            have hfe : f ≠ e := fun q => hu (q ▸ f2 hf)
            refine sx_newElement (ec' := nI (tr_cn inUse 24 + 1)) hf f1 (f2 hf) (nI_1 _) ?_
            refine sx_attach (kidCount := upd kidCount f 0) (parentOf := upd parentOf f (-1)) he hf h23 hle (by rw [pk_un (Ne.symm hfe), em]) ?_
            refine fin ?_
            unfold wY_insert_26
            refine sy_out0 (n := 6) (by omega) hn ?_
            refine br_t rfl ?_
            refine br_f (by decide) ?_
            refine sy_no0 he hu ?_
            refine br_t rfl ?_
            refine br_f h0 ⟨vp_in_nI he (by omega), br_f ?_ ?_⟩
            · rw [nb_cl (by omega), em]; exact nI_nlt hle (by omega)
            · exact sy_ins64P hf hn he hfe h23 hle em hb ⟨rfl, i_mk hD hT hM (rl_E_ins rfl hroot hb hE1 hn he hu hf (f2 hf) hle)⟩
end
section
/-! ===== within and below, move ===== -/
theorem tr_up {us : Nat → Prop} {po : Nat → Option Nat} {c : Nat → Nat} {ch : Nat → Nat → Nat} {rk : Nat → Nat} (h : tr_I us po c ch rk) {x p : Nat} (hx : us x) (hp : po x = some p) : us p ∧ rk p < rk x ∧ ∃ k, k < c p ∧ ch p k = x := by
  obtain ⟨hF, t2, t3, t4⟩ := h
  rcases t2 x hx with e | ⟨q, k, b1, b2, b3, b4⟩
  · rw [e] at hp hx
    rw [t4 hx] at hp
    cases hp
  · rw [b1] at hp
    have e : q = p := Option.some.inj hp
    subst e
    have := (hF.2.1 q k b2 b3).2.2
    rw [b4] at this
    exact ⟨b2, this, k, b3, b4⟩
theorem tr_B_up {po : Nat → Option Nat} {e x p : Nat} (hx : x ≠ e) (hp : po x = some p) : (∃ j, tr_B po e j x) ↔ ∃ j, tr_B po e j p := by
  constructor
  · rintro ⟨j, h⟩
    cases j with
    | zero => exact (hx h).elim
    | succ j =>
      rcases h with h | ⟨y, hy, h⟩
      · exact (hx h).elim
      · rw [hp] at hy
        rw [Option.some.inj hy]
        exact ⟨j, h⟩
  · rintro ⟨j, h⟩
    exact ⟨j + 1, Or.inr ⟨p, hp, h⟩⟩
theorem tr_B_no {po : Nat → Option Nat} {e x : Nat} (hx : x ≠ e) (hp : po x = none) : ¬ ∃ j, tr_B po e j x := by
  rintro ⟨j, h⟩
  cases j with
  | zero => exact hx h
  | succ j =>
    rcases h with h | ⟨y, hy, h⟩
    · exact hx h
    · rw [hp] at hy; cases hy
section
variable {drafted latestPlace positions fragments elementCount : Int32} {draftKind draftValue weights tokenAt fragmentBegin fragmentFirst fragmentLast fragmentEmpty reachedWith follow bearing accepting kindOfType leastOf greatestOf listedCount listedValue attributeUse attributeType typeOfName inUse nameOf parentOf kidCount kids hasValue valueOf hasAttribute attributeValue walked waiting : Nat → Int32} {yplace yroot yrowLength yfirst youts ytop : Int32} {ykind ywith ysize ysort ymany yuse ytypeOf yleast ygreatest ylisted ytypeOfName yused yvalued ygiven yname yparent ychildren ycount yrow yvalue yattributes yends ylack yshortest youtKind youtWith ywork yworkWith yweight yfollow yfirsts ylasts ybare ymet ynameAt ytokenAt ytodo : Nat → Int32}
theorem sx_with5 {post : Int32 → Prop} {iu : Nat → Int32} {po : Nat → Option Nat} {c : Nat → Nat} {ch : Nat → Nat → Nat} {rk : Nat → Nat} {e : Nat} (hI : tr_I (fun x => iu x ≠ 0) po c ch rk) (hpp : ∀ x, x < 24 → iu x ≠ 0 → parentOf x = rl_p (po x)) (he : e < 24) : ∀ (r x : Nat) (l : List Nat), rk x ≤ r → iu x ≠ 0 → l.Nodup → (∀ y, y ∈ l → iu y ≠ 0 ∧ rk x < rk y) → ((∃ j, tr_B po e j x) → post 1) → ((¬ ∃ j, tr_B po e j x) → post 0) → wX_isWithin_5 post (nI e) drafted latestPlace positions fragments elementCount draftKind draftValue weights tokenAt fragmentBegin fragmentFirst fragmentLast fragmentEmpty reachedWith follow bearing accepting kindOfType leastOf greatestOf listedCount listedValue attributeUse attributeType typeOfName inUse nameOf parentOf kidCount kids hasValue valueOf hasAttribute attributeValue walked waiting (r + 2) (nI x) (nI l.length) := by
  have lt24 := hI.1.1
  intro r
  induction r with
  | zero =>
    intro x l hr hx hl hm h1 h0
    have hx24 := lt24 x hx
    have hl24 : l.length < 24 := by
      have := tr_pig 24 (x :: l) (List.nodup_cons.mpr ⟨fun h => by have := (hm x h).2; omega, hl⟩) (fun y hy => by
        rcases List.mem_cons.mp hy with q | q
        · rw [q]; exact hx24
        · exact lt24 y (hm y q).1)
      rw [List.length_cons] at this
      omega
    refine br_f (nb_nm (by omega)) (br_f (nI_ge (b := 24) hl24 (by omega)) ?_)
    by_cases q : x = e
    · exact br_t (by rw [q]) (h1 ⟨0, q⟩)
    · refine br_f (fun h => q ((nI_eq (by omega) (by omega)).mp h)) ⟨vp_in_nI hx24 (by omega), nm_r (e' := rl_p (po x)) (by rw [nb_cl (by omega), hpp x hx24 hx]) (nm_e ?_)⟩
      cases hp : po x with
      | none => exact br_t rfl (h0 (tr_B_no q hp))
      | some p => have := (tr_up hI hx hp).2.1; omega
  | succ r ih =>
    intro x l hr hx hl hm h1 h0
    have hx24 := lt24 x hx
    have hnd : (x :: l).Nodup := List.nodup_cons.mpr ⟨fun h => by have := (hm x h).2; omega, hl⟩
    have hl24 : l.length < 24 := by
      have := tr_pig 24 (x :: l) hnd (fun y hy => by
        rcases List.mem_cons.mp hy with q | q
        · rw [q]; exact hx24
        · exact lt24 y (hm y q).1)
      rw [List.length_cons] at this
      omega
    refine br_f (nb_nm (by omega)) (br_f (nI_ge (b := 24) hl24 (by omega)) ?_)
    by_cases q : x = e
    · exact br_t (by rw [q]) (h1 ⟨0, q⟩)
    · refine br_f (fun h => q ((nI_eq (by omega) (by omega)).mp h)) ⟨vp_in_nI hx24 (by omega), nm_r (e' := rl_p (po x)) (by rw [nb_cl (by omega), hpp x hx24 hx]) (nm_r (nI_1 _) ?_)⟩
      cases hp : po x with
      | none => exact br_t rfl (h0 (tr_B_no q hp))
      | some p =>
        obtain ⟨up, hrp, _⟩ := tr_up hI hx hp
        have hb := tr_B_up q hp
        refine ih p (x :: l) (by omega) up hnd (fun y hy => ?_) (fun h => h1 (hb.mpr h)) (fun h => h0 (fun h' => h (hb.mp h')))
        rcases List.mem_cons.mp hy with q | q
        · rw [q]; exact ⟨hx, hrp⟩
        · obtain ⟨m1, m2⟩ := hm y q
          exact ⟨m1, by omega⟩
theorem sx_isWithin {post : Int32 → Prop} {iu : Nat → Int32} {po : Nat → Option Nat} {c : Nat → Nat} {ch : Nat → Nat → Nat} {rk : Nat → Nat} {e x : Nat} (hI : tr_I (fun x => iu x ≠ 0) po c ch rk) (hpp : ∀ x, x < 24 → iu x ≠ 0 → parentOf x = rl_p (po x)) (he : e < 24) (hx : iu x ≠ 0) (h1 : (∃ j, tr_B po e j x) → post 1) (h0 : (¬ ∃ j, tr_B po e j x) → post 0) : wpX_isWithin post (drafted, latestPlace, positions, fragments, elementCount, draftKind, draftValue, weights, tokenAt, fragmentBegin, fragmentFirst, fragmentLast, fragmentEmpty, reachedWith, follow, bearing, accepting, kindOfType, leastOf, greatestOf, listedCount, listedValue, attributeUse, attributeType, typeOfName, inUse, nameOf, parentOf, kidCount, kids, hasValue, valueOf, hasAttribute, attributeValue, walked, waiting) (nI x) (nI e) :=
  ⟨rk x + 2, sx_with5 hI hpp he (rk x) x [] (Nat.le_refl _) hx List.nodup_nil (fun y hy => by cases hy) h1 h0⟩
theorem sy_below2 {post : Int32 → Prop} {iu : Nat → Int32} {po : Nat → Option Nat} {c : Nat → Nat} {ch : Nat → Nat → Nat} {rk : Nat → Nat} {e : Nat} (hI : tr_I (fun x => iu x ≠ 0) po c ch rk) (hpp : ∀ x, x < 24 → iu x ≠ 0 → yparent x = rl_p (po x)) (he : e < 24) : ∀ r x, rk x ≤ r → iu x ≠ 0 → ((∃ j, tr_B po e j x) → post 1) → ((¬ ∃ j, tr_B po e j x) → post 0) → wY_below_2 post (nI e) yplace yroot yrowLength yfirst youts ytop ykind ywith ysize ysort ymany yuse ytypeOf yleast ygreatest ylisted ytypeOfName yused yvalued ygiven yname yparent ychildren ycount yrow yvalue yattributes yends ylack yshortest youtKind youtWith ywork yworkWith yweight yfollow yfirsts ylasts ybare ymet ynameAt ytokenAt ytodo (r + 2) (nI x) := by
  have lt24 := hI.1.1
  intro r
  induction r with
  | zero =>
    intro x hr hx h1 h0
    have hx24 := lt24 x hx
    refine br_f (nI_pos (by omega)) ?_
    by_cases q : x = e
    · exact br_t (by rw [q]) (br_t (by rw [q]) (h1 ⟨0, q⟩))
    · have q' : ¬ nI x = nI e := fun h => q ((nI_eq (by omega) (by omega)).mp h)
      refine br_f q' ⟨vp_in_nI hx24 (by omega), nm_r (e' := rl_p (po x)) (by rw [nb_cl (by omega), hpp x hx24 hx]) ?_⟩
      cases hp : po x with
      | none => exact br_t (by decide) (br_f (fun h => nb_nm (by omega) h.symm) (h0 (tr_B_no q hp)))
      | some p => have := (tr_up hI hx hp).2.1; omega
  | succ r ih =>
    intro x hr hx h1 h0
    have hx24 := lt24 x hx
    refine br_f (nI_pos (by omega)) ?_
    by_cases q : x = e
    · exact br_t (by rw [q]) (br_t (by rw [q]) (h1 ⟨0, q⟩))
    · have q' : ¬ nI x = nI e := fun h => q ((nI_eq (by omega) (by omega)).mp h)
      refine br_f q' ⟨vp_in_nI hx24 (by omega), nm_r (e' := rl_p (po x)) (by rw [nb_cl (by omega), hpp x hx24 hx]) ?_⟩
      cases hp : po x with
      | none => exact br_t (by decide) (br_f (fun h => nb_nm (by omega) h.symm) (h0 (tr_B_no q hp)))
      | some p =>
        obtain ⟨up, hrp, _⟩ := tr_up hI hx hp
        have hb := tr_B_up q hp
        exact ih p (by omega) up (fun h => h1 (hb.mpr h)) (fun h => h0 (fun h' => h (hb.mp h')))
theorem sy_below {post : Int32 → Prop} {iu : Nat → Int32} {po : Nat → Option Nat} {c : Nat → Nat} {ch : Nat → Nat → Nat} {rk : Nat → Nat} {e x : Nat} (hI : tr_I (fun x => iu x ≠ 0) po c ch rk) (hpp : ∀ x, x < 24 → iu x ≠ 0 → yparent x = rl_p (po x)) (he : e < 24) (hx : iu x ≠ 0) (h1 : (∃ j, tr_B po e j x) → post 1) (h0 : (¬ ∃ j, tr_B po e j x) → post 0) : wpY_below post (yplace, yroot, yrowLength, yfirst, youts, ytop, ykind, ywith, ysize, ysort, ymany, yuse, ytypeOf, yleast, ygreatest, ylisted, ytypeOfName, yused, yvalued, ygiven, yname, yparent, ychildren, ycount, yrow, yvalue, yattributes, yends, ylack, yshortest, youtKind, youtWith, ywork, yworkWith, yweight, yfollow, yfirsts, ylasts, ybare, ymet, ynameAt, ytokenAt, ytodo) (nI x) (nI e) :=
  ⟨rk x + 2, sy_below2 hI hpp he (rk x) x (Nat.le_refl _) hx h1 h0⟩
end
noncomputable def tr_rk (po : Nat → Option Nat) (e d : Nat) (rk : Nat → Nat) (x : Nat) : Nat := @ite Nat (∃ j, tr_B po e j x) (Classical.propDecidable _) (rk x + d) (rk x)
theorem tr_rk_t {po : Nat → Option Nat} {e d : Nat} {rk : Nat → Nat} {x : Nat} (h : ∃ j, tr_B po e j x) : tr_rk po e d rk x = rk x + d := @if_pos _ (Classical.propDecidable _) h _ _ _
theorem tr_rk_f {po : Nat → Option Nat} {e d : Nat} {rk : Nat → Nat} {x : Nat} (h : ¬ ∃ j, tr_B po e j x) : tr_rk po e d rk x = rk x := @if_neg _ (Classical.propDecidable _) h _ _ _
/-- a kid at a place: by its number alone -/
theorem rl_kid {iu kc : Nat → Int32} {po : Nat → Option Nat} {c : Nat → Nat} {ch : Nat → Nat → Nat} {rk : Nat → Nat} {q s e : Nat} (hF : tr_F (fun x => iu x ≠ 0) po c ch rk) (a4 : ∀ e k, e < 24 → iu e ≠ 0 → k < c e → kc (24 * e + k) = nI (ch e k)) (hq : iu q ≠ 0) (hs : s < c q) (he : ch q s = e) : ∀ i, i < c q → (kc (24 * q + i) = nI e ↔ i = s) := by
  intro i hi
  have l1 := hF.1 _ (hF.2.1 q i hq hi).1
  have l2 := hF.1 _ (hF.2.1 q s hq hs).1
  rw [he] at l2
  rw [a4 q i (hF.1 q hq) hq hi, nI_eq (by omega) (by omega)]
  constructor
  · intro h; exact hF.2.2 q i s hq hi hs (h.trans he.symm)
  · intro h; rw [h, he]
theorem rl_E_mov {ec root : Int32} {iu nm pp ct kc yp : Nat → Int32} {e q s p k : Nat} {po : Nat → Option Nat} {c : Nat → Nat} {ch : Nat → Nat → Nat} {g rk : Nat → Nat} (hec : ec = nI (tr_cn iu 24)) (hroot : root = (if iu 0 = 0 then -1 else 0)) (h3 : ∀ j, j < 600 → vp_nar .byte (kc j) = kc j) (hE : rl_E1 iu nm pp ct kc yp po c ch g rk) (he : e < 24) (hu : iu e ≠ 0) (hq : po e = some q) (hs : s < c q) (hch : ch q s = e) (hp : p < 24) (hup : iu p ≠ 0) (hB : ¬ ∃ j, tr_B po e j p) (hk : k ≤ tr_dc c q p) :
    rl_E ec root iu nm (upd (upd pp e (-1)) e (nI p)) (upd (upd ct q (nI (c q - 1))) p (nI (tr_dc c q p + 1))) (kp_ins (kp_del kc q s (c q)) p (tr_dc c q p) k (nI e)) (upd yp e (nI p)) := by
  obtain ⟨a1, a2, a3, a4, a5⟩ := hE
  have hI := a5
  obtain ⟨hF, t2, t3, t4⟩ := a5
  obtain ⟨uq, rq, _⟩ := tr_up hI hu hq
  have hq24 := hF.1 q uq
  have hep : e ≠ p := fun h => hB ⟨0, h.symm⟩
  have e0 : e ≠ 0 := by
    intro h
    rw [h] at hq hu
    rw [t4 hu] at hq
    cases hq
  have hD := tr_del (q := q) (s := s) hF
  have hno := tr_del_no hF uq hs hch
  have hc23 : ∀ x, x < 24 → iu x ≠ 0 → tr_dc c q x ≤ 23 := fun x _ hx => tr_F_c hD hx
  have hN := tr_ins (us' := fun x => iu x ≠ 0) (po' := ft_u po e (some p)) (rk' := tr_rk po e (rk p + 1) rk) (k := k) hD hup he hno (fun x => ⟨Or.inl, fun h => h.elim id (fun h => by rw [h]; exact hu)⟩) (fun x h => ft_n h) ft_s hk (fun h => absurd hu h) hep
    (fun x i hx hi => by
      obtain ⟨_, f2, f3⟩ := hD.2.1 x i hx hi
      have hb := tr_B_up (e := e) (hno x i hx hi) f2
      by_cases h : ∃ j, tr_B po e j x
      · rw [tr_rk_t h, tr_rk_t (hb.mpr h)]; omega
      · rw [tr_rk_f h, tr_rk_f (fun h' => h (hb.mp h'))]; exact f3)
    (by rw [tr_rk_f hB, tr_rk_t ⟨0, rfl⟩]; omega)
  refine ⟨hec, hroot, kp_ins_b (kp_del_b h3 (by have := tr_F_c hF uq; omega)) (nb_vb (by omega)), ft_u po e (some p), tr_ic (tr_dc c q) p, tr_ik (tr_dk ch q s) p k e, g, tr_rk po e (rk p + 1) rk, a1, a2, fun x hx hux => ?_, ?_, hN, fun x hx => ?_, t3, fun h => by rw [ft_n (Ne.symm e0)]; exact t4 h⟩
  · obtain ⟨b1, b2, b3⟩ := a3 x hx hux
    have b1' : upd ct q (nI (c q - 1)) x = nI (tr_dc c q x) := by
      unfold tr_dc
      by_cases r : x = q
      · rw [r, pk_us, if_pos rfl]
      · rw [pk_un r, if_neg r]; exact b1
    refine ⟨?_, ?_, ?_⟩
    · unfold tr_ic
      by_cases r : x = p
      · rw [r, pk_us, if_pos rfl]
      · rw [pk_un r, if_neg r]; exact b1'
    · by_cases r : x = e
      · rw [r, pk_us, ft_s]; rfl
      · rw [pk_un r, pk_un r, ft_n r]; exact b2
    · by_cases r : x = e
      · rw [r, pk_us, ft_s]; rfl
      · rw [pk_un r, ft_n r]; exact b3
  · exact kp_ins_ok (iu := iu) (iu' := iu) (kp_del_ok a4 (fun x _ hx => tr_F_c hF hx) hq24 uq) (hc23 p hp hup) hk (fun x _ h => Or.inl h) hc23 hp hep
  · by_cases r : x = e
    · rw [r]
      exact Or.inr (tr_PK_e hup ft_s hk)
    · rcases t2 x hx with h | h
      · exact Or.inl h
      · exact Or.inr (tr_PK_ins (us := fun x => iu x ≠ 0) (fun y hy => hy) (ft_n r) hk (tr_PK_del hs hch r h))
theorem i_vc_move {k : Nat} {u : SX} {v : SY} (I : i_Rel k u v) (hk : k + 5 ≤ 2560) (v1 : Int32) (v2 : Int32) (v3 : Int32) : wpX_move (fun r u' => wpY_move (fun r' v' => r' = r ∧ i_Rel (k + 5) u' v') v v1 v2 v3) u v1 v2 v3 := by
  refine i_el I (P := fun u v => wpX_move (fun r u' => wpY_move (fun r' v' => r' = r ∧ i_Rel (k + 5) u' v') v v1 v2 v3) u v1 v2 v3) ?_
  intro d latestPlace positions fragments elementCount draftKind draftValue weights tokenAt fragmentBegin fragmentFirst fragmentLast fragmentEmpty reachedWith follow bearing accepting kindOfType leastOf greatestOf listedCount listedValue attributeUse attributeType typeOfName inUse nameOf parentOf kidCount kids hasValue valueOf hasAttribute attributeValue walked waiting yroot yrowLength yfirst youts ytop ykind ywith ysize yparent yrow yends ylack yshortest youtKind youtWith ywork yworkWith yweight yfollow yfirsts ylasts ybare ymet ynameAt ytokenAt ytodo hD hT hM hE
  unfold wpX_move
  have hE' := hE
  obtain ⟨hec, hroot, hb, po, c, ch, g, rk, hE1⟩ := hE'
  have hI := hE1.2.2.2.2
  rcases el_cs inUse v1 with hv | ⟨e, he, rfl, hu⟩
  · refine sx_elem0 hv ?_
    refine br_t rfl ?_
    try unfold wpY_move
    refine sy_no1 hv ?_
    refine br_f nb_10 ?_
    exact ⟨rfl, i_mk hD hT hM hE⟩
  · refine sx_elem1 he hu ?_
    refine br_f nb_10 ?_
    rcases el_cs inUse v2 with hv | ⟨p, hp, rfl, hup⟩
    · refine sx_elem0 hv ?_
      refine br_t rfl ?_
      try unfold wpY_move
      refine sy_no0 he hu ?_
      refine br_t rfl ?_
      refine sy_no1 hv ?_
      refine br_f nb_10 ?_
      exact ⟨rfl, i_mk hD hT hM hE⟩
    · refine sx_elem1 hp hup ?_
      refine br_f nb_10 ?_
      have hX : ∀ x, x < 24 → inUse x ≠ 0 → parentOf x = rl_p (po x) := fun x h1 h2 => (hE1.2.2.1 x h1 h2).2.1
      have hY : ∀ x, x < 24 → inUse x ≠ 0 → yparent x = rl_p (po x) := fun x h1 h2 => (hE1.2.2.1 x h1 h2).2.2
      refine sx_isWithin hI hX he hup (fun hB => ?_) (fun hB => ?_)
      · refine br_f nb_10 ?_
        unfold wpY_move
        refine sy_no0 he hu ?_
        refine br_t rfl ?_
        refine sy_no0 hp hup ?_
        refine br_t rfl ?_
        exact sy_below hI hY he hup (fun _ => br_f nb_10 ⟨rfl, i_mk hD hT hM hE⟩) (fun h => absurd hB h)
      · have hep : e ≠ p := fun h => hB ⟨0, h.symm⟩
        have e0 : ∃ q, po e = some q := by
          rcases hI.2.1 e hu with h | ⟨q, _, h, _⟩
          · exfalso
            -- every element is below the root
            have all : ∀ r x, rk x ≤ r → inUse x ≠ 0 → ∃ j, tr_B po 0 j x := by
              intro r
              induction r with
              | zero =>
                intro x hr hx
                rcases hI.2.1 x hx with h | ⟨y, i, h1, h2, h3, h4⟩
                · exact ⟨0, h⟩
                · have := (tr_up hI hx h1).2.1; omega
              | succ r ih =>
                intro x hr hx
                rcases hI.2.1 x hx with h | ⟨y, i, h1, h2, h3, h4⟩
                · exact ⟨0, h⟩
                · have h5 := (tr_up hI hx h1).2.1
                  obtain ⟨j, hj⟩ := ih y (by omega) h2
                  exact ⟨j + 1, Or.inr ⟨y, h1, hj⟩⟩
            rw [h] at hB
            exact hB (all (rk p) p (Nat.le_refl _) hup)
          · exact ⟨q, h⟩
        obtain ⟨q, hq⟩ := e0
        obtain ⟨uq, rq, s, hs, hch⟩ := tr_up hI hu hq
        have hq24 := hI.1.1 q uq
        have ee : (nI e).toNatClampNeg = e := nb_cl (by omega)
        have ep : (nI p).toNatClampNeg = p := nb_cl (by omega)
        have ve : vp_in (nI e) 24 := vp_in_nI he (by omega)
        have vp : vp_in (nI p) 24 := vp_in_nI hp (by omega)
        have eX : parentOf (nI e).toNatClampNeg = nI q := by rw [ee, hX e he hu, hq]; rfl
        have eY : yparent (nI e).toNatClampNeg = nI q := by rw [ee, hY e he hu, hq]; rfl
        have cp : kidCount p = nI (c p) := (hE1.2.2.1 p hp hup).1
        have cq : kidCount q = nI (c q) := (hE1.2.2.1 q hq24 uq).1
        have hp23 := tr_F_c hI.1 hup
        have hq23 := tr_F_c hI.1 uq
        have hd23 := tr_F_c (tr_del (q := q) (s := s) hI.1) hup
        have hkid := rl_kid hI.1 hE1.2.2.2.1 uq hs hch
        have oX : ∀ {P : Int32 → Prop}, P (nI (tr_dc c q p)) → ((nI q = nI p → vp_in (nI p) 24 ∧ P (kidCount (nI p).toNatClampNeg - 1)) ∧ (¬ nI q = nI p → vp_in (nI p) 24 ∧ P (kidCount (nI p).toNatClampNeg))) := by
          intro P h
          rw [ep, cp]
          by_cases r : p = q
          · refine br_t (by rw [r]) ⟨vp, ?_⟩
            unfold tr_dc at h
            rw [if_pos r, ← r] at h
            rw [nb_s1 (by rw [r]; omega)]
            exact h
          · refine br_f (fun h => r ((nI_eq (by omega) (by omega)).mp h).symm) ⟨vp, ?_⟩
            unfold tr_dc at h
            rw [if_neg r] at h
            exact h
        have yM : ∀ {post : Int32 → SY → Prop}, wY_move_54 post (nI e) (nI p) v3 (nI (tr_dc c q p)) latestPlace yroot yrowLength yfirst youts ytop ykind ywith ysize kindOfType listedCount attributeUse attributeType leastOf greatestOf listedValue typeOfName inUse hasValue hasAttribute nameOf yparent kids kidCount yrow valueOf attributeValue yends ylack yshortest youtKind youtWith ywork yworkWith yweight yfollow yfirsts ylasts ybare ymet ynameAt ytokenAt ytodo → wpY_move post (latestPlace, yroot, yrowLength, yfirst, youts, ytop, ykind, ywith, ysize, kindOfType, listedCount, attributeUse, attributeType, leastOf, greatestOf, listedValue, typeOfName, inUse, hasValue, hasAttribute, nameOf, yparent, kids, kidCount, yrow, valueOf, attributeValue, yends, ylack, yshortest, youtKind, youtWith, ywork, yworkWith, yweight, yfollow, yfirsts, ylasts, ybare, ymet, ynameAt, ytokenAt, ytodo) (nI e) (nI p) v3 := by
          intro post h
          try unfold wpY_move
          refine sy_no0 he hu ?_
          refine br_t rfl ?_
          refine sy_no0 hp hup ?_
          refine br_t rfl ?_
          refine sy_below hI hY he hup (fun h' => absurd h' hB) (fun _ => br_t rfl ⟨ve, ?_⟩)
          show (yparent (nI e).toNatClampNeg = nI p → _) ∧ _
          rw [eY]
          exact oX (P := fun z => wY_move_54 post (nI e) (nI p) v3 z latestPlace yroot yrowLength yfirst youts ytop ykind ywith ysize kindOfType listedCount attributeUse attributeType leastOf greatestOf listedValue typeOfName inUse hasValue hasAttribute nameOf yparent kids kidCount yrow valueOf attributeValue yends ylack yshortest youtKind youtWith ywork yworkWith yweight yfollow yfirsts ylasts ybare ymet ynameAt ytokenAt ytodo) h
        refine br_t rfl ⟨ve, ?_⟩
        show (parentOf (nI e).toNatClampNeg = nI p → _) ∧ _
        rw [eX]
        refine oX (P := fun z => wX_move_54 _ (nI e) (nI p) v3 z (nI d) latestPlace positions fragments elementCount draftKind draftValue weights tokenAt fragmentBegin fragmentFirst fragmentLast fragmentEmpty reachedWith follow bearing accepting kindOfType leastOf greatestOf listedCount listedValue attributeUse attributeType typeOfName inUse nameOf parentOf kidCount kids hasValue valueOf hasAttribute attributeValue walked waiting) ?_
        by_cases h0 : v3 < 0
        · exact br_t h0 (yM (br_t h0 ⟨rfl, i_mk hD hT hM hE⟩))
        · obtain ⟨i, hi, rfl⟩ := nI_of h0
          refine br_f h0 ?_
          by_cases hle : i ≤ tr_dc c q p
          · refine br_t (nI_le hle (by omega)) ?_
            have ct' : upd kidCount q (nI (c q - 1)) p = nI (tr_dc c q p) := by
              unfold tr_dc
              by_cases r : p = q
              · rw [r, pk_us, if_pos rfl]
              · rw [pk_un r, if_neg r]; exact cp
            refine sx_detach (e := e) hq24 he hq23 hs (by rw [hX e he hu, hq]; rfl) cq hkid ?_
            refine sx_attach (e := e) (p := p) (k := i) (kids := kp_del kids q s (c q)) (kidCount := upd kidCount q (nI (c q - 1))) (parentOf := upd parentOf e (-1)) hp he hd23 hle ct' ?_
            refine yM ?_
            refine br_f h0 (br_t (nI_le hle (by omega)) ?_)
            refine sy_take (e := e) hq24 he hq23 hs (by rw [hY e he hu, hq]; rfl) cq hb hkid ?_
            refine sy_put (e := e) (p := p) (k := i) (ychildren := kp_del kids q s (c q)) (ycount := upd kidCount q (nI (c q - 1))) hp he hd23 hle ct' (kp_del_b hb (by omega)) ?_
            exact ⟨rfl, i_mk hD hT hM (rl_E_mov hec hroot hb hE1 he hu hq hs hch hp hup hB hle)⟩
          · have nle : ¬ nI i ≤ nI (tr_dc c q p) := nI_ge (by omega) hi
            exact br_f nle (yM (br_f h0 (br_f nle ⟨rfl, i_mk hD hT hM hE⟩)))
end
section
/-! ===== the walk, remove ===== -/
theorem nb_dec (x : Int32) : x - 1 = x + (-1) := by rw [Int32.sub_eq_add_neg]
theorem nb_d0 : nI 0 + (-1) < 0 := by decide
def wt_R (wa : Nat → Int32) : List Nat → Prop
  | [] => True
  | x :: l => wa l.length = nI x ∧ wt_R wa l
theorem wt_upd {wa : Nat → Int32} {j : Nat} {v : Int32} : ∀ l : List Nat, l.length ≤ j → wt_R wa l → wt_R (upd wa j v) l := by
  intro l
  induction l with
  | nil => intro _ _; exact trivial
  | cons x l ih =>
    intro h hw
    rw [List.length_cons] at h
    exact ⟨by rw [pk_un (by omega)]; exact hw.1, ih (by omega) hw.2⟩
def wk_R (wk : Nat → Int32) (ws : List Nat) : Prop := ∀ (i x : Nat), ws[i]? = some x → wk i = nI x
theorem wk_snoc {wk : Nat → Int32} {ws : List Nat} {e : Nat} (h : wk_R wk ws) : wk_R (upd wk ws.length (nI e)) (ws ++ [e]) := by
  intro i x hx
  rw [List.getElem?_append] at hx
  by_cases q : i < ws.length
  · rw [if_pos q] at hx
    rw [pk_un (by omega)]
    exact h i x hx
  · rw [if_neg q] at hx
    by_cases q2 : i = ws.length
    · rw [q2, Nat.sub_self] at hx
      have hx' : some e = some x := hx
      rw [q2, pk_us, Option.some.inj hx']
    · rw [List.getElem?_eq_none (by rw [List.length_singleton]; omega)] at hx
      cases hx
section
variable {drafted latestPlace positions fragments elementCount : Int32} {draftKind draftValue weights tokenAt fragmentBegin fragmentFirst fragmentLast fragmentEmpty reachedWith follow bearing accepting kindOfType leastOf greatestOf listedCount listedValue attributeUse attributeType typeOfName inUse nameOf parentOf kidCount kids hasValue valueOf hasAttribute attributeValue walked waiting : Nat → Int32} {yplace yroot yrowLength yfirst youts ytop : Int32} {ykind ywith ysize ysort ymany yuse ytypeOf yleast ygreatest ylisted ytypeOfName yused yvalued ygiven yname yparent ychildren ycount yrow yvalue yattributes yends ylack yshortest youtKind youtWith ywork yworkWith yweight yfollow yfirsts ylasts ybare ymet ynameAt ytokenAt ytodo : Nat → Int32}
theorem sx_walk54 {post : Int32 → SX → Prop} {J : Int32 → Int32 → (Nat → Int32) → (Nat → Int32) → (Nat → Int32) → (Nat → Int32) → (Nat → Int32) → (Nat → Int32) → (Nat → Int32) → (Nat → Int32) → (Nat → Int32) → (Nat → Int32) → (Nat → Int32) → (Nat → Int32) → (Nat → Int32) → (Nat → Int32) → (Nat → Int32) → (Nat → Int32) → (Nat → Int32) → (Nat → Int32) → (Nat → Int32) → (Nat → Int32) → (Nat → Int32) → (Nat → Int32) → (Nat → Int32) → (Nat → Int32) → (Nat → Int32) → (Nat → Int32) → (Nat → Int32) → (Nat → Int32) → (Nat → Int32) → (Nat → Int32) → (Nat → Int32) → Prop} {e c : Nat} {s : Int32} {ch : Nat → Nat → Nat} {st : List Nat} (he : e < 24) (hc : c + st.length ≤ 24) (hc23 : c ≤ 23) (hk : ∀ i, i < c → kids (24 * e + i) = nI (ch e i)) (h : ∀ wa, wt_R wa (tr_kf ch e c 0 ++ st) → J s (nI (c + st.length)) draftKind draftValue weights tokenAt fragmentBegin fragmentFirst fragmentLast fragmentEmpty reachedWith follow bearing accepting kindOfType leastOf greatestOf listedCount listedValue attributeUse attributeType typeOfName inUse nameOf parentOf kidCount kids hasValue valueOf hasAttribute attributeValue walked wa) : ∀ (m : Nat) (wa : Nat → Int32), m ≤ c → wt_R wa (tr_kf ch e (c - m) m ++ st) → wX_walk_54 post J s (nI e) drafted latestPlace positions fragments elementCount (m + 1) (nI (c - m + st.length)) (nI m + (-1)) draftKind draftValue weights tokenAt fragmentBegin fragmentFirst fragmentLast fragmentEmpty reachedWith follow bearing accepting kindOfType leastOf greatestOf listedCount listedValue attributeUse attributeType typeOfName inUse nameOf parentOf kidCount kids hasValue valueOf hasAttribute attributeValue walked wa := by
  intro m
  induction m with
  | zero =>
    intro wa _ hw
    exact br_t nb_d0 (h wa hw)
  | succ m ih =>
    intro wa hm hw
    rw [nb_a1]
    refine br_f (nI_pos (by omega)) ?_
    rw [nb_m24]
    refine ⟨vp_in_nI (by omega) (by omega), vp_in_nI (by omega) (by omega), nm_r (e' := upd wa (c - (m + 1) + st.length) (nI (ch e m))) (by rw [nb_cl (by omega), nb_cl (by omega), hk m (by omega)]) (nm_r (e' := nI (c - m + st.length)) (by rw [nI_1]; congr 1; omega) (nm_e (ih _ (by omega) ?_)))⟩
    have e1 : c - m = (c - (m + 1)) + 1 := by omega
    rw [e1]
    show wt_R _ (ch e m :: (tr_kf ch e (c - (m + 1)) (m + 1) ++ st))
    have hl : (tr_kf ch e (c - (m + 1)) (m + 1) ++ st).length = c - (m + 1) + st.length := by rw [List.length_append, tr_kf_len]
    exact ⟨by rw [hl, pk_us], wt_upd _ (by rw [hl]; exact Nat.le_refl _) hw⟩
theorem sx_walk11 {post : Int32 → SX → Prop} {us : Nat → Prop} {po : Nat → Option Nat} {c : Nat → Nat} {ch : Nat → Nat → Nat} {rk : Nat → Nat} {top : Nat} {Inv : List Nat → List Nat → Prop} (hF : tr_F us po c ch rk) (hct : ∀ x, us x → kidCount x = nI (c x)) (hk : ∀ x i, us x → i < c x → kids (24 * x + i) = nI (ch x i)) (hInv : ∀ ws e st, us e → Inv ws (e :: st) → Inv (ws ++ [e]) (tr_kf ch e (c e) 0 ++ st))
    (h : ∀ (ws : List Nat) (wk wa : Nat → Int32), tr_V us po c ch rk top ws [] → wk_R wk ws → Inv ws [] → post (nI ws.length) (drafted, latestPlace, positions, fragments, elementCount, draftKind, draftValue, weights, tokenAt, fragmentBegin, fragmentFirst, fragmentLast, fragmentEmpty, reachedWith, follow, bearing, accepting, kindOfType, leastOf, greatestOf, listedCount, listedValue, attributeUse, attributeType, typeOfName, inUse, nameOf, parentOf, kidCount, kids, hasValue, valueOf, hasAttribute, attributeValue, wk, wa)) : ∀ (m : Nat) (ws st : List Nat) (wk wa : Nat → Int32), ws.length + m = 24 → tr_V us po c ch rk top ws st → wk_R wk ws → wt_R wa st → Inv ws st → wX_walk_11 post drafted latestPlace positions fragments elementCount (m + 1) (nI ws.length) (nI st.length) draftKind draftValue weights tokenAt fragmentBegin fragmentFirst fragmentLast fragmentEmpty reachedWith follow bearing accepting kindOfType leastOf greatestOf listedCount listedValue attributeUse attributeType typeOfName inUse nameOf parentOf kidCount kids hasValue valueOf hasAttribute attributeValue wk wa := by
  intro m
  induction m with
  | zero =>
    intro ws st wk wa hm hV hwk hwa hI
    have hl := tr_V_len hF hV
    have hs : st = [] := List.length_eq_zero_iff.mp (by omega)
    subst hs
    exact br_t (by decide) (h ws wk wa hV hwk hI)
  | succ m ih =>
    intro ws st wk wa hm hV hwk hwa hI
    cases st with
    | nil => exact br_t (by decide) (h ws wk wa hV hwk hI)
    | cons e st =>
      have hl := tr_V_len hF hV
      rw [List.length_cons] at hl ⊢
      have ue : us e := (hV.2.1 e (List.mem_append.mpr (Or.inr List.mem_cons_self))).1
      have he := hF.1 e ue
      have hV' := tr_V_s hF hV
      have hl' := tr_V_len hF hV'
      rw [List.length_append, List.length_append, List.length_singleton, tr_kf_len] at hl'
      refine br_f (by rw [nb_le0 (by omega)]; omega) (br_f (nI_ge (b := 24) (by omega) (by omega)) (nm_r (nb_a1 st.length) ?_))
      refine ⟨vp_in_nI (by omega) (by omega), nm_r (e' := nI e) (by rw [nb_cl (by omega)]; exact hwa.1) ⟨vp_in_nI (by omega) (by omega), nm_r (e' := upd wk ws.length (nI e)) (by rw [nb_cl (by omega)]) (nm_r (nI_1 ws.length) ⟨vp_in_nI he (by omega), nm_r (e' := nI (c e) + (-1)) (by rw [nb_cl (by omega), hct e ue, nb_dec]) ⟨c e + 1, ?_⟩⟩)⟩⟩
      have := sx_walk54 (post := post) (J := wX_walk_11 post drafted latestPlace positions fragments elementCount (m + 1)) (e := e) (c := c e) (s := nI (ws.length + 1)) (ch := ch) (st := st) (walked := upd wk ws.length (nI e)) (elementCount := elementCount) (drafted := drafted) (latestPlace := latestPlace) (positions := positions) (fragments := fragments) he (by omega) (tr_F_c hF ue) (fun i hi => hk e i ue hi) (fun wa' hwa' => by
        have := ih (ws ++ [e]) (tr_kf ch e (c e) 0 ++ st) (upd wk ws.length (nI e)) wa' (by rw [List.length_append, List.length_singleton]; omega) hV' (wk_snoc hwk) hwa' (hInv ws e st ue hI)
        rw [List.length_append, List.length_append, List.length_singleton, tr_kf_len] at this
        exact this) (c e) wa (Nat.le_refl _) (by rw [Nat.sub_self]; exact hwa.2)
      rw [Nat.sub_self, Nat.zero_add] at this
      exact this
theorem sx_walk {post : Int32 → SX → Prop} {us : Nat → Prop} {po : Nat → Option Nat} {c : Nat → Nat} {ch : Nat → Nat → Nat} {rk : Nat → Nat} {top : Nat} {Inv : List Nat → List Nat → Prop} (hF : tr_F us po c ch rk) (ht : us top) (hct : ∀ x, us x → kidCount x = nI (c x)) (hk : ∀ x i, us x → i < c x → kids (24 * x + i) = nI (ch x i)) (hInv : ∀ ws e st, us e → Inv ws (e :: st) → Inv (ws ++ [e]) (tr_kf ch e (c e) 0 ++ st)) (h0 : Inv [] [top])
    (h : ∀ (ws : List Nat) (wk wa : Nat → Int32), tr_V us po c ch rk top ws [] → wk_R wk ws → Inv ws [] → post (nI ws.length) (drafted, latestPlace, positions, fragments, elementCount, draftKind, draftValue, weights, tokenAt, fragmentBegin, fragmentFirst, fragmentLast, fragmentEmpty, reachedWith, follow, bearing, accepting, kindOfType, leastOf, greatestOf, listedCount, listedValue, attributeUse, attributeType, typeOfName, inUse, nameOf, parentOf, kidCount, kids, hasValue, valueOf, hasAttribute, attributeValue, wk, wa)) : wpX_walk post (drafted, latestPlace, positions, fragments, elementCount, draftKind, draftValue, weights, tokenAt, fragmentBegin, fragmentFirst, fragmentLast, fragmentEmpty, reachedWith, follow, bearing, accepting, kindOfType, leastOf, greatestOf, listedCount, listedValue, attributeUse, attributeType, typeOfName, inUse, nameOf, parentOf, kidCount, kids, hasValue, valueOf, hasAttribute, attributeValue, walked, waiting) (nI top) :=
  nm_e ⟨25, sx_walk11 hF hct hk hInv h 24 [] [top] walked (upd waiting 0 (nI top)) (by rfl) (tr_V_0 ht) (fun i x hx => by cases hx) ⟨pk_us, trivial⟩ h0⟩
end
/-- those of a list go out of use -/
def rm_l (iu : Nat → Int32) (l : List Nat) : Nat → Int32 := fun x => if x ∈ l then 0 else iu x
theorem rm_l_s {iu : Nat → Int32} {l : List Nat} {x : Nat} : upd (rm_l iu l) x 0 = rm_l iu (l ++ [x]) := by
  funext j
  unfold upd rm_l
  by_cases e : j = x
  · rw [if_pos e, if_pos (by rw [e]; exact List.mem_append.mpr (Or.inr (List.mem_singleton.mpr rfl)))]
  · rw [if_neg e]
    by_cases h : j ∈ l
    · rw [if_pos h, if_pos (List.mem_append.mpr (Or.inl h))]
    · rw [if_neg h, if_neg (fun h' => by
        rcases List.mem_append.mp h' with h' | h'
        · exact h h'
        · exact e (List.mem_singleton.mp h'))]
theorem rm_l_0 (iu : Nat → Int32) : rm_l iu [] = iu := by
  funext j
  unfold rm_l
  rw [if_neg (fun h => by cases h)]
def rm_b (iu : Nat → Int32) (g : Int32) (i : Nat) : Nat → Int32 := fun x => if x < i ∧ bt g x = true then 0 else iu x
theorem rm_b_0 (iu : Nat → Int32) (g : Int32) : rm_b iu g 0 = iu := by
  funext j
  unfold rm_b
  rw [if_neg (by omega)]
theorem rm_b_t {iu : Nat → Int32} {g : Int32} {i : Nat} (h : bt g i = true) : upd (rm_b iu g i) i 0 = rm_b iu g (i + 1) := by
  funext j
  unfold upd rm_b
  by_cases e : j = i
  · rw [if_pos e, if_pos ⟨by omega, by rw [e]; exact h⟩]
  · rw [if_neg e]
    by_cases q : j < i ∧ bt g j = true
    · rw [if_pos q, if_pos ⟨by omega, q.2⟩]
    · rw [if_neg q, if_neg (fun q' => q ⟨by omega, q'.2⟩)]
theorem rm_b_f {iu : Nat → Int32} {g : Int32} {i : Nat} (h : bt g i = false) : rm_b iu g i = rm_b iu g (i + 1) := by
  funext j
  unfold rm_b
  by_cases q : j < i ∧ bt g j = true
  · rw [if_pos q, if_pos ⟨by omega, q.2⟩]
  · rw [if_neg q, if_neg (fun q' => by
      by_cases e : j = i
      · rw [e, h] at q'; exact absurd q'.2 Bool.false_ne_true
      · exact q ⟨by omega, q'.2⟩)]
theorem cb_mem : ∀ (m : Nat) (l : List Nat), l.Nodup → (∀ x, x ∈ l → x < m) → cb_n (fun x => decide (x ∈ l)) m = l.length := by
  intro m
  induction m with
  | zero =>
    intro l _ h
    cases l with
    | nil => rfl
    | cons a l => exact absurd (h a List.mem_cons_self) (by omega)
  | succ m ih =>
    intro l hl h
    unfold cb_n
    by_cases hm : m ∈ l
    · have h1 := ih (l.erase m) (List.Nodup.erase m hl) (fun x hx => by
        have hx' := (List.Nodup.mem_erase_iff hl).mp hx
        have := h x hx'.2
        have := hx'.1
        omega)
      rw [List.length_erase_of_mem hm] at h1
      have h2 : cb_n (fun x => decide (x ∈ l)) m = cb_n (fun x => decide (x ∈ l.erase m)) m := cb_cg m (fun i hi => by
        apply decide_eq_decide.mpr
        rw [List.Nodup.mem_erase_iff hl]
        exact ⟨fun h => ⟨by omega, h⟩, fun h => h.2⟩)
      have hp : 0 < l.length := List.length_pos_of_mem hm
      rw [if_pos (decide_eq_true hm), h2, h1]
      omega
    · have h1 := ih l hl (fun x hx => by
        have := h x hx
        have : x ≠ m := fun e => hm (e ▸ hx)
        omega)
      rw [if_neg (by rw [decide_eq_true_iff]; exact hm), h1]
      rfl
theorem rm_cn {iu : Nat → Int32} {l : List Nat} (h : ∀ x, x ∈ l → iu x ≠ 0) : ∀ m, tr_cn (rm_l iu l) m + cb_n (fun x => decide (x ∈ l)) m = tr_cn iu m := by
  intro m
  induction m with
  | zero => rfl
  | succ m ih =>
    unfold tr_cn cb_n
    by_cases hm : m ∈ l
    · rw [if_pos (show rm_l iu l m = 0 from if_pos hm), if_pos (decide_eq_true hm), if_neg (h m hm)]
      omega
    · have hd : (if decide (m ∈ l) = true then 1 else 0) = 0 := if_neg (by rw [decide_eq_true_iff]; exact hm)
      rw [show rm_l iu l m = iu m from if_neg hm, hd]
      omega
theorem tr_all {us : Nat → Prop} {po : Nat → Option Nat} {c : Nat → Nat} {ch : Nat → Nat → Nat} {rk : Nat → Nat} (hI : tr_I us po c ch rk) : ∀ r x, rk x ≤ r → us x → ∃ j, tr_B po 0 j x := by
  intro r
  induction r with
  | zero =>
    intro x hr hx
    rcases hI.2.1 x hx with h | ⟨y, i, h1, h2, h3, h4⟩
    · exact ⟨0, h⟩
    · have := (tr_up hI hx h1).2.1; omega
  | succ r ih =>
    intro x hr hx
    rcases hI.2.1 x hx with h | ⟨y, i, h1, h2, h3, h4⟩
    · exact ⟨0, h⟩
    · have h5 := (tr_up hI hx h1).2.1
      obtain ⟨j, hj⟩ := ih y (by omega) h2
      exact ⟨j + 1, Or.inr ⟨y, h1, hj⟩⟩
theorem tr_rem {us us' : Nat → Prop} {po : Nat → Option Nat} {c c' : Nat → Nat} {ch ch' : Nat → Nat → Nat} {rk : Nat → Nat} {e : Nat} (hI : tr_I us po c ch rk) (hF : tr_F us po c' ch' rk) (hno : ∀ x i, us x → i < c' x → ch' x i ≠ e) (hPK : ∀ x, us x → x ≠ e → x = 0 ∨ tr_PK us po c' ch' x) (hus : ∀ x, us' x ↔ us x ∧ ¬ ∃ j, tr_B po e j x) : tr_I us' po c' ch' rk := by
  have ne : ∀ x, us' x → x ≠ e := fun x hx q => ((hus x).mp hx).2 ⟨0, q⟩
  refine ⟨⟨fun x hx => hF.1 x ((hus x).mp hx).1, fun p k hp hk => ?_, fun p i j hp hi hj h => hF.2.2 p i j ((hus p).mp hp).1 hi hj h⟩, fun x hx => ?_, fun x hx => ?_, fun h => hI.2.2.2 ((hus 0).mp h).1⟩
  · obtain ⟨h1, h2⟩ := (hus p).mp hp
    obtain ⟨g1, g2, g3⟩ := hF.2.1 p k h1 hk
    exact ⟨(hus _).mpr ⟨g1, fun h => h2 ((tr_B_up (hno p k h1 hk) g2).mp h)⟩, g2, g3⟩
  · obtain ⟨h1, h2⟩ := (hus x).mp hx
    rcases hPK x h1 (ne x hx) with h | ⟨p, k, b1, b2, b3, b4⟩
    · exact Or.inl h
    · exact Or.inr ⟨p, k, b1, (hus p).mpr ⟨b2, fun h => h2 ((tr_B_up (ne x hx) b1).mpr h)⟩, b3, b4⟩
  · obtain ⟨h1, h2⟩ := (hus x).mp hx
    have u0 := hI.2.2.1 x h1
    refine (hus 0).mpr ⟨u0, ?_⟩
    by_cases q : e = 0
    · rw [q] at h2
      exact absurd (tr_all hI (rk x) x (Nat.le_refl _) h1) h2
    · exact tr_B_no (Ne.symm q) (hI.2.2.2 u0)
end
section
/-! ===== remove: both sides ===== -/
section
variable {drafted latestPlace positions fragments elementCount : Int32} {draftKind draftValue weights tokenAt fragmentBegin fragmentFirst fragmentLast fragmentEmpty reachedWith follow bearing accepting kindOfType leastOf greatestOf listedCount listedValue attributeUse attributeType typeOfName inUse nameOf parentOf kidCount kids hasValue valueOf hasAttribute attributeValue walked waiting : Nat → Int32} {yplace yroot yrowLength yfirst youts ytop : Int32} {ykind ywith ysize ysort ymany yuse ytypeOf yleast ygreatest ylisted ytypeOfName yused yvalued ygiven yname yparent ychildren ycount yrow yvalue yattributes yends ylack yshortest youtKind youtWith ywork yworkWith yweight yfollow yfirsts ylasts ybare ymet ynameAt ytokenAt ytodo : Nat → Int32}
theorem sx_rem23 {post : Int32 → SX → Prop} {ws : List Nat} {ec' : Int32} (hwk : wk_R walked ws) (h24 : ∀ x, x ∈ ws → x < 24) (hl : ws.length ≤ 24) (he : elementCount - nI ws.length = ec') (h : post (nI ws.length) (drafted, latestPlace, positions, fragments, ec', draftKind, draftValue, weights, tokenAt, fragmentBegin, fragmentFirst, fragmentLast, fragmentEmpty, reachedWith, follow, bearing, accepting, kindOfType, leastOf, greatestOf, listedCount, listedValue, attributeUse, attributeType, typeOfName, rm_l inUse ws, nameOf, parentOf, kidCount, kids, hasValue, valueOf, hasAttribute, attributeValue, walked, waiting)) : ∀ m i, i + m = ws.length → wX_remove_23 post (nI ws.length) drafted latestPlace positions fragments elementCount (m + 1) (nI i) draftKind draftValue weights tokenAt fragmentBegin fragmentFirst fragmentLast fragmentEmpty reachedWith follow bearing accepting kindOfType leastOf greatestOf listedCount listedValue attributeUse attributeType typeOfName (rm_l inUse (ws.take i)) nameOf parentOf kidCount kids hasValue valueOf hasAttribute attributeValue walked waiting := by
  intro m
  induction m with
  | zero =>
    intro i hi
    obtain rfl : i = ws.length := by omega
    rw [List.take_length]
    exact br_t (nI_le (Nat.le_refl _) (by omega)) (nm_r he h)
  | succ m ih =>
    intro i hi
    have hi' : i < ws.length := by omega
    obtain ⟨x, hx⟩ : ∃ x, ws[i]? = some x := ⟨ws[i], List.getElem?_eq_getElem hi'⟩
    have hx24 := h24 x (List.mem_of_getElem? hx)
    have ew : walked (nI i).toNatClampNeg = nI x := by rw [nb_cl (by omega)]; exact hwk i x hx
    refine br_f (nI_ge (by omega) (by omega)) ⟨vp_in_nI (by omega) (by omega), ?_⟩
    rw [ew]
    refine ⟨vp_in_nI hx24 (by omega), nm_r (e' := rm_l inUse (ws.take (i + 1))) ?_ (nm_r (nI_1 i) (ih (i + 1) (by omega)))⟩
    rw [nb_cl (by omega), nb_b0, rm_l_s, List.take_add_one, hx]
    rfl
theorem sy_rem60 {post : Int32 → SY → Prop} {e : Nat} {g : Int32} (h1 : nI e = yroot → post (nI (cb_n (bt g) 24)) (yplace, -1, yrowLength, yfirst, youts, ytop, ykind, ywith, ysize, ysort, ymany, yuse, ytypeOf, yleast, ygreatest, ylisted, ytypeOfName, rm_b yused g 24, yvalued, ygiven, yname, yparent, ychildren, ycount, yrow, yvalue, yattributes, yends, ylack, yshortest, youtKind, youtWith, ywork, yworkWith, yweight, yfollow, yfirsts, ylasts, ybare, ymet, ynameAt, ytokenAt, ytodo)) (h0 : ¬ nI e = yroot → post (nI (cb_n (bt g) 24)) (yplace, yroot, yrowLength, yfirst, youts, ytop, ykind, ywith, ysize, ysort, ymany, yuse, ytypeOf, yleast, ygreatest, ylisted, ytypeOfName, rm_b yused g 24, yvalued, ygiven, yname, yparent, ychildren, ycount, yrow, yvalue, yattributes, yends, ylack, yshortest, youtKind, youtWith, ywork, yworkWith, yweight, yfollow, yfirsts, ylasts, ybare, ymet, ynameAt, ytokenAt, ytodo)) : ∀ m i, i + m = 24 → wY_remove_60 post (nI e) g yplace yroot yrowLength yfirst youts ytop (m + 1) (nI (cb_n (bt g) i)) (nI i) ykind ywith ysize ysort ymany yuse ytypeOf yleast ygreatest ylisted ytypeOfName (rm_b yused g i) yvalued ygiven yname yparent ychildren ycount yrow yvalue yattributes yends ylack yshortest youtKind youtWith ywork yworkWith yweight yfollow yfirsts ylasts ybare ymet ynameAt ytokenAt ytodo := by
  intro m
  induction m with
  | zero =>
    intro i hi
    obtain rfl : i = 24 := by omega
    exact br_t (by decide) (br_c h1 h0)
  | succ m ih =>
    intro i hi
    have ih' := ih (i + 1) (by omega)
    refine br_f (nI_ge (b := 24) (by omega) (by omega)) ?_
    cases hb : bt g i with
    | false =>
      have ec : cb_n (bt g) (i + 1) = cb_n (bt g) i := by
        show cb_n (bt g) i + _ = _
        rw [if_neg (by rw [hb]; exact Bool.false_ne_true)]
        rfl
      rw [ec, ← rm_b_f hb] at ih'
      exact br_t ((bb_t g (by omega)).mpr hb) (nm_r (nI_1 i) ih')
    | true =>
      have ec : cb_n (bt g) (i + 1) = cb_n (bt g) i + 1 := by
        show cb_n (bt g) i + _ = _
        rw [if_pos hb]
      rw [ec, ← rm_b_t hb] at ih'
      exact br_f ((bb_t' g (by omega)).mpr hb) ⟨vp_in_nI (by omega) (by omega), nm_r (by rw [nb_cl (by omega), nb_b0]) (nm_r (nI_1 _) (nm_r (nI_1 i) ih'))⟩
theorem sy_rem19 {post : Int32 → SY → Prop} {po : Nat → Option Nat} {c : Nat → Nat} {ch : Nat → Nat → Nat} {rk : Nat → Nat} {e : Nat} (hI : tr_I (fun x => yused x ≠ 0) po c ch rk) (hpp : ∀ x, x < 24 → yused x ≠ 0 → yparent x = rl_p (po x)) (he : e < 24)
    (h : ∀ g : Int32, (∀ j, bt g j = true ↔ j < 24 ∧ yused j ≠ 0 ∧ ∃ i, tr_B po e i j) → (nI e = yroot → post (nI (cb_n (bt g) 24)) (yplace, -1, yrowLength, yfirst, youts, ytop, ykind, ywith, ysize, ysort, ymany, yuse, ytypeOf, yleast, ygreatest, ylisted, ytypeOfName, rm_b yused g 24, yvalued, ygiven, yname, yparent, ychildren, ycount, yrow, yvalue, yattributes, yends, ylack, yshortest, youtKind, youtWith, ywork, yworkWith, yweight, yfollow, yfirsts, ylasts, ybare, ymet, ynameAt, ytokenAt, ytodo)) ∧ (¬ nI e = yroot → post (nI (cb_n (bt g) 24)) (yplace, yroot, yrowLength, yfirst, youts, ytop, ykind, ywith, ysize, ysort, ymany, yuse, ytypeOf, yleast, ygreatest, ylisted, ytypeOfName, rm_b yused g 24, yvalued, ygiven, yname, yparent, ychildren, ycount, yrow, yvalue, yattributes, yends, ylack, yshortest, youtKind, youtWith, ywork, yworkWith, yweight, yfollow, yfirsts, ylasts, ybare, ymet, ynameAt, ytokenAt, ytodo))) : ∀ m i g, i + m = 24 → (∀ j, bt g j = true ↔ j < i ∧ yused j ≠ 0 ∧ ∃ i, tr_B po e i j) → wY_remove_19 post (nI e) yplace yroot yrowLength yfirst youts ytop ykind ywith ysize ysort ymany yuse ytypeOf yleast ygreatest ylisted ytypeOfName yused yvalued ygiven yname yparent ychildren ycount yrow yvalue yattributes yends ylack yshortest youtKind youtWith ywork yworkWith yweight yfollow yfirsts ylasts ybare ymet ynameAt ytokenAt ytodo (m + 1) g (nI i) := by
  intro m
  induction m with
  | zero =>
    intro i g hi hg
    obtain rfl : i = 24 := by omega
    obtain ⟨h1, h0⟩ := h g hg
    refine br_t (by decide) ⟨25, ?_⟩
    have := sy_rem60 h1 h0 24 0 (by omega)
    rw [rm_b_0] at this
    exact this
  | succ m ih =>
    intro i g hi hg
    refine br_f (nI_ge (b := 24) (by omega) (by omega)) ⟨vp_in_nI (by omega) (by omega), ?_⟩
    rw [nb_cl (by omega)]
    have keep : (yused i = 0 ∨ ¬ ∃ k, tr_B po e k i) → ∀ j, bt g j = true ↔ j < i + 1 ∧ yused j ≠ 0 ∧ ∃ i, tr_B po e i j := by
      intro hn j
      rw [hg j]
      constructor
      · rintro ⟨a, b⟩; exact ⟨by omega, b⟩
      · rintro ⟨a, b, c⟩
        refine ⟨?_, b, c⟩
        by_cases q : j = i
        · rw [q] at b c
          rcases hn with hn | hn
          · exact absurd hn b
          · exact absurd c hn
        · omega
    by_cases hu : yused i = 0
    · exact br_t hu (nm_r (nI_1 i) (ih (i + 1) g (by omega) (keep (Or.inl hu))))
    · refine br_f hu ?_
      refine sy_below hI hpp he hu (fun hB => ?_) (fun hB => ?_)
      · refine br_f nb_10 (nm_e (nm_r (nI_1 i) (ih (i + 1) _ (by omega) ?_)))
        intro j
        rw [bb_orI, bb_sI (by omega), hg j]
        constructor
        · rintro (⟨a, b⟩ | a)
          · exact ⟨by omega, b⟩
          · rw [a]; exact ⟨by omega, hu, hB⟩
        · rintro ⟨a, b⟩
          by_cases q : j = i
          · exact Or.inr q
          · exact Or.inl ⟨by omega, b⟩
      · exact br_t rfl (nm_r (nI_1 i) (ih (i + 1) g (by omega) (keep (Or.inr hB))))
end
theorem i_vc_remove {k : Nat} {u : SX} {v : SY} (I : i_Rel k u v) (hk : k + 5 ≤ 2560) (v1 : Int32) : wpX_remove (fun r u' => wpY_remove (fun r' v' => r' = r ∧ i_Rel (k + 5) u' v') v v1) u v1 := by
  refine i_el I (P := fun u v => wpX_remove (fun r u' => wpY_remove (fun r' v' => r' = r ∧ i_Rel (k + 5) u' v') v v1) u v1) ?_
  intro d latestPlace positions fragments elementCount draftKind draftValue weights tokenAt fragmentBegin fragmentFirst fragmentLast fragmentEmpty reachedWith follow bearing accepting kindOfType leastOf greatestOf listedCount listedValue attributeUse attributeType typeOfName inUse nameOf parentOf kidCount kids hasValue valueOf hasAttribute attributeValue walked waiting yroot yrowLength yfirst youts ytop ykind ywith ysize yparent yrow yends ylack yshortest youtKind youtWith ywork yworkWith yweight yfollow yfirsts ylasts ybare ymet ynameAt ytokenAt ytodo hD hT hM hE
  unfold wpX_remove
  rcases el_cs inUse v1 with hv | ⟨e, he, rfl, hu⟩
  · refine sx_elem0 hv ?_
    refine br_t rfl ?_
    unfold wpY_remove
    refine sy_no1 hv ?_
    refine br_f nb_10 ?_
    exact ⟨rfl, i_mk hD hT hM hE⟩
  · refine sx_elem1 he hu ?_
    refine br_f nb_10 ?_
    obtain ⟨hec, hroot, hb, po, c, ch, g, rk, hE1⟩ := hE
    obtain ⟨a1, a2, a3, a4, hI⟩ := hE1
    have hX : ∀ x, x < 24 → inUse x ≠ 0 → parentOf x = rl_p (po x) := fun x h1 h2 => (a3 x h1 h2).2.1
    have hY : ∀ x, x < 24 → inUse x ≠ 0 → yparent x = rl_p (po x) := fun x h1 h2 => (a3 x h1 h2).2.2
    have u0 : inUse 0 ≠ 0 := hI.2.2.1 e hu
    have hr : yroot = 0 := by rw [hroot, if_neg u0]
    -- what follows when e hangs nowhere: kids as in c', ch', the rest as it was
    have main : ∀ (c' : Nat → Nat) (ch' : Nat → Nat → Nat) (pp' ct' kc' : Nat → Int32), tr_F (fun x => inUse x ≠ 0) po c' ch' rk → (∀ x i, inUse x ≠ 0 → i < c' x → ch' x i ≠ e) → (∀ x, inUse x ≠ 0 → x ≠ e → x = 0 ∨ tr_PK (fun x => inUse x ≠ 0) po c' ch' x) → (∀ x, x ≠ e → pp' x = parentOf x) → (∀ x, inUse x ≠ 0 → ct' x = nI (c' x)) → (∀ x i, inUse x ≠ 0 → i < c' x → kc' (24 * x + i) = nI (ch' x i)) → (∀ j, j < 600 → vp_nar .byte (kc' j) = kc' j) →
        (∀ {post : Int32 → SY → Prop}, (∃ n19, wY_remove_19 post (nI e) latestPlace yroot yrowLength yfirst youts ytop ykind ywith ysize kindOfType listedCount attributeUse attributeType leastOf greatestOf listedValue typeOfName inUse hasValue hasAttribute nameOf yparent kc' ct' yrow valueOf attributeValue yends ylack yshortest youtKind youtWith ywork yworkWith yweight yfollow yfirsts ylasts ybare ymet ynameAt ytokenAt ytodo n19 0 (nI 0)) → wpY_remove post (latestPlace, yroot, yrowLength, yfirst, youts, ytop, ykind, ywith, ysize, kindOfType, listedCount, attributeUse, attributeType, leastOf, greatestOf, listedValue, typeOfName, inUse, hasValue, hasAttribute, nameOf, yparent, kids, kidCount, yrow, valueOf, attributeValue, yends, ylack, yshortest, youtKind, youtWith, ywork, yworkWith, yweight, yfollow, yfirsts, ylasts, ybare, ymet, ynameAt, ytokenAt, ytodo) (nI e)) →
        ∀ (ws : List Nat) (wk wa : Nat → Int32), tr_V (fun x => inUse x ≠ 0) po c' ch' rk e ws [] → wk_R wk ws → ∃ n23, wX_remove_23 (fun r u' => wpY_remove (fun r' v' => r' = r ∧ i_Rel (k + 5) u' v') (latestPlace, yroot, yrowLength, yfirst, youts, ytop, ykind, ywith, ysize, kindOfType, listedCount, attributeUse, attributeType, leastOf, greatestOf, listedValue, typeOfName, inUse, hasValue, hasAttribute, nameOf, yparent, kids, kidCount, yrow, valueOf, attributeValue, yends, ylack, yshortest, youtKind, youtWith, ywork, yworkWith, yweight, yfollow, yfirsts, ylasts, ybare, ymet, ynameAt, ytokenAt, ytodo) (nI e)) (nI ws.length) (nI d) latestPlace positions fragments elementCount n23 0 draftKind draftValue weights tokenAt fragmentBegin fragmentFirst fragmentLast fragmentEmpty reachedWith follow bearing accepting kindOfType leastOf greatestOf listedCount listedValue attributeUse attributeType typeOfName inUse nameOf pp' ct' kc' hasValue valueOf hasAttribute attributeValue wk wa := by
      intro c' ch' pp' ct' kc' hF hno hPK hpp hct hkc hb' hYY ws wk wa hV hwk
      have huse : ∀ x, x ∈ ws → inUse x ≠ 0 := fun x hx => (hV.2.1 x (by rw [List.append_nil]; exact hx)).1
      have hin : ∀ x, x ∈ ws ↔ inUse x ≠ 0 ∧ ∃ j, tr_B po e j x := by
        intro x
        constructor
        · intro hx
          exact ⟨huse x hx, tr_V_in (fun x y h1 h2 h3 => (tr_up hI h1 h3).2.1) hV (rk x) x (Nat.le_refl _) hx⟩
        · rintro ⟨h1, j, h2⟩
          refine tr_V_out (fun x y h1 h2 h3 => ⟨(tr_up hI h1 h3).1, fun _ => ?_⟩) hV j x h1 h2
          rcases hPK x h1 h2 with q | ⟨p, i, b1, b2, b3, b4⟩
          · rw [q, hI.2.2.2 u0] at h3; cases h3
          · rw [b1] at h3
            obtain rfl := Option.some.inj h3
            exact ⟨i, b3, b4⟩
      have h24 : ∀ x, x ∈ ws → x < 24 := fun x hx => hF.1 x (huse x hx)
      have hnd : ws.Nodup := by have := hV.1; rw [List.append_nil] at this; exact this
      have hl : ws.length ≤ 24 := tr_pig 24 ws hnd h24
      have hcb := cb_mem 24 ws hnd h24
      have hrm := rm_cn (iu := inUse) huse 24
      have hcn := tr_cn_le inUse 24
      have hE2 : ∀ rt : Int32, rt = (if rm_l inUse ws 0 = 0 then -1 else 0) → rl_E (nI (tr_cn (rm_l inUse ws) 24)) rt (rm_l inUse ws) nameOf pp' ct' kc' yparent := by
        intro rt hrt
        have us' : ∀ x, rm_l inUse ws x ≠ 0 ↔ inUse x ≠ 0 ∧ ¬ ∃ j, tr_B po e j x := by
          intro x
          by_cases q : x ∈ ws
          · rw [show rm_l inUse ws x = 0 from if_pos q]
            exact ⟨fun h => absurd rfl h, fun h => absurd ((hin x).mp q).2 h.2⟩
          · rw [show rm_l inUse ws x = inUse x from if_neg q]
            exact ⟨fun h => ⟨h, fun h2 => q ((hin x).mpr ⟨h, h2⟩)⟩, fun h => h.1⟩
        refine ⟨rfl, hrt, hb', po, c', ch', g, rk, fun x => ?_, a2, fun x hx hux => ?_, fun x i hx hux hi => hkc x i ((us' x).mp hux).1 hi, tr_rem hI hF hno hPK us'⟩
        · by_cases q : x ∈ ws
          · exact Or.inl (if_pos q)
          · rw [show rm_l inUse ws x = inUse x from if_neg q]; exact a1 x
        · obtain ⟨h1, h2⟩ := (us' x).mp hux
          have ne : x ≠ e := fun q => h2 ⟨0, q⟩
          exact ⟨hct x h1, by rw [hpp x ne]; exact hX x hx h1, hY x hx h1⟩
      have R := sx_rem23 (post := fun r u' => wpY_remove (fun r' v' => r' = r ∧ i_Rel (k + 5) u' v') (latestPlace, yroot, yrowLength, yfirst, youts, ytop, ykind, ywith, ysize, kindOfType, listedCount, attributeUse, attributeType, leastOf, greatestOf, listedValue, typeOfName, inUse, hasValue, hasAttribute, nameOf, yparent, kids, kidCount, yrow, valueOf, attributeValue, yends, ylack, yshortest, youtKind, youtWith, ywork, yworkWith, yweight, yfollow, yfirsts, ylasts, ybare, ymet, ynameAt, ytokenAt, ytodo) (nI e)) (ec' := nI (tr_cn (rm_l inUse ws) 24)) (drafted := nI d) (latestPlace := latestPlace) (positions := positions) (fragments := fragments) (elementCount := elementCount) (draftKind := draftKind) (draftValue := draftValue) (weights := weights) (tokenAt := tokenAt) (fragmentBegin := fragmentBegin) (fragmentFirst := fragmentFirst) (fragmentLast := fragmentLast) (fragmentEmpty := fragmentEmpty) (reachedWith := reachedWith) (follow := follow) (bearing := bearing) (accepting := accepting) (kindOfType := kindOfType) (leastOf := leastOf) (greatestOf := greatestOf) (listedCount := listedCount) (listedValue := listedValue) (attributeUse := attributeUse) (attributeType := attributeType) (typeOfName := typeOfName) (inUse := inUse) (nameOf := nameOf) (parentOf := pp') (kidCount := ct') (kids := kc') (hasValue := hasValue) (valueOf := valueOf) (hasAttribute := hasAttribute) (attributeValue := attributeValue) (walked := wk) (waiting := wa) hwk h24 hl (by rw [hec, pk_sub (by omega)]; congr 1; omega) (by
        refine hYY ⟨25, sy_rem19 hI hY he (fun gg hgg => ?_) 24 0 0 (by omega) (fun j => by rw [b_0]; exact ⟨fun h => absurd h Bool.false_ne_true, fun h => by omega⟩)⟩
        have q1 : ∀ j, (bt gg j = true) ↔ j ∈ ws := fun j => by
          rw [hgg j, hin j]
          exact ⟨fun h => h.2, fun h => ⟨hI.1.1 j h.1, h⟩⟩
        have q2 : rm_b inUse gg 24 = rm_l inUse ws := by
          funext j
          unfold rm_b rm_l
          by_cases q : j ∈ ws
          · rw [if_pos q, if_pos ⟨h24 j q, (q1 j).mpr q⟩]
          · rw [if_neg q, if_neg (fun h => q ((q1 j).mp h.2))]
        have q3 : cb_n (bt gg) 24 = ws.length := by
          rw [← hcb]
          refine cb_cg 24 (fun i _ => ?_)
          exact Bool.eq_iff_iff.mpr (by rw [decide_eq_true_iff]; exact q1 i)
        rw [q2, q3]
        refine ⟨fun h => ⟨rfl, i_mk hD hT hM (hE2 _ ?_)⟩, fun h => ⟨rfl, i_mk hD hT hM (hE2 _ ?_)⟩⟩
        · rw [hr] at h
          have e0 : e = 0 := (nI_eq (b := 0) (by omega) (by omega)).mp h
          have m0 : 0 ∈ ws := (hin 0).mpr ⟨u0, 0, e0.symm⟩
          rw [if_pos (show rm_l inUse ws 0 = 0 from if_pos m0)]
        · rw [hr] at h
          have e0 : 0 ≠ e := fun q => h (by rw [← q]; rfl)
          have m0 : 0 ∉ ws := fun q => tr_B_no e0 (hI.2.2.2 u0) ((hin 0).mp q).2
          rw [show rm_l inUse ws 0 = inUse 0 from if_neg m0, if_neg u0, hr]) ws.length 0 (by omega)
      rw [List.take_zero, rm_l_0] at R
      exact ⟨_, R⟩
    cases hp : po e with
    | none =>
      have hPK : ∀ x, inUse x ≠ 0 → x ≠ e → x = 0 ∨ tr_PK (fun x => inUse x ≠ 0) po c ch x := fun x hx _ => hI.2.1 x hx
      refine sx_detach0 he (by rw [hX e he hu, hp]; rfl) ?_
      refine sx_walk (top := e) (Inv := fun _ _ => True) hI.1 hu (fun x hx => (a3 x (hI.1.1 x hx) hx).1) (fun x i hx hi => a4 x i (hI.1.1 x hx) hx hi) (fun _ _ _ _ _ => trivial) trivial (fun ws wk wa hV hwk _ => ?_)
      refine main c ch parentOf kidCount kids hI.1 (fun x i hx hi q => ?_) hPK (fun _ _ => rfl) (fun x hx => (a3 x (hI.1.1 x hx) hx).1) (fun x i hx hi => a4 x i (hI.1.1 x hx) hx hi) hb (fun h => ?_) ws wk wa hV hwk
      · have := (hI.1.2.1 x i hx hi).2.1
        rw [q, hp] at this
        cases this
      · unfold wpY_remove
        refine sy_no0 he hu ?_
        refine br_t rfl ?_
        exact sy_take0 he (by rw [hY e he hu, hp]; rfl) h
    | some q =>
      obtain ⟨uq, rq, s, hs, hch⟩ := tr_up hI hu hp
      have hq24 := hI.1.1 q uq
      have hq23 := tr_F_c hI.1 uq
      have cq : kidCount q = nI (c q) := (a3 q hq24 uq).1
      have hkid := rl_kid hI.1 a4 uq hs hch
      have hF' := tr_del (q := q) (s := s) hI.1
      have hct : ∀ x, inUse x ≠ 0 → upd kidCount q (nI (c q - 1)) x = nI (tr_dc c q x) := by
        intro x hx
        unfold tr_dc
        by_cases r : x = q
        · rw [r, pk_us, if_pos rfl]
        · rw [pk_un r, if_neg r]; exact (a3 x (hI.1.1 x hx) hx).1
      have hkc : ∀ x i, inUse x ≠ 0 → i < tr_dc c q x → kp_del kids q s (c q) (24 * x + i) = nI (tr_dk ch q s x i) := fun x i hx hi => kp_del_ok a4 (fun x _ hx => tr_F_c hI.1 hx) hq24 uq x i (hI.1.1 x hx) hx hi
      refine sx_detach hq24 he hq23 hs (by rw [hX e he hu, hp]; rfl) cq hkid ?_
      refine sx_walk (top := e) (Inv := fun _ _ => True) (kidCount := upd kidCount q (nI (c q - 1))) (kids := kp_del kids q s (c q)) hF' hu hct hkc (fun _ _ _ _ _ => trivial) trivial (fun ws wk wa hV hwk _ => ?_)
      refine main (tr_dc c q) (tr_dk ch q s) (upd parentOf e (-1)) (upd kidCount q (nI (c q - 1))) (kp_del kids q s (c q)) hF' (tr_del_no hI.1 uq hs hch) (fun x hx hxe => ?_) (fun x hx => pk_un hx) hct hkc (kp_del_b hb (by omega)) (fun h => ?_) ws wk wa hV hwk
      · rcases hI.2.1 x hx with h | h
        · exact Or.inl h
        · exact Or.inr (tr_PK_del hs hch hxe h)
      · unfold wpY_remove
        refine sy_no0 he hu ?_
        refine br_t rfl ?_
        exact sy_take hq24 he hq23 hs (by rw [hY e he hu, hp]; rfl) cq hb hkid h
end
section
/-! ===== automata run, simple types, attributes, status ===== -/
theorem nb_m31 (t i : Nat) : nI t * 31 + nI i = nI (31 * t + i) := by
  show nI t * nI 31 + nI i = _
  rw [pk_mul, nI_add, Nat.mul_comm]
theorem nb_m6 (t i : Nat) : nI t * 6 + nI i = nI (6 * t + i) := by
  show nI t * nI 6 + nI i = _
  rw [pk_mul, nI_add, Nat.mul_comm]
/-- the names of the kids of e -/
def kn_w (g : Nat → Nat) (ch : Nat → Nat → Nat) (e : Nat) : Nat → Nat := fun j => g (ch e j)
section
variable {drafted latestPlace positions fragments elementCount : Int32} {draftKind draftValue weights tokenAt fragmentBegin fragmentFirst fragmentLast fragmentEmpty reachedWith follow bearing accepting kindOfType leastOf greatestOf listedCount listedValue attributeUse attributeType typeOfName inUse nameOf parentOf kidCount kids hasValue valueOf hasAttribute attributeValue walked waiting : Nat → Int32} {yroot yrowLength yfirst youts ytop : Int32} {ykind ywith ysize yparent yrow yends ylack yshortest youtKind youtWith ywork yworkWith yweight yfollow yfirsts ylasts ybare ymet ynameAt ytokenAt ytodo : Nat → Int32}
theorem sx_fol5 {post : Int32 → Prop} {t : Nat} {S : Int32} (ht : t < 7) (h : post (xa_fl (fun s => follow (31 * t + s)) S 31)) : ∀ m i, i + m = 31 → wX_followers_5 post (nI t) S drafted latestPlace positions fragments elementCount draftKind draftValue weights tokenAt fragmentBegin fragmentFirst fragmentLast fragmentEmpty reachedWith follow bearing accepting kindOfType leastOf greatestOf listedCount listedValue attributeUse attributeType typeOfName inUse nameOf parentOf kidCount kids hasValue valueOf hasAttribute attributeValue walked waiting (m + 1) (xa_fl (fun s => follow (31 * t + s)) S i) (nI i) := by
  intro m
  induction m with
  | zero =>
    intro i hi
    obtain rfl : i = 31 := by omega
    exact br_t (by decide) h
  | succ m ih =>
    intro i hi
    have ih' := ih (i + 1) (by omega)
    refine br_f (nI_ge (b := 31) (by omega) (by omega)) ?_
    cases hb : bt S i with
    | false =>
      have e : xa_fl (fun s => follow (31 * t + s)) S (i + 1) = xa_fl (fun s => follow (31 * t + s)) S i := if_neg (by rw [hb]; exact Bool.false_ne_true)
      rw [e] at ih'
      exact br_t ((bb_t S (by omega)).mpr hb) (nm_r (nI_1 i) ih')
    | true =>
      have e : xa_fl (fun s => follow (31 * t + s)) S (i + 1) = xa_fl (fun s => follow (31 * t + s)) S i ||| follow (31 * t + i) := if_pos hb
      rw [e] at ih'
      refine br_f ((bb_t' S (by omega)).mpr hb) ?_
      rw [nb_m31]
      exact ⟨vp_in_nI (by omega) (by omega), nm_r (by rw [nb_cl (by omega)]) (nm_r (nI_1 i) ih')⟩
theorem sx_followers {post : Int32 → Prop} {t : Nat} {S : Int32} (ht : t < 7) (h : post (xa_fl (fun s => follow (31 * t + s)) S 31)) : wpX_followers post (drafted, latestPlace, positions, fragments, elementCount, draftKind, draftValue, weights, tokenAt, fragmentBegin, fragmentFirst, fragmentLast, fragmentEmpty, reachedWith, follow, bearing, accepting, kindOfType, leastOf, greatestOf, listedCount, listedValue, attributeUse, attributeType, typeOfName, inUse, nameOf, parentOf, kidCount, kids, hasValue, valueOf, hasAttribute, attributeValue, walked, waiting) (nI t) S := ⟨32, sx_fol5 ht h 31 0 (by omega)⟩
theorem sx_step {post : Int32 → Prop} {t n : Nat} {S : Int32} (ht : t < 7) (hn : n < 6) (h : post (xa_step (fun s => follow (31 * t + s)) (fun c => bearing (6 * t + c)) S n)) : wpX_step post (drafted, latestPlace, positions, fragments, elementCount, draftKind, draftValue, weights, tokenAt, fragmentBegin, fragmentFirst, fragmentLast, fragmentEmpty, reachedWith, follow, bearing, accepting, kindOfType, leastOf, greatestOf, listedCount, listedValue, attributeUse, attributeType, typeOfName, inUse, nameOf, parentOf, kidCount, kids, hasValue, valueOf, hasAttribute, attributeValue, walked, waiting) (nI t) S (nI n) := by
  unfold wpX_step
  refine sx_followers ht ?_
  show vp_in (nI t * 6 + nI n) 42 ∧ _
  rw [nb_m6]
  refine ⟨vp_in_nI (by omega) (by omega), ?_⟩
  rw [nb_cl (by omega)]
  exact h
theorem sx_aft7 {post : Int32 → Prop} {t e to : Nat} {g : Nat → Nat} {ch : Nat → Nat → Nat} (ht : t < 7) (he : e < 24) (hto : to ≤ 24) (hk : ∀ i, i < to → kids (24 * e + i) = nI (ch e i) ∧ ch e i < 24) (hg : ∀ x, x < 24 → nameOf x = nI (g x) ∧ g x < 6) : ∀ m i S, i + m = to → post (xa_run (fun s => follow (31 * t + s)) (fun c => bearing (6 * t + c)) S (dp_sl (kn_w g ch e) m i)) → wX_afterKids_7 post (nI t) (nI e) (nI to) drafted latestPlace positions fragments elementCount draftKind draftValue weights tokenAt fragmentBegin fragmentFirst fragmentLast fragmentEmpty reachedWith follow bearing accepting kindOfType leastOf greatestOf listedCount listedValue attributeUse attributeType typeOfName inUse nameOf parentOf kidCount kids hasValue valueOf hasAttribute attributeValue walked waiting (m + 1) S (nI i) := by
  intro m
  induction m with
  | zero =>
    intro i S hi h
    obtain rfl : i = to := by omega
    exact br_t (nI_le (Nat.le_refl _) (by omega)) h
  | succ m ih =>
    intro i S hi h
    obtain ⟨k1, k2⟩ := hk i (by omega)
    obtain ⟨g1, g2⟩ := hg _ k2
    refine br_f (nI_ge (by omega) (by omega)) ?_
    rw [nb_m24, nb_cl (by omega), k1, nb_cl (by omega), g1]
    exact ⟨vp_in_nI (by omega) (by omega), vp_in_nI k2 (by omega), sx_step ht g2 (nm_r (nI_1 i) (ih (i + 1) _ (by omega) h))⟩
theorem sx_afterKids {post : Int32 → Prop} {t e fr to : Nat} {S : Int32} {g : Nat → Nat} {ch : Nat → Nat → Nat} (ht : t < 7) (he : e < 24) (hto : to ≤ 24) (hft : fr ≤ to) (hk : ∀ i, i < to → kids (24 * e + i) = nI (ch e i) ∧ ch e i < 24) (hg : ∀ x, x < 24 → nameOf x = nI (g x) ∧ g x < 6) (h : post (xa_run (fun s => follow (31 * t + s)) (fun c => bearing (6 * t + c)) S (dp_sl (kn_w g ch e) (to - fr) fr))) : wpX_afterKids post (drafted, latestPlace, positions, fragments, elementCount, draftKind, draftValue, weights, tokenAt, fragmentBegin, fragmentFirst, fragmentLast, fragmentEmpty, reachedWith, follow, bearing, accepting, kindOfType, leastOf, greatestOf, listedCount, listedValue, attributeUse, attributeType, typeOfName, inUse, nameOf, parentOf, kidCount, kids, hasValue, valueOf, hasAttribute, attributeValue, walked, waiting) (nI t) S (nI e) (nI fr) (nI to) :=
  ⟨to - fr + 1, sx_aft7 ht he hto hk hg (to - fr) fr S (by omega) h⟩
/-- of the type, on both sides -/
theorem is_both {t c : Nat} {v : Int32} (ht : t < 6) (hs : kindOfType t = 1) (hc : c ≤ 4) (hm : listedCount t = nI c) : ∃ r : Int32, (r = 0 ∨ r = 1) ∧ (∀ post : Int32 → Prop, post r → wpX_isOfSimple post (drafted, latestPlace, positions, fragments, elementCount, draftKind, draftValue, weights, tokenAt, fragmentBegin, fragmentFirst, fragmentLast, fragmentEmpty, reachedWith, follow, bearing, accepting, kindOfType, leastOf, greatestOf, listedCount, listedValue, attributeUse, attributeType, typeOfName, inUse, nameOf, parentOf, kidCount, kids, hasValue, valueOf, hasAttribute, attributeValue, walked, waiting) (nI t) v) ∧ ∀ (yrowLength yfirst : Int32) (yrow yends ylack yshortest : Nat → Int32) (post : Int32 → Prop), post r → wpY_isOf post (latestPlace, yroot, yrowLength, yfirst, youts, ytop, ykind, ywith, ysize, kindOfType, listedCount, attributeUse, attributeType, leastOf, greatestOf, listedValue, typeOfName, inUse, hasValue, hasAttribute, nameOf, yparent, kids, kidCount, yrow, valueOf, attributeValue, yends, ylack, yshortest, youtKind, youtWith, ywork, yworkWith, yweight, yfollow, yfirsts, ylasts, ybare, ymet, ynameAt, ytokenAt, ytodo) v (nI t) := by
  have vt : vp_in (nI t) 6 := vp_in_nI ht (by omega)
  have ec : (nI t).toNatClampNeg = t := nb_cl (by omega)
  have es : kindOfType (nI t).toNatClampNeg = 1 := by rw [ec]; exact hs
  have em : listedCount (nI t).toNatClampNeg = nI c := by rw [ec]; exact hm
  by_cases h1 : v < leastOf t
  · refine ⟨0, Or.inl rfl, fun post p => ⟨vt, br_t (by rw [ec]; exact h1) p⟩, fun yrowLength yfirst yrow yends ylack yshortest post p => ⟨vt, br_t es ⟨vt, br_t (by rw [ec]; exact h1) p⟩⟩⟩
  · by_cases h2 : greatestOf t < v
    · have h2' : ¬ v ≤ greatestOf t := Int32.not_le.mpr h2
      refine ⟨0, Or.inl rfl, fun post p => ⟨vt, br_f (by rw [ec]; exact h1) ⟨vt, br_t (by rw [ec]; exact h2) p⟩⟩, fun yrowLength yfirst yrow yends ylack yshortest post p => ⟨vt, br_t es ⟨vt, br_f (by rw [ec]; exact h1) ⟨vt, br_f (by rw [ec]; exact h2') p⟩⟩⟩⟩
    · have h2' : v ≤ greatestOf t := Int32.not_lt.mp h2
      have loop : ∀ (yrowLength yfirst : Int32) (yrow yends ylack yshortest : Nat → Int32) (post : Int32 → Prop) (r : Int32), (narrow .boolean (.int r) = .int r ∧ post r) → ∀ m i (x : Int32), i + m = c → ((x = 1 ∧ r = 1) ∨ (x = 0 ∧ (∀ j, j < i → listedValue (4 * t + j) ≠ v) ∧ ((r = 1 ∧ ∃ j, j < c ∧ listedValue (4 * t + j) = v) ∨ (r = 0 ∧ ∀ j, j < c → listedValue (4 * t + j) ≠ v)))) → wY_isOf_50 post v (nI t) latestPlace yroot yrowLength yfirst youts ytop ykind ywith ysize kindOfType listedCount attributeUse attributeType leastOf greatestOf listedValue typeOfName inUse hasValue hasAttribute nameOf yparent kids kidCount yrow valueOf attributeValue yends ylack yshortest youtKind youtWith ywork yworkWith yweight yfollow yfirsts ylasts ybare ymet ynameAt ytokenAt ytodo (m + 1) x (nI i) := by
        intro yrowLength yfirst yrow yends ylack yshortest post r hp m
        induction m with
        | zero =>
          intro i x hi hx
          have hxr : x = r := by
            rcases hx with ⟨a, b⟩ | ⟨a, b, ⟨q, j, hj, e⟩ | ⟨q, _⟩⟩
            · rw [a, b]
            · exact absurd e (b j (by omega))
            · rw [a, q]
          rw [hxr]
          exact ⟨vt, br_t (by rw [em]; exact nI_le (by omega) (by omega)) hp⟩
        | succ m ih =>
          intro i x hi hx
          refine ⟨vt, br_f (by rw [em]; exact nI_ge (by omega) (by omega)) ?_⟩
          rw [nb_4m, nb_cl (by omega)]
          refine ⟨vp_in_nI (by omega) (by omega), ?_⟩
          by_cases q : listedValue (4 * t + i) = v
          · refine br_t q (nm_r (e' := 1) ?_ (nm_r (nI_1 i) (ih (i + 1) 1 (by omega) (Or.inl ⟨rfl, ?_⟩))))
            · rcases hx with ⟨a, _⟩ | ⟨a, _⟩ <;> rw [a] <;> decide
            · rcases hx with ⟨_, b⟩ | ⟨_, _, ⟨b, _⟩ | ⟨_, b⟩⟩
              · exact b
              · exact b
              · exact absurd q (b i (by omega))
          · refine br_f q (nm_r (e' := x) ?_ (nm_r (nI_1 i) (ih (i + 1) x (by omega) ?_)))
            · rcases hx with ⟨a, _⟩ | ⟨a, _⟩ <;> rw [a] <;> decide
            · rcases hx with h | ⟨a, b, c'⟩
              · exact Or.inl h
              · refine Or.inr ⟨a, fun j hj => ?_, c'⟩
                by_cases q2 : j = i
                · rw [q2]; exact q
                · exact b j (by omega)
      by_cases c0 : c = 0
      · refine ⟨1, Or.inr rfl, fun post p => ⟨vt, br_f (by rw [ec]; exact h1) ⟨vt, br_f (by rw [ec]; exact h2) ⟨vt, br_t (by rw [em, c0]; rfl) p⟩⟩⟩, fun yrowLength yfirst yrow yends ylack yshortest post p => ⟨vt, br_t es ⟨vt, br_f (by rw [ec]; exact h1) ⟨vt, br_t (by rw [ec]; exact h2') ⟨vt, br_t (by rw [em, c0]; rfl) ⟨c + 1, loop yrowLength yfirst yrow yends ylack yshortest post 1 ⟨nb_n1, p⟩ c 0 1 (by omega) (Or.inl ⟨rfl, rfl⟩)⟩⟩⟩⟩⟩⟩
      · have cn : ¬ listedCount (nI t).toNatClampNeg = 0 := by rw [em]; exact nI_ne0 (by omega) (by omega)
        by_cases hl : ∃ j, j < c ∧ listedValue (4 * t + j) = v
        · refine ⟨1, Or.inr rfl, fun post p => ⟨vt, br_f (by rw [ec]; exact h1) ⟨vt, br_f (by rw [ec]; exact h2) ⟨vt, br_f cn (sx_isListed ht hm hc (fun _ => br_f nb_10 p) (fun h => by obtain ⟨j, hj, e⟩ := hl; exact absurd e (h j hj)))⟩⟩⟩, fun yrowLength yfirst yrow yends ylack yshortest post p => ⟨vt, br_t es ⟨vt, br_f (by rw [ec]; exact h1) ⟨vt, br_t (by rw [ec]; exact h2') ⟨vt, br_f cn ⟨c + 1, loop yrowLength yfirst yrow yends ylack yshortest post 1 ⟨nb_n1, p⟩ c 0 0 (by omega) (Or.inr ⟨rfl, fun j hj => by omega, Or.inl ⟨rfl, hl⟩⟩)⟩⟩⟩⟩⟩⟩
        · have hl' : ∀ j, j < c → listedValue (4 * t + j) ≠ v := fun j hj e => hl ⟨j, hj, e⟩
          refine ⟨0, Or.inl rfl, fun post p => ⟨vt, br_f (by rw [ec]; exact h1) ⟨vt, br_f (by rw [ec]; exact h2) ⟨vt, br_f cn (sx_isListed ht hm hc (fun h => absurd h hl) (fun _ => br_t rfl p))⟩⟩⟩, fun yrowLength yfirst yrow yends ylack yshortest post p => ⟨vt, br_t es ⟨vt, br_f (by rw [ec]; exact h1) ⟨vt, br_t (by rw [ec]; exact h2') ⟨vt, br_f cn ⟨c + 1, loop yrowLength yfirst yrow yends ylack yshortest post 0 ⟨nb_n0, p⟩ c 0 0 (by omega) (Or.inr ⟨rfl, fun j hj => by omega, Or.inr ⟨rfl, hl'⟩⟩)⟩⟩⟩⟩⟩⟩
/-- an attribute, on both sides -/
theorem at_both {t e a s : Nat} (hT : rl_T kindOfType listedCount attributeUse attributeType typeOfName) (ht : t < 6) (he : e < 24) (ha : a < 4) (hs : kindOfType t = nI s) (hs0 : s = 1 ∨ s = 2) : ∃ r r' : Int32, ((r = 0 ∧ r' = 1) ∨ (r = 1 ∧ r' = 0)) ∧ (∀ post : Int32 → Prop, post r → wpX_attributeFits post (drafted, latestPlace, positions, fragments, elementCount, draftKind, draftValue, weights, tokenAt, fragmentBegin, fragmentFirst, fragmentLast, fragmentEmpty, reachedWith, follow, bearing, accepting, kindOfType, leastOf, greatestOf, listedCount, listedValue, attributeUse, attributeType, typeOfName, inUse, nameOf, parentOf, kidCount, kids, hasValue, valueOf, hasAttribute, attributeValue, walked, waiting) (nI e) (nI t) (nI a)) ∧ ∀ (yrowLength yfirst : Int32) (yrow yends ylack yshortest : Nat → Int32) (post : Int32 → Prop), post r' → wpY_wrong post (latestPlace, yroot, yrowLength, yfirst, youts, ytop, ykind, ywith, ysize, kindOfType, listedCount, attributeUse, attributeType, leastOf, greatestOf, listedValue, typeOfName, inUse, hasValue, hasAttribute, nameOf, yparent, kids, kidCount, yrow, valueOf, attributeValue, yends, ylack, yshortest, youtKind, youtWith, ywork, yworkWith, yweight, yfollow, yfirsts, ylasts, ybare, ymet, ynameAt, ytokenAt, ytodo) (nI e) (nI t) (nI a) := by
  have vt : vp_in (nI t) 6 := vp_in_nI ht (by omega)
  have ec : (nI t).toNatClampNeg = t := nb_cl (by omega)
  have i1 : nI e * 4 + nI a = nI (4 * e + a) := nb_m4 e a
  have i2 : 4 * nI e + nI a = nI (4 * e + a) := nb_4m e a
  have i3 : nI t * 4 + nI a = nI (4 * t + a) := nb_m4 t a
  have i4 : 4 * nI t + nI a = nI (4 * t + a) := nb_4m t a
  have v1 : vp_in (nI (4 * e + a)) 96 := vp_in_nI (by omega) (by omega)
  have v2 : vp_in (nI (4 * t + a)) 24 := vp_in_nI (by omega) (by omega)
  have c1 : (nI (4 * e + a)).toNatClampNeg = 4 * e + a := nb_cl (by omega)
  have c2 : (nI (4 * t + a)).toNatClampNeg = 4 * t + a := nb_cl (by omega)
  have X0 : ∀ {post : Int32 → Prop}, ((kindOfType t = 1 → (hasAttribute (4 * e + a) = 0 → post 1) ∧ (¬ hasAttribute (4 * e + a) = 0 → post 0)) ∧ (¬ kindOfType t = 1 → vp_in (nI (4 * t + a)) 24 ∧ ∀ x5 : Int32, x5 = attributeUse (4 * t + a) → (hasAttribute (4 * e + a) = 0 → wX_attributeFits_55 post (hasAttribute (4 * e + a)) x5 drafted latestPlace positions fragments elementCount draftKind draftValue weights tokenAt fragmentBegin fragmentFirst fragmentLast fragmentEmpty reachedWith follow bearing accepting kindOfType leastOf greatestOf listedCount listedValue attributeUse attributeType typeOfName inUse nameOf parentOf kidCount kids hasValue valueOf hasAttribute attributeValue walked waiting) ∧ (¬ hasAttribute (4 * e + a) = 0 → (x5 = 0 → wX_attributeFits_55 post (hasAttribute (4 * e + a)) x5 drafted latestPlace positions fragments elementCount draftKind draftValue weights tokenAt fragmentBegin fragmentFirst fragmentLast fragmentEmpty reachedWith follow bearing accepting kindOfType leastOf greatestOf listedCount listedValue attributeUse attributeType typeOfName inUse nameOf parentOf kidCount kids hasValue valueOf hasAttribute attributeValue walked waiting) ∧ (¬ x5 = 0 → vp_in (nI (4 * t + a)) 24 ∧ ∀ x6 : Int32, x6 = attributeType (4 * t + a) → (vp_in x6 6 ∧ (kindOfType x6.toNatClampNeg = 1 → vp_in (nI (4 * e + a)) 96 ∧ wpX_isOfSimple (fun r_16 => (r_16 = 0 → post 0) ∧ (¬ r_16 = 0 → post 1)) (drafted, latestPlace, positions, fragments, elementCount, draftKind, draftValue, weights, tokenAt, fragmentBegin, fragmentFirst, fragmentLast, fragmentEmpty, reachedWith, follow, bearing, accepting, kindOfType, leastOf, greatestOf, listedCount, listedValue, attributeUse, attributeType, typeOfName, inUse, nameOf, parentOf, kidCount, kids, hasValue, valueOf, hasAttribute, attributeValue, walked, waiting) x6 (attributeValue (4 * e + a))) ∧ (¬ kindOfType x6.toNatClampNeg = 1 → post 0)))))) → wpX_attributeFits post (drafted, latestPlace, positions, fragments, elementCount, draftKind, draftValue, weights, tokenAt, fragmentBegin, fragmentFirst, fragmentLast, fragmentEmpty, reachedWith, follow, bearing, accepting, kindOfType, leastOf, greatestOf, listedCount, listedValue, attributeUse, attributeType, typeOfName, inUse, nameOf, parentOf, kidCount, kids, hasValue, valueOf, hasAttribute, attributeValue, walked, waiting) (nI e) (nI t) (nI a) := by
    intro post h
    unfold wpX_attributeFits
    dsimp only
    rw [i1, i3, c1, c2, ec]
    exact ⟨v1, nm_e ⟨vt, h⟩⟩
  have Y0 : ∀ {yrowLength yfirst : Int32} {yrow yends ylack yshortest : Nat → Int32} {post : Int32 → Prop} (z0 : Int32), ((hasAttribute (4 * e + a) = 0 → (z0 = 2 → post 1) ∧ (¬ z0 = 2 → post 0)) ∧ (¬ hasAttribute (4 * e + a) = 0 → (z0 = 0 → post 1) ∧ (¬ z0 = 0 → wpY_isOf (fun r_9 => (r_9 = 0 → post 1) ∧ (¬ r_9 = 0 → post 0)) (latestPlace, yroot, yrowLength, yfirst, youts, ytop, ykind, ywith, ysize, kindOfType, listedCount, attributeUse, attributeType, leastOf, greatestOf, listedValue, typeOfName, inUse, hasValue, hasAttribute, nameOf, yparent, kids, kidCount, yrow, valueOf, attributeValue, yends, ylack, yshortest, youtKind, youtWith, ywork, yworkWith, yweight, yfollow, yfirsts, ylasts, ybare, ymet, ynameAt, ytokenAt, ytodo) (attributeValue (4 * e + a)) (attributeType (4 * t + a))))) → wY_wrong_24 post (nI e) (nI t) (nI a) z0 latestPlace yroot yrowLength yfirst youts ytop ykind ywith ysize kindOfType listedCount attributeUse attributeType leastOf greatestOf listedValue typeOfName inUse hasValue hasAttribute nameOf yparent kids kidCount yrow valueOf attributeValue yends ylack yshortest youtKind youtWith ywork yworkWith yweight yfollow yfirsts ylasts ybare ymet ynameAt ytokenAt ytodo := by
    intro yrowLength yfirst yrow yends ylack yshortest post z0 h
    unfold wY_wrong_24
    rw [i2, i4, c1, c2]
    exact ⟨v1, h.1, fun hz => ⟨(h.2 hz).1, fun hz2 => ⟨v1, v2, (h.2 hz).2 hz2⟩⟩⟩
  have Y1 : ∀ {yrowLength yfirst : Int32} {yrow yends ylack yshortest : Nat → Int32} {post : Int32 → Prop}, (kindOfType t = 1 → wY_wrong_24 post (nI e) (nI t) (nI a) 0 latestPlace yroot yrowLength yfirst youts ytop ykind ywith ysize kindOfType listedCount attributeUse attributeType leastOf greatestOf listedValue typeOfName inUse hasValue hasAttribute nameOf yparent kids kidCount yrow valueOf attributeValue yends ylack yshortest youtKind youtWith ywork yworkWith yweight yfollow yfirsts ylasts ybare ymet ynameAt ytokenAt ytodo) → (¬ kindOfType t = 1 → wY_wrong_24 post (nI e) (nI t) (nI a) (attributeUse (4 * t + a)) latestPlace yroot yrowLength yfirst youts ytop ykind ywith ysize kindOfType listedCount attributeUse attributeType leastOf greatestOf listedValue typeOfName inUse hasValue hasAttribute nameOf yparent kids kidCount yrow valueOf attributeValue yends ylack yshortest youtKind youtWith ywork yworkWith yweight yfollow yfirsts ylasts ybare ymet ynameAt ytokenAt ytodo) → wpY_wrong post (latestPlace, yroot, yrowLength, yfirst, youts, ytop, ykind, ywith, ysize, kindOfType, listedCount, attributeUse, attributeType, leastOf, greatestOf, listedValue, typeOfName, inUse, hasValue, hasAttribute, nameOf, yparent, kids, kidCount, yrow, valueOf, attributeValue, yends, ylack, yshortest, youtKind, youtWith, ywork, yworkWith, yweight, yfollow, yfirsts, ylasts, ybare, ymet, ynameAt, ytokenAt, ytodo) (nI e) (nI t) (nI a) := by
    intro yrowLength yfirst yrow yends ylack yshortest post h1 h2
    unfold wpY_wrong
    dsimp only
    rw [i4, c2, ec]
    exact ⟨vt, h1, fun h => ⟨v2, h2 h⟩⟩
  rcases hs0 with rfl | rfl
  · -- SIMPLE
    have k1 : kindOfType t = 1 := hs
    by_cases hh : hasAttribute (4 * e + a) = 0
    · exact ⟨1, 0, Or.inr ⟨rfl, rfl⟩, fun post p => X0 (br_t k1 (br_t hh p)), fun yrowLength yfirst yrow yends ylack yshortest post p => Y1 (fun _ => Y0 0 (br_t hh (br_f (by decide) p))) (fun h => absurd k1 h)⟩
    · exact ⟨0, 1, Or.inl ⟨rfl, rfl⟩, fun post p => X0 (br_t k1 (br_f hh p)), fun yrowLength yfirst yrow yends ylack yshortest post p => Y1 (fun _ => Y0 0 (br_f hh (br_t rfl p))) (fun h => absurd k1 h)⟩
  · -- COMPLEX
    have k1 : ¬ kindOfType t = 1 := by rw [hs]; decide
    obtain ⟨⟨c, hc, eu⟩, ⟨y, hy, ey⟩⟩ := hT.2.2.1 (4 * t + a) (by omega)
    by_cases hh : hasAttribute (4 * e + a) = 0
    · by_cases c2' : c = 2
      · subst c2'
        exact ⟨0, 1, Or.inl ⟨rfl, rfl⟩, fun post p => X0 (br_f k1 ⟨v2, nm_r eu (br_t hh (br_t hh (br_t rfl p)))⟩), fun yrowLength yfirst yrow yends ylack yshortest post p => Y1 (fun h => absurd h k1) (fun _ => by rw [eu]; exact Y0 _ (br_t hh (br_t rfl p)))⟩
      · have n2 : ¬ nI c = 2 := fun h => c2' ((nI_eq (b := 2) (by omega) (by omega)).mp h)
        exact ⟨1, 0, Or.inr ⟨rfl, rfl⟩, fun post p => X0 (br_f k1 ⟨v2, nm_r eu (br_t hh (br_t hh (br_f n2 p)))⟩), fun yrowLength yfirst yrow yends ylack yshortest post p => Y1 (fun h => absurd h k1) (fun _ => by rw [eu]; exact Y0 _ (br_t hh (br_f n2 p)))⟩
    · by_cases c0 : c = 0
      · subst c0
        exact ⟨0, 1, Or.inl ⟨rfl, rfl⟩, fun post p => X0 (br_f k1 ⟨v2, nm_r eu (br_f hh (br_t rfl (br_f hh p)))⟩), fun yrowLength yfirst yrow yends ylack yshortest post p => Y1 (fun h => absurd h k1) (fun _ => by rw [eu]; exact Y0 _ (br_f hh (br_t rfl p)))⟩
      · have n0 : ¬ nI c = 0 := nI_ne0 (by omega) (by omega)
        have vy : vp_in (nI y) 6 := vp_in_nI hy (by omega)
        have cy : (nI y).toNatClampNeg = y := nb_cl (by omega)
        by_cases ky : kindOfType y = 1
        · obtain ⟨m, hm, em⟩ := hT.2.1 y hy
          have ib : ∃ r : Int32, (r = 0 ∨ r = 1) ∧ (∀ post : Int32 → Prop, post r → wpX_isOfSimple post (drafted, latestPlace, positions, fragments, elementCount, draftKind, draftValue, weights, tokenAt, fragmentBegin, fragmentFirst, fragmentLast, fragmentEmpty, reachedWith, follow, bearing, accepting, kindOfType, leastOf, greatestOf, listedCount, listedValue, attributeUse, attributeType, typeOfName, inUse, nameOf, parentOf, kidCount, kids, hasValue, valueOf, hasAttribute, attributeValue, walked, waiting) (nI y) (attributeValue (4 * e + a))) ∧ ∀ (yrowLength yfirst : Int32) (yrow yends ylack yshortest : Nat → Int32) (post : Int32 → Prop), post r → wpY_isOf post (latestPlace, yroot, yrowLength, yfirst, youts, ytop, ykind, ywith, ysize, kindOfType, listedCount, attributeUse, attributeType, leastOf, greatestOf, listedValue, typeOfName, inUse, hasValue, hasAttribute, nameOf, yparent, kids, kidCount, yrow, valueOf, attributeValue, yends, ylack, yshortest, youtKind, youtWith, ywork, yworkWith, yweight, yfollow, yfirsts, ylasts, ybare, ymet, ynameAt, ytokenAt, ytodo) (attributeValue (4 * e + a)) (nI y) := is_both hy ky hm em
          obtain ⟨r, hr, rX, rY⟩ := ib
          have X1 : ∀ (post : Int32 → Prop), ((r = 0 → post 0) ∧ (¬ r = 0 → post 1)) → wpX_attributeFits post (drafted, latestPlace, positions, fragments, elementCount, draftKind, draftValue, weights, tokenAt, fragmentBegin, fragmentFirst, fragmentLast, fragmentEmpty, reachedWith, follow, bearing, accepting, kindOfType, leastOf, greatestOf, listedCount, listedValue, attributeUse, attributeType, typeOfName, inUse, nameOf, parentOf, kidCount, kids, hasValue, valueOf, hasAttribute, attributeValue, walked, waiting) (nI e) (nI t) (nI a) := fun post p => X0 (br_f k1 ⟨v2, nm_r eu (br_f hh (br_f n0 ⟨v2, nm_r ey ⟨vy, br_t (by rw [cy]; exact ky) ⟨v1, rX _ p⟩⟩⟩))⟩)
          have Y2 : ∀ (yrowLength yfirst : Int32) (yrow yends ylack yshortest : Nat → Int32) (post : Int32 → Prop), ((r = 0 → post 1) ∧ (¬ r = 0 → post 0)) → wpY_wrong post (latestPlace, yroot, yrowLength, yfirst, youts, ytop, ykind, ywith, ysize, kindOfType, listedCount, attributeUse, attributeType, leastOf, greatestOf, listedValue, typeOfName, inUse, hasValue, hasAttribute, nameOf, yparent, kids, kidCount, yrow, valueOf, attributeValue, yends, ylack, yshortest, youtKind, youtWith, ywork, yworkWith, yweight, yfollow, yfirsts, ylasts, ybare, ymet, ynameAt, ytokenAt, ytodo) (nI e) (nI t) (nI a) := fun yrowLength yfirst yrow yends ylack yshortest post p => Y1 (fun h => absurd h k1) (fun _ => by rw [eu]; exact Y0 _ (br_f hh (br_f n0 (by rw [ey]; exact rY _ _ _ _ _ _ _ p))))
          rcases hr with rfl | rfl
          · exact ⟨0, 1, Or.inl ⟨rfl, rfl⟩, fun post p => X1 post (br_t rfl p), fun yrowLength yfirst yrow yends ylack yshortest post p => Y2 yrowLength yfirst yrow yends ylack yshortest post (br_t rfl p)⟩
          · exact ⟨1, 0, Or.inr ⟨rfl, rfl⟩, fun post p => X1 post (br_f nb_10 p), fun yrowLength yfirst yrow yends ylack yshortest post p => Y2 yrowLength yfirst yrow yends ylack yshortest post (br_f nb_10 p)⟩
        · exact ⟨0, 1, Or.inl ⟨rfl, rfl⟩, fun post p => X0 (br_f k1 ⟨v2, nm_r eu (br_f hh (br_f n0 ⟨v2, nm_r ey ⟨vy, br_f (by rw [cy]; exact ky) p⟩⟩))⟩), fun yrowLength yfirst yrow yends ylack yshortest post p => Y1 (fun h => absurd h k1) (fun _ => by rw [eu]; exact Y0 _ (br_f hh (br_f n0 (by rw [ey]; exact ⟨vy, br_f (by rw [cy]; exact ky) (br_t rfl p)⟩))))⟩
end
end
section
/-! ===== where an expression ends; the inner loops of the reference's tables ===== -/
theorem nb_pt (c p : Nat) : nI (c + 1) + (nI p - 1) = nI (c + p) := by
  have h1 : nI (c + 1) = nI c + 1 := (nI_1 c).symm
  have h2 : nI (c + p) = nI c + nI p := (nI_add c p).symm
  rw [h1, h2]
  grind
theorem ex_pt_leaf (k : Nat) (h : k = 0 ∨ k = 6) : ex_pt k = 0 := by
  rcases h with rfl | rfl <;> rfl
section
variable {yplace yroot yrowLength yfirst youts ytop : Int32} {ykind ywith ysize ysort ymany yuse ytypeOf yleast ygreatest ylisted ytypeOfName yused yvalued ygiven yname yparent ychildren ycount yrow yvalue yattributes yends ylack yshortest youtKind youtWith ywork yworkWith yweight yfollow yfirsts ylasts ybare ymet ynameAt ytokenAt ytodo : Nat → Int32}
/-- one token of the walk to the end of an expression -/
theorem sy_end1 {post : Int32 → Prop} {o j e c kk f : Nat} (hk : ykind (o + j) = nI kk) (hkk : kk < 9) (ho : o + j < 112) (he : o + j < e) (he2 : e < 200) (hc : c < 1000) (h : wY_endOf_5 post (nI e) yplace yroot yrowLength yfirst youts ytop ykind ywith ysize ysort ymany yuse ytypeOf yleast ygreatest ylisted ytypeOfName yused yvalued ygiven yname yparent ychildren ycount yrow yvalue yattributes yends ylack yshortest youtKind youtWith ywork yworkWith yweight yfollow yfirsts ylasts ybare ymet ynameAt ytokenAt ytodo f (nI (c + ex_pt kk)) (nI (o + j + 1))) : wY_endOf_5 post (nI e) yplace yroot yrowLength yfirst youts ytop ykind ywith ysize ysort ymany yuse ytypeOf yleast ygreatest ylisted ytypeOfName yused yvalued ygiven yname yparent ychildren ycount yrow yvalue yattributes yends ylack yshortest youtKind youtWith ywork yworkWith yweight yfollow yfirsts ylasts ybare ymet ynameAt ytokenAt ytodo (f + 1) (nI (c + 1)) (nI (o + j)) := by
  refine br_f (by rw [nb_le0 (by omega)]; omega) (br_f (nI_ge (by omega) (by omega)) ⟨vp_in_nI ho (by omega), ?_⟩)
  rw [nb_cl (by omega), hk]
  exact sy_parts hkk (nm_r (nb_pt c _) (nm_r (nI_1 _) h))
theorem sy_endT {post : Int32 → Prop} {o e N : Nat} {kd vl : Nat → Nat} (hK : rl_K ykind ywith o N kd vl) (hoN : o + N ≤ 112) (heN : o + N ≤ e) (he2 : e < 200) : ∀ (R : ex_T) (j c f : Nat), ex_S kd vl R j → j + ex_n R ≤ N → c + ex_n R ≤ 500 → wY_endOf_5 post (nI e) yplace yroot yrowLength yfirst youts ytop ykind ywith ysize ysort ymany yuse ytypeOf yleast ygreatest ylisted ytypeOfName yused yvalued ygiven yname yparent ychildren ycount yrow yvalue yattributes yends ylack yshortest youtKind youtWith ywork yworkWith yweight yfollow yfirsts ylasts ybare ymet ynameAt ytokenAt ytodo f (nI c) (nI (o + (j + ex_n R))) → wY_endOf_5 post (nI e) yplace yroot yrowLength yfirst youts ytop ykind ywith ysize ysort ymany yuse ytypeOf yleast ygreatest ylisted ytypeOfName yused yvalued ygiven yname yparent ychildren ycount yrow yvalue yattributes yends ylack yshortest youtKind youtWith ywork yworkWith yweight yfollow yfirsts ylasts ybare ymet ynameAt ytokenAt ytodo (f + ex_n R) (nI (c + 1)) (nI (o + j)) := by
  have step : ∀ (j c f kk : Nat), j < N → kd j = kk → c < 1000 → wY_endOf_5 post (nI e) yplace yroot yrowLength yfirst youts ytop ykind ywith ysize ysort ymany yuse ytypeOf yleast ygreatest ylisted ytypeOfName yused yvalued ygiven yname yparent ychildren ycount yrow yvalue yattributes yends ylack yshortest youtKind youtWith ywork yworkWith yweight yfollow yfirsts ylasts ybare ymet ynameAt ytokenAt ytodo f (nI (c + ex_pt kk)) (nI (o + j + 1)) → wY_endOf_5 post (nI e) yplace yroot yrowLength yfirst youts ytop ykind ywith ysize ysort ymany yuse ytypeOf yleast ygreatest ylisted ytypeOfName yused yvalued ygiven yname yparent ychildren ycount yrow yvalue yattributes yends ylack yshortest youtKind youtWith ywork yworkWith yweight yfollow yfirsts ylasts ybare ymet ynameAt ytokenAt ytodo (f + 1) (nI (c + 1)) (nI (o + j)) := by
    intro j c f kk hj hkk hc h
    obtain ⟨a1, a2, _⟩ := hK j hj
    rw [hkk] at a1 a2
    exact sy_end1 a1 a2 (by omega) (by omega) he2 hc h
  intro R
  induction R with
  | num k =>
    intro j c f hS hn hc h
    exact step j c f 6 (by simp only [ex_n] at hn; omega) hS (by simp only [ex_n] at hc; omega) h
  | natCast k => intro j c f hS; exact hS.elim
  | intCast k => intro j c f hS; exact hS.elim
  | var i =>
    intro j c f hS hn hc h
    exact step j c f 0 (by simp only [ex_n] at hn; omega) hS.1 (by simp only [ex_n] at hc; omega) h
  | neg a ih =>
    intro j c f hS hn hc h
    simp only [ex_n] at hn hc h ⊢
    obtain ⟨s1, s2⟩ := hS
    rw [show f + (1 + ex_n a) = (f + ex_n a) + 1 by omega]
    refine step j c _ 3 (by omega) s1 (by omega) ?_
    refine ih (j + 1) c f s2 (by omega) (by omega) ?_
    rw [show o + (j + 1 + ex_n a) = o + (j + (1 + ex_n a)) by omega]
    exact h
  | pow a k ih =>
    intro j c f hS hn hc h
    simp only [ex_n] at hn hc h ⊢
    obtain ⟨s1, s2⟩ := hS
    rw [show f + (1 + ex_n a) = (f + ex_n a) + 1 by omega]
    have go : wY_endOf_5 post (nI e) yplace yroot yrowLength yfirst youts ytop ykind ywith ysize ysort ymany yuse ytypeOf yleast ygreatest ylisted ytypeOfName yused yvalued ygiven yname yparent ychildren ycount yrow yvalue yattributes yends ylack yshortest youtKind youtWith ywork yworkWith yweight yfollow yfirsts ylasts ybare ymet ynameAt ytokenAt ytodo (f + ex_n a) (nI (c + 1)) (nI (o + j + 1)) := by
      refine ih (j + 1) c f s2 (by omega) (by omega) ?_
      rw [show o + (j + 1 + ex_n a) = o + (j + (1 + ex_n a)) by omega]
      exact h
    rcases s1 with ⟨_, s1, _⟩ | ⟨_, s1⟩ | ⟨_, s1⟩
    · exact step j c _ 8 (by omega) s1 (by omega) go
    · exact step j c _ 4 (by omega) s1 (by omega) go
    · exact step j c _ 5 (by omega) s1 (by omega) go
  | add a b iha ihb =>
    intro j c f hS hn hc h
    simp only [ex_n] at hn hc h ⊢
    obtain ⟨s1, s2, s3⟩ := hS
    rw [show f + (1 + ex_n a + ex_n b) = (f + ex_n b + ex_n a) + 1 by omega]
    refine step j c _ 2 (by omega) s1 (by omega) ?_
    refine iha (j + 1) (c + 1) (f + ex_n b) s2 (by omega) (by have := ex_n_pos b; omega) ?_
    refine ihb (j + 1 + ex_n a) c f s3 (by omega) (by omega) ?_
    rw [show o + (j + 1 + ex_n a + ex_n b) = o + (j + (1 + ex_n a + ex_n b)) by omega]
    exact h
  | mul a b iha ihb =>
    intro j c f hS hn hc h
    simp only [ex_n] at hn hc h ⊢
    obtain ⟨s1, s2, s3⟩ := hS
    rw [show f + (1 + ex_n a + ex_n b) = (f + ex_n b + ex_n a) + 1 by omega]
    refine step j c _ 1 (by omega) s1 (by omega) ?_
    refine iha (j + 1) (c + 1) (f + ex_n b) s2 (by omega) (by have := ex_n_pos b; omega) ?_
    refine ihb (j + 1 + ex_n a) c f s3 (by omega) (by omega) ?_
    rw [show o + (j + 1 + ex_n a + ex_n b) = o + (j + (1 + ex_n a + ex_n b)) by omega]
    exact h
  | sub a b iha ihb =>
    intro j c f hS hn hc h
    simp only [ex_n] at hn hc h ⊢
    obtain ⟨s1, s2, s3⟩ := hS
    rw [show f + (1 + ex_n a + ex_n b) = (f + ex_n b + ex_n a) + 1 by omega]
    refine step j c _ 7 (by omega) s1 (by omega) ?_
    refine iha (j + 1) (c + 1) (f + ex_n b) s2 (by omega) (by have := ex_n_pos b; omega) ?_
    refine ihb (j + 1 + ex_n a) c f s3 (by omega) (by omega) ?_
    rw [show o + (j + 1 + ex_n a + ex_n b) = o + (j + (1 + ex_n a + ex_n b)) by omega]
    exact h
theorem sy_endOf {post : Int32 → Prop} {o e N j : Nat} {kd vl : Nat → Nat} {R : ex_T} (hK : rl_K ykind ywith o N kd vl) (hoN : o + N ≤ 112) (heN : o + N ≤ e) (he2 : e < 200) (hS : ex_S kd vl R j) (hn : j + ex_n R ≤ N) (h : post (nI (o + (j + ex_n R)))) : wpY_endOf post (yplace, yroot, yrowLength, yfirst, youts, ytop, ykind, ywith, ysize, ysort, ymany, yuse, ytypeOf, yleast, ygreatest, ylisted, ytypeOfName, yused, yvalued, ygiven, yname, yparent, ychildren, ycount, yrow, yvalue, yattributes, yends, ylack, yshortest, youtKind, youtWith, ywork, yworkWith, yweight, yfollow, yfirsts, ylasts, ybare, ymet, ynameAt, ytokenAt, ytodo) (nI (o + j)) (nI e) :=
  ⟨1 + ex_n R, sy_endT hK hoN heN he2 R j 0 1 hS hn (by omega) (br_t (by decide) (br_t (by decide) h))⟩
theorem sy_second {post : Int32 → Prop} {t j N : Nat} {kd vl : Nat → Nat} {R : ex_T} (ht : t < 6) (hN : N ≤ 16) (hK : rl_K ykind ywith (16 * t) N kd vl) (hS : ex_S kd vl R (j + 1)) (hn : j + 1 + ex_n R ≤ N) (h : post (nI (j + 1 + ex_n R))) : wpY_second post (yplace, yroot, yrowLength, nI (16 * t), youts, ytop, ykind, ywith, ysize, ysort, ymany, yuse, ytypeOf, yleast, ygreatest, ylisted, ytypeOfName, yused, yvalued, ygiven, yname, yparent, ychildren, ycount, yrow, yvalue, yattributes, yends, ylack, yshortest, youtKind, youtWith, ywork, yworkWith, yweight, yfollow, yfirsts, ylasts, ybare, ymet, ynameAt, ytokenAt, ytodo) (nI j) := by
  unfold wpY_second
  dsimp only
  rw [nI_add, nI_1, show (16 : Int32) = nI 16 from rfl, nI_add]
  refine sy_endOf (o := 16 * t) (j := j + 1) hK (by omega) (by omega) (by omega) hS hn ?_
  rw [pk_sub (by omega), show 16 * t + (j + 1 + ex_n R) - 16 * t = j + 1 + ex_n R by omega]
  exact h
theorem nb_32m (t i : Nat) : 32 * nI t + nI i = nI (32 * t + i) := by
  show nI 32 * nI t + nI i = _
  rw [pk_mul, nI_add]
theorem sy_keep {post : SY → Prop} {b a : Nat} {E F : Int32} (hb : b < 16) (ha : a < 32) (h : post (yplace, yroot, yrowLength, yfirst, youts, ytop, ykind, ywith, ysize, ysort, ymany, yuse, ytypeOf, yleast, ygreatest, ylisted, ytypeOfName, yused, yvalued, ygiven, yname, yparent, ychildren, ycount, yrow, yvalue, yattributes, upd yends (32 * b + a) E, upd ylack (32 * b + a) F, yshortest, youtKind, youtWith, ywork, yworkWith, yweight, yfollow, yfirsts, ylasts, ybare, ymet, ynameAt, ytokenAt, ytodo)) : wpY_keep post (yplace, yroot, yrowLength, yfirst, youts, ytop, ykind, ywith, ysize, ysort, ymany, yuse, ytypeOf, yleast, ygreatest, ylisted, ytypeOfName, yused, yvalued, ygiven, yname, yparent, ychildren, ycount, yrow, yvalue, yattributes, yends, ylack, yshortest, youtKind, youtWith, ywork, yworkWith, yweight, yfollow, yfirsts, ylasts, ybare, ymet, ynameAt, ytokenAt, ytodo) (nI b) (nI a) E F := by
  unfold wpY_keep
  dsimp only
  rw [nb_32m, nb_cl (by omega)]
  exact ⟨vp_in_nI (by omega) (by omega), nm_e ⟨vp_in_nI (by omega) (by omega), nm_e h⟩⟩
theorem sy_less {post : Int32 → Prop} {x y : Nat} (hx : x < 2 ^ 31) (hy : y < 2 ^ 31) (h : post (nI (if x < y then x else y))) : wpY_lesser post (nI x) (nI y) := by
  refine pk_le y x (fun hle => ?_) (fun hlt => ?_)
  · rw [if_neg (by omega)] at h; exact h
  · rw [if_pos hlt] at h; exact h
theorem sy_aft6 {post : Int32 → Prop} {x y a : Nat} (hx : x < 16) (hy : y < 16) (ha : a < 32) (h : ∀ r : Int32, (∀ k, bt r k = true ↔ ∃ m, a ≤ m ∧ m < 32 ∧ bt (yends (32 * x + a)) m = true ∧ bt (yends (32 * y + m)) k = true) → post r) : ∀ (n i : Nat) (X : Int32), i + n = 32 → a ≤ i → (∀ k, bt X k = true ↔ ∃ m, a ≤ m ∧ m < i ∧ bt (yends (32 * x + a)) m = true ∧ bt (yends (32 * y + m)) k = true) → wY_after_6 post (nI x) (nI y) (nI a) yplace yroot yrowLength yfirst youts ytop ykind ywith ysize ysort ymany yuse ytypeOf yleast ygreatest ylisted ytypeOfName yused yvalued ygiven yname yparent ychildren ycount yrow yvalue yattributes yends ylack yshortest youtKind youtWith ywork yworkWith yweight yfollow yfirsts ylasts ybare ymet ynameAt ytokenAt ytodo (n + 1) X (nI i) := by
  intro n
  induction n with
  | zero =>
    intro i X hi hai hX
    obtain rfl : i = 32 := by omega
    exact br_t (by decide) (h X hX)
  | succ n ih =>
    intro i X hi hai hX
    refine br_f (nI_ge (b := 32) (by omega) (by omega)) ?_
    rw [nb_32m x a, nb_32m y i, nb_cl (n := 32 * x + a) (by omega), nb_cl (n := 32 * y + i) (by omega)]
    refine ⟨vp_in_nI (by omega) (by omega), ?_⟩
    cases hb : bt (yends (32 * x + a)) i with
    | false =>
      refine br_t ((bb_t _ (by omega)).mpr hb) (nm_r (nI_1 i) (ih (i + 1) X (by omega) (by omega) (fun k => ?_)))
      rw [hX k]
      constructor
      · rintro ⟨m, m1, m2, m3⟩; exact ⟨m, m1, by omega, m3⟩
      · rintro ⟨m, m1, m2, m3, m4⟩
        refine ⟨m, m1, ?_, m3, m4⟩
        have : m ≠ i := fun q => by rw [q, hb] at m3; cases m3
        omega
    | true =>
      refine br_f ((bb_t' _ (by omega)).mpr hb) ⟨vp_in_nI (by omega) (by omega), nm_e (nm_r (nI_1 i) (ih (i + 1) _ (by omega) (by omega) (fun k => ?_)))⟩
      rw [bb_orI, hX k]
      constructor
      · rintro (⟨m, m1, m2, m3⟩ | q)
        · exact ⟨m, m1, by omega, m3⟩
        · exact ⟨i, hai, by omega, hb, q⟩
      · rintro ⟨m, m1, m2, m3, m4⟩
        by_cases q : m = i
        · rw [q] at m4; exact Or.inr m4
        · exact Or.inl ⟨m, m1, by omega, m3, m4⟩
theorem sy_after {post : Int32 → Prop} {x y a : Nat} (hx : x < 16) (hy : y < 16) (ha : a < 32) (h : ∀ r : Int32, (∀ k, bt r k = true ↔ ∃ m, a ≤ m ∧ m < 32 ∧ bt (yends (32 * x + a)) m = true ∧ bt (yends (32 * y + m)) k = true) → post r) : wpY_after post (yplace, yroot, yrowLength, yfirst, youts, ytop, ykind, ywith, ysize, ysort, ymany, yuse, ytypeOf, yleast, ygreatest, ylisted, ytypeOfName, yused, yvalued, ygiven, yname, yparent, ychildren, ycount, yrow, yvalue, yattributes, yends, ylack, yshortest, youtKind, youtWith, ywork, yworkWith, yweight, yfollow, yfirsts, ylasts, ybare, ymet, ynameAt, ytokenAt, ytodo) (nI x) (nI y) (nI a) :=
  ⟨32 - a + 1, sy_aft6 hx hy ha h (32 - a) a 0 (by omega) (Nat.le_refl _) (fun k => by
    rw [b_0]
    exact ⟨fun q => absurd q Bool.false_ne_true, fun ⟨m, m1, m2, _⟩ => by omega⟩)⟩
/-- few: the least of z and the lacks of y behind each end -/
theorem sy_lak28 {post : Int32 → Prop} {x y a z : Nat} {lk : Nat → Nat} (hx : x < 16) (hy : y < 16) (ha : a < 32) (hz : z ≤ 100000) (hl : ∀ m, m < 32 → bt (yends (32 * x + a)) m = true → ylack (32 * y + m) = nI (lk m) ∧ lk m ≤ 100000) (h : ∀ f, f ≤ z → (∀ m, a ≤ m → m < 32 → bt (yends (32 * x + a)) m = true → f ≤ lk m) → (f = z ∨ ∃ m, a ≤ m ∧ m < 32 ∧ bt (yends (32 * x + a)) m = true ∧ f = lk m) → post (nI f)) : ∀ (n i f : Nat), i + n = 32 → a ≤ i → f ≤ z → (∀ m, a ≤ m → m < i → bt (yends (32 * x + a)) m = true → f ≤ lk m) → (f = z ∨ ∃ m, a ≤ m ∧ m < 32 ∧ bt (yends (32 * x + a)) m = true ∧ f = lk m) → wY_lackOf_28 post (nI x) (nI y) (nI a) yplace yroot yrowLength yfirst youts ytop ykind ywith ysize ysort ymany yuse ytypeOf yleast ygreatest ylisted ytypeOfName yused yvalued ygiven yname yparent ychildren ycount yrow yvalue yattributes yends ylack yshortest youtKind youtWith ywork yworkWith yweight yfollow yfirsts ylasts ybare ymet ynameAt ytokenAt ytodo (n + 1) (nI f) (nI i) := by
  intro n
  induction n with
  | zero =>
    intro i f hi hai f1 f2 f3
    obtain rfl : i = 32 := by omega
    exact br_t (by decide) (h f f1 f2 f3)
  | succ n ih =>
    intro i f hi hai f1 f2 f3
    refine br_f (nI_ge (b := 32) (by omega) (by omega)) ?_
    rw [nb_32m x a, nb_32m y i, nb_cl (n := 32 * x + a) (by omega), nb_cl (n := 32 * y + i) (by omega)]
    refine ⟨vp_in_nI (by omega) (by omega), ?_⟩
    cases hb : bt (yends (32 * x + a)) i with
    | false =>
      refine br_t ((bb_t _ (by omega)).mpr hb) (nm_r (nI_1 i) (ih (i + 1) f (by omega) (by omega) f1 (fun m m1 m2 m3 => ?_) f3))
      have : m ≠ i := fun q => by rw [q, hb] at m3; cases m3
      exact f2 m m1 (by omega) m3
    | true =>
      obtain ⟨l1, l2⟩ := hl i (by omega) hb
      refine br_f ((bb_t' _ (by omega)).mpr hb) ⟨vp_in_nI (by omega) (by omega), ?_⟩
      rw [l1]
      refine sy_less (by omega) (by omega) (nm_r (nI_1 i) (ih (i + 1) _ (by omega) (by omega) ?_ (fun m m1 m2 m3 => ?_) ?_))
      · split <;> omega
      · by_cases q : m = i
        · rw [q]; split <;> omega
        · have := f2 m m1 (by omega) m3
          split <;> omega
      · by_cases q : f < lk i
        · rw [if_pos q]; exact f3
        · rw [if_neg q]; exact Or.inr ⟨i, hai, by omega, hb, rfl⟩
theorem sy_lackOf {post : Int32 → Prop} {x y a p s : Nat} {lk : Nat → Nat} (hx : x < 16) (hy : y < 16) (ha : a < 32) (hp : ylack (32 * x + a) = nI p) (hp1 : p ≤ 100000) (hs : yshortest y = nI s) (hs1 : s ≤ 1000) (hl : ∀ m, m < 32 → bt (yends (32 * x + a)) m = true → ylack (32 * y + m) = nI (lk m) ∧ lk m ≤ 100000) (h : ∀ f, f ≤ 100000 → f ≤ p + s → (∀ m, a ≤ m → m < 32 → bt (yends (32 * x + a)) m = true → f ≤ lk m) → (f = 100000 ∨ f = p + s ∨ ∃ m, a ≤ m ∧ m < 32 ∧ bt (yends (32 * x + a)) m = true ∧ f = lk m) → post (nI f)) : wpY_lackOf post (yplace, yroot, yrowLength, yfirst, youts, ytop, ykind, ywith, ysize, ysort, ymany, yuse, ytypeOf, yleast, ygreatest, ylisted, ytypeOfName, yused, yvalued, ygiven, yname, yparent, ychildren, ycount, yrow, yvalue, yattributes, yends, ylack, yshortest, youtKind, youtWith, ywork, yworkWith, yweight, yfollow, yfirsts, ylasts, ybare, ymet, ynameAt, ytokenAt, ytodo) (nI x) (nI y) (nI a) := by
  unfold wpY_lackOf
  dsimp only
  rw [nb_32m, nb_cl (n := 32 * x + a) (by omega), nb_cl (n := y) (by omega), hp, hs, nI_add]
  refine ⟨vp_in_nI (by omega) (by omega), vp_in_nI hy (by omega), sy_less (y := 100000) (by omega) (by omega) ⟨32 - a + 1, ?_⟩⟩
  refine sy_lak28 (z := if p + s < 100000 then p + s else 100000) hx hy ha (by split <;> omega) hl (fun f f1 f2 f3 => h f ?_ ?_ f2 ?_) (32 - a) a _ (by omega) (Nat.le_refl _) (Nat.le_refl _) (fun m m1 m2 => by omega) (Or.inl rfl)
  · split at f1 <;> omega
  · split at f1 <;> omega
  · rcases f3 with q | q
    · split at q
      · exact Or.inr (Or.inl q)
      · exact Or.inl q
    · exact Or.inr (Or.inr q)
end
end
section
/-! ===== STAR, PLUS and TIMES in the reference's tables ===== -/
theorem dp_ch_pre {L : List Nat → Prop} {w : Nat → Nat} {j a : Nat} : ∀ d m, dp_ch L w (j + d) a m → ∃ m', m' ≤ m ∧ dp_ch L w j a m' := by
  intro d
  induction d with
  | zero => intro m h; exact ⟨m, Nat.le_refl _, h⟩
  | succ d ih =>
    rintro m ⟨k, h1, h2⟩
    obtain ⟨m', h3, h4⟩ := ih k h1
    exact ⟨m', Nat.le_trans h3 h2.1, h4⟩
section
variable {yplace yroot yrowLength yfirst youts ytop : Int32} {ykind ywith ysize ysort ymany yuse ytypeOf yleast ygreatest ylisted ytypeOfName yused yvalued ygiven yname yparent ychildren ycount yrow yvalue yattributes yends ylack yshortest youtKind youtWith ywork yworkWith yweight yfollow yfirsts ylasts ybare ymet ynameAt ytokenAt ytodo : Nat → Int32}
theorem sy_w81 {post : SY → Prop} {J : Int32 → Int32 → Int32 → Int32 → Int32 → Prop} {b a n lo hi j s f0 : Nat} {lk : Nat → Nat} {x7 x9 x10 : Int32} (hb : b + 1 < 16) (hn : n ≤ 24) (hlo : lo ≤ 3) (hhi : hi ≤ 100) (hjhi : j < hi) (hs : yshortest (b + 1) = nI s) (hs1 : s ≤ 30) (hl : ∀ m, m ≤ n → ylack (32 * (b + 1) + m) = nI (lk m) ∧ lk m ≤ 100000) (hf0 : f0 ≤ 100000)
    (h : ∀ (f : Nat) (X : Int32), (∀ k, bt X k = true ↔ ∃ m, a ≤ m ∧ m ≤ n ∧ bt x9 m = true ∧ bt (yends (32 * (b + 1) + m)) k = true) → f ≤ f0 → (∀ m, a ≤ m → m ≤ n → bt x9 m = true → f ≤ lk m + (lo - 1 - j) * s) → (f = f0 ∨ ∃ m, a ≤ m ∧ m ≤ n ∧ bt x9 m = true ∧ f = lk m + (lo - 1 - j) * s) → wY_words_184 post J (nI b) (nI a) (nI n) (nI lo) (nI hi) (nI (b + 1)) x7 (nI f) x9 x10 (nI j) X yplace yroot yrowLength yfirst youts ytop ykind ywith ysize ysort ymany yuse ytypeOf yleast ygreatest ylisted ytypeOfName yused yvalued ygiven yname yparent ychildren ycount yrow yvalue yattributes yends ylack yshortest youtKind youtWith ywork yworkWith yweight yfollow yfirsts ylasts ybare ymet ynameAt ytokenAt ytodo) :
    ∀ (c i f : Nat) (X : Int32), i + c = n + 1 → a ≤ i → (∀ k, bt X k = true ↔ ∃ m, a ≤ m ∧ m < i ∧ bt x9 m = true ∧ bt (yends (32 * (b + 1) + m)) k = true) → f ≤ f0 → (∀ m, a ≤ m → m < i → bt x9 m = true → f ≤ lk m + (lo - 1 - j) * s) → (f = f0 ∨ ∃ m, a ≤ m ∧ m ≤ n ∧ bt x9 m = true ∧ f = lk m + (lo - 1 - j) * s) → wY_words_81 post J (nI b) (nI a) (nI n) (nI lo) (nI hi) (nI (b + 1)) x7 x9 x10 (nI j) yplace yroot yrowLength yfirst youts ytop ykind ywith ysize ysort ymany yuse ytypeOf yleast ygreatest ylisted ytypeOfName yused yvalued ygiven yname yparent ychildren ycount yrow yvalue yattributes yends ylack yshortest youtKind youtWith ywork yworkWith yweight yfollow yfirsts ylasts ybare ymet ynameAt ytokenAt ytodo (c + 1) (nI f) X (nI i) := by
  have mo : (lo - 1 - j) * s ≤ 2 * 30 := Nat.mul_le_mul (by omega) hs1
  intro c
  induction c with
  | zero =>
    intro i f X hi' hai hX f1 f2 f3
    refine br_t (nI_lt (by omega) (by omega)) (h f X (fun k => ?_) f1 (fun m m1 m2 m3 => f2 m m1 (by omega) m3) f3)
    rw [hX k]
    constructor
    · rintro ⟨m, m1, m2, m3⟩; exact ⟨m, m1, by omega, m3⟩
    · rintro ⟨m, m1, m2, m3⟩; exact ⟨m, m1, by omega, m3⟩
  | succ c ih =>
    intro i f X hi' hai hX f1 f2 f3
    refine br_f (nI_nlt (by omega) (by omega)) (br_f (nI_ge hjhi (by omega)) ?_)
    cases hbt : bt x9 i with
    | false =>
      have ne : ∀ m, bt x9 m = true → m ≠ i := fun m q1 q2 => by rw [q2, hbt] at q1; cases q1
      refine br_t ((bb_t _ (by omega)).mpr hbt) (nm_r (nI_1 i) (ih (i + 1) f X (by omega) (by omega) (fun k => ?_) f1 (fun m m1 m2 m3 => f2 m m1 (by have := ne m m3; omega) m3) f3))
      rw [hX k]
      constructor
      · rintro ⟨m, m1, m2, m3⟩; exact ⟨m, m1, by omega, m3⟩
      · rintro ⟨m, m1, m2, m3, m4⟩; exact ⟨m, m1, by have := ne m m3; omega, m3, m4⟩
    | true =>
      obtain ⟨l1, l2⟩ := hl i (by omega)
      refine br_f ((bb_t' _ (by omega)).mpr hbt) ?_
      rw [nb_32m, nb_cl (n := 32 * (b + 1) + i) (by omega)]
      refine ⟨vp_in_nI (by omega) (by omega), nm_e ?_⟩
      have key : wY_words_153 post J (wY_words_81 post J (nI b) (nI a) (nI n) (nI lo) (nI hi) (nI (b + 1)) x7 x9 x10 (nI j) yplace yroot yrowLength yfirst youts ytop ykind ywith ysize ysort ymany yuse ytypeOf yleast ygreatest ylisted ytypeOfName yused yvalued ygiven yname yparent ychildren ycount yrow yvalue yattributes yends ylack yshortest youtKind youtWith ywork yworkWith yweight yfollow yfirsts ylasts ybare ymet ynameAt ytokenAt ytodo (c + 1)) (nI b) (nI a) (nI n) (nI lo) (nI hi) (nI (b + 1)) x7 (nI f) x9 x10 (nI j) (X ||| yends (32 * (b + 1) + i)) (nI i) (nI ((lo - 1 - j) * s)) yplace yroot yrowLength yfirst youts ytop ykind ywith ysize ysort ymany yuse ytypeOf yleast ygreatest ylisted ytypeOfName yused yvalued ygiven yname yparent ychildren ycount yrow yvalue yattributes yends ylack yshortest youtKind youtWith ywork yworkWith yweight yfollow yfirsts ylasts ybare ymet ynameAt ytokenAt ytodo := by
        unfold wY_words_153
        rw [nb_32m, nb_cl (n := 32 * (b + 1) + i) (by omega), l1, nI_add]
        refine ⟨vp_in_nI (by omega) (by omega), sy_less (by omega) (by omega) (nm_r (nI_1 i) (ih (i + 1) _ _ (by omega) (by omega) (fun k => ?_) ?_ (fun m m1 m2 m3 => ?_) ?_))⟩
        · rw [bb_orI, hX k]
          constructor
          · rintro (⟨m, m1, m2, m3⟩ | q)
            · exact ⟨m, m1, by omega, m3⟩
            · exact ⟨i, hai, by omega, hbt, q⟩
          · rintro ⟨m, m1, m2, m3, m4⟩
            by_cases q : m = i
            · rw [q] at m4; exact Or.inr m4
            · exact Or.inl ⟨m, m1, by omega, m3, m4⟩
        · split <;> omega
        · by_cases q : m = i
          · rw [q]; split <;> omega
          · have := f2 m m1 (by omega) m3
            split <;> omega
        · by_cases q : f < lk i + (lo - 1 - j) * s
          · rw [if_pos q]; exact f3
          · rw [if_neg q]; exact Or.inr ⟨i, hai, by omega, hbt, rfl⟩
      rw [nI_1 j]
      refine pk_le lo (j + 1) (fun hle => ?_) (fun hgt => ?_)
      · have e0 : (lo - 1 - j) * s = 0 := by rw [show lo - 1 - j = 0 by omega, Nat.zero_mul]
        rw [e0] at key
        exact key
      · refine ⟨vp_in_nI (by omega) (by omega), ?_⟩
        rw [nb_cl (n := b + 1) (by omega), hs, nb_s1 (by omega), pk_sub (by omega), pk_mul]
        exact key
/-- few before the inner loop -/
theorem sy_w56 {post : SY → Prop} {J : Int32 → Int32 → Int32 → Int32 → Int32 → Prop} {b a n lo hi j f : Nat} {x7 x9 x10 : Int32} (hn : n ≤ 24) (hj : j < 60) (hlo : lo ≤ 3) (h : ∀ f0, (f0 = f ∧ (lo ≤ j → bt x9 n = false)) ∨ (f0 = 0 ∧ lo ≤ j ∧ bt x9 n = true) → ∃ n81, wY_words_81 post J (nI b) (nI a) (nI n) (nI lo) (nI hi) (nI (b + 1)) x7 x9 x10 (nI j) yplace yroot yrowLength yfirst youts ytop ykind ywith ysize ysort ymany yuse ytypeOf yleast ygreatest ylisted ytypeOfName yused yvalued ygiven yname yparent ychildren ycount yrow yvalue yattributes yends ylack yshortest youtKind youtWith ywork yworkWith yweight yfollow yfirsts ylasts ybare ymet ynameAt ytokenAt ytodo n81 (nI f0) 0 (nI a)) : wY_words_56 post J (nI b) (nI a) (nI n) (nI lo) (nI hi) (nI (b + 1)) x7 (nI f) x9 x10 (nI j) yplace yroot yrowLength yfirst youts ytop ykind ywith ysize ysort ymany yuse ytypeOf yleast ygreatest ylisted ytypeOfName yused yvalued ygiven yname yparent ychildren ycount yrow yvalue yattributes yends ylack yshortest youtKind youtWith ywork yworkWith yweight yfollow yfirsts ylasts ybare ymet ynameAt ytokenAt ytodo := by
  refine pk_lt j lo (fun hlt => h f (Or.inl ⟨rfl, fun q => by omega⟩)) (fun hge => ?_)
  cases hb : bt x9 n with
  | false => exact br_t ((bb_t _ (by omega)).mpr hb) (h f (Or.inl ⟨rfl, fun _ => hb⟩))
  | true => exact br_f ((bb_t' _ (by omega)).mpr hb) (h 0 (Or.inr ⟨rfl, hge, hb⟩))
/-- TIMES -/
theorem sy_wT {post : SY → Prop} {b a n lo hi s : Nat} {w lk : Nat → Nat} {L : List Nat → Prop} (hb : b + 1 < 16) (ha : a ≤ n) (hn : n ≤ 24) (hlh : lo ≤ hi) (hhi : hi ≤ 3) (hs : yshortest (b + 1) = nI s) (hs1 : s ≤ 30) (hl : ∀ m, m ≤ n → ylack (32 * (b + 1) + m) = nI (lk m) ∧ lk m ≤ 100000) (hE : ∀ m, m ≤ n → ∀ k, bt (yends (32 * (b + 1) + m)) k = true ↔ k ≤ n ∧ dp_E L w m k)
    (h : ∀ (S : Int32) (f : Nat), (∀ m, bt S m = true ↔ m ≤ n ∧ ∃ i, lo ≤ i ∧ i ≤ hi ∧ dp_ch L w i a m) → (f = 100000 ∨ (f = 0 ∧ bt S n = true) ∨ ∃ i m, i < hi ∧ m ≤ n ∧ dp_ch L w i a m ∧ f = lk m + (lo - 1 - i) * s) → (bt S n = true → f = 0) → (∀ i m, i < hi → m ≤ n → dp_ch L w i a m → f ≤ lk m + (lo - 1 - i) * s) → f ≤ 100000 → wY_words_224 post (nI b) (nI a) S (nI f) yplace yroot yrowLength yfirst youts ytop ykind ywith ysize ysort ymany yuse ytypeOf yleast ygreatest ylisted ytypeOfName yused yvalued ygiven yname yparent ychildren ycount yrow yvalue yattributes yends ylack yshortest youtKind youtWith ywork yworkWith yweight yfollow yfirsts ylasts ybare ymet ynameAt ytokenAt ytodo) :
    ∀ (c j f : Nat) (S N A : Int32), j + c = hi + 1 → (j ≤ hi → ∀ m, bt N m = true ↔ m ≤ n ∧ dp_ch L w j a m) → (∀ m, bt S m = true ↔ m ≤ n ∧ ∃ i, i < j ∧ lo ≤ i ∧ dp_ch L w i a m) → (f = 100000 ∨ (f = 0 ∧ bt S n = true) ∨ ∃ i m, i < j ∧ i < hi ∧ m ≤ n ∧ dp_ch L w i a m ∧ f = lk m + (lo - 1 - i) * s) → (bt S n = true → f = 0) → (∀ i m, i < j → i < hi → m ≤ n → dp_ch L w i a m → f ≤ lk m + (lo - 1 - i) * s) → f ≤ 100000 → wY_words_23 post (nI b) (nI a) (nI n) (nI lo) (nI hi) (nI (b + 1)) yplace yroot yrowLength yfirst youts ytop ykind ywith ysize ysort ymany yuse ytypeOf yleast ygreatest ylisted ytypeOfName yused yvalued ygiven yname yparent ychildren ycount yrow yvalue yattributes yends ylack yshortest youtKind youtWith ywork yworkWith yweight yfollow yfirsts ylasts ybare ymet ynameAt ytokenAt ytodo (c + 1) S (nI f) N A (nI j) := by
  intro c
  induction c with
  | zero =>
    intro j f S N A hj hN hS f1 f2 f3 f4
    refine br_t (nI_lt (by omega) (by omega)) (h S f (fun m => ?_) ?_ f2 (fun i m h1 h2 h3 => f3 i m (by omega) h1 h2 h3) f4)
    · rw [hS m]
      constructor
      · rintro ⟨q, i, i1, i2, i3⟩; exact ⟨q, i, i2, by omega, i3⟩
      · rintro ⟨q, i, i1, i2, i3⟩; exact ⟨q, i, by omega, i1, i3⟩
    · rcases f1 with q | q | ⟨i, m, _, q⟩
      · exact Or.inl q
      · exact Or.inr (Or.inl q)
      · exact Or.inr (Or.inr ⟨i, m, q⟩)
  | succ c ih =>
    intro j f S N A hj hN hS f1 f2 f3 f4
    have hN' := hN (by omega)
    refine br_f (nI_nlt (by omega) (by omega)) (br_f (nI_ge (b := 60) (by omega) (by omega)) ?_)
    by_cases N0 : N = 0
    · have none : ∀ i m, j ≤ i → m ≤ n → ¬ dp_ch L w i a m := by
        intro i m hi' hm hc
        rw [show i = j + (i - j) by omega] at hc
        obtain ⟨m', q1, q2⟩ := dp_ch_pre (i - j) m hc
        have := (hN' m').mpr ⟨by omega, q2⟩
        rw [N0, b_0] at this
        cases this
      refine br_t N0 (h S f (fun m => ?_) ?_ f2 (fun i m h1 h2 h3 => ?_) f4)
      · rw [hS m]
        constructor
        · rintro ⟨q, i, i1, i2, i3⟩; exact ⟨q, i, i2, by omega, i3⟩
        · rintro ⟨q, i, i1, i2, i3⟩
          refine ⟨q, i, ?_, i1, i3⟩
          rcases Nat.lt_or_ge i j with q2 | q2
          · exact q2
          · exact absurd i3 (none i m q2 q)
      · rcases f1 with q | q | ⟨i, m, _, q⟩
        · exact Or.inl q
        · exact Or.inr (Or.inl q)
        · exact Or.inr (Or.inr ⟨i, m, q⟩)
      · rcases Nat.lt_or_ge i j with q2 | q2
        · exact f3 i m q2 h1 h2 h3
        · exact absurd h3 (none i m q2 h2)
    · refine br_f N0 ?_
      have go : ∀ S' : Int32, (∀ m, bt S' m = true ↔ m ≤ n ∧ ∃ i, i < j + 1 ∧ lo ≤ i ∧ dp_ch L w i a m) → wY_words_56 post (wY_words_23 post (nI b) (nI a) (nI n) (nI lo) (nI hi) (nI (b + 1)) yplace yroot yrowLength yfirst youts ytop ykind ywith ysize ysort ymany yuse ytypeOf yleast ygreatest ylisted ytypeOfName yused yvalued ygiven yname yparent ychildren ycount yrow yvalue yattributes yends ylack yshortest youtKind youtWith ywork yworkWith yweight yfollow yfirsts ylasts ybare ymet ynameAt ytokenAt ytodo (c + 1)) (nI b) (nI a) (nI n) (nI lo) (nI hi) (nI (b + 1)) S' (nI f) N A (nI j) yplace yroot yrowLength yfirst youts ytop ykind ywith ysize ysort ymany yuse ytypeOf yleast ygreatest ylisted ytypeOfName yused yvalued ygiven yname yparent ychildren ycount yrow yvalue yattributes yends ylack yshortest youtKind youtWith ywork yworkWith yweight yfollow yfirsts ylasts ybare ymet ynameAt ytokenAt ytodo := by
        intro S' hS'
        have hSS : ∀ m, bt S m = true → bt S' m = true := by
          intro m q
          obtain ⟨q1, i, i1, i2⟩ := (hS m).mp q
          exact (hS' m).mpr ⟨q1, i, by omega, i2⟩
        refine sy_w56 hn (by omega) (by omega) (fun f0 hf0 => ?_)
        have f0le : f0 ≤ 100000 := by rcases hf0 with q | q <;> omega
        have g1 : f0 = 100000 ∨ (f0 = 0 ∧ bt S' n = true) ∨ ∃ i m, i < j ∧ i < hi ∧ m ≤ n ∧ dp_ch L w i a m ∧ f0 = lk m + (lo - 1 - i) * s := by
          rcases hf0 with ⟨q, _⟩ | ⟨q, q2, q3⟩
          · rw [q]
            rcases f1 with q | ⟨q, q2⟩ | q
            · exact Or.inl q
            · exact Or.inr (Or.inl ⟨q, hSS n q2⟩)
            · exact Or.inr (Or.inr q)
          · exact Or.inr (Or.inl ⟨q, (hS' n).mpr ⟨Nat.le_refl _, j, by omega, q2, ((hN' n).mp q3).2⟩⟩)
        have g2 : bt S' n = true → f0 = 0 := by
          intro q
          obtain ⟨_, i, i1, i2, i3⟩ := (hS' n).mp q
          rcases hf0 with ⟨q1, q2⟩ | ⟨q1, _⟩
          · by_cases q3 : i = j
            · have := (hN' n).mpr ⟨Nat.le_refl _, by rw [← q3]; exact i3⟩
              rw [q2 (by omega)] at this
              cases this
            · rw [q1]; exact f2 ((hS n).mpr ⟨Nat.le_refl _, i, by omega, i2, i3⟩)
          · exact q1
        have g3 : ∀ i m, i < j → i < hi → m ≤ n → dp_ch L w i a m → f0 ≤ lk m + (lo - 1 - i) * s := by
          intro i m h1 h2 h3 h4
          have := f3 i m h1 h2 h3 h4
          rcases hf0 with q | q <;> omega
        by_cases jh : j < hi
        · refine ⟨n + 1 - a + 1, sy_w81 (f0 := f0) hb hn (by omega) (by omega) jh hs hs1 hl f0le (fun f' X hX k1 k2 k3 => ?_) (n + 1 - a) a f0 0 (by omega) (Nat.le_refl _) (fun k => by rw [b_0]; exact ⟨fun q => absurd q Bool.false_ne_true, fun ⟨m, m1, m2, _⟩ => by omega⟩) (Nat.le_refl _) (fun m m1 m2 => by omega) (Or.inl rfl)⟩
          refine nm_e (br_t (nI_le (b := 3) (by omega) (by omega)) (nm_r (nI_1 j) (ih (j + 1) f' S' X _ (by omega) (fun _ m => ?_) hS' ?_ (fun q => by have := g2 q; omega) (fun i m h1 h2 h3 h4 => ?_) (by omega))))
          · rw [hX m]
            constructor
            · rintro ⟨m', m1, m2, m3, m4⟩
              obtain ⟨e1, e2⟩ := (hE m' m2 m).mp m4
              exact ⟨e1, m', ((hN' m').mp m3).2, e2⟩
            · rintro ⟨q, m', q1, q2⟩
              have q3 := q2.1
              exact ⟨m', dp_ch_le j a m' q1, by omega, (hN' m').mpr ⟨by omega, q1⟩, (hE m' (by omega) m).mpr ⟨q, q2⟩⟩
          · rcases k3 with q | ⟨m, m1, m2, m3, m4⟩
            · rw [q]
              rcases g1 with q | q | ⟨i, m, i1, i2⟩
              · exact Or.inl q
              · exact Or.inr (Or.inl q)
              · exact Or.inr (Or.inr ⟨i, m, by omega, i2⟩)
            · exact Or.inr (Or.inr ⟨j, m, by omega, jh, m2, ((hN' m).mp m3).2, m4⟩)
          · by_cases q : i = j
            · rw [q] at h4 ⊢
              exact k2 m (dp_ch_le j a m h4) h3 ((hN' m).mpr ⟨h3, h4⟩)
            · have := g3 i m (by omega) h2 h3 h4
              omega
        · obtain rfl : j = hi := by omega
          refine ⟨1, br_f (nI_nlt ha (by omega)) (br_t (nI_le (Nat.le_refl _) (by omega)) (nm_e (br_t (nI_le (b := 3) (by omega) (by omega)) (nm_r (nI_1 j) (ih (j + 1) f0 S' 0 _ (by omega) (fun q => by omega) hS' ?_ g2 (fun i m h1 h2 h3 h4 => g3 i m (by omega) h2 h3 h4) f0le)))))⟩
          rcases g1 with q | q | ⟨i, m, i1, i2⟩
          · exact Or.inl q
          · exact Or.inr (Or.inl q)
          · exact Or.inr (Or.inr ⟨i, m, by omega, i2⟩)
      refine pk_lt j lo (fun hlt => go S (fun m => ?_)) (fun hge => nm_e (go _ (fun m => ?_)))
      · rw [hS m]
        constructor
        · rintro ⟨q, i, i1, i2⟩; exact ⟨q, i, by omega, i2⟩
        · rintro ⟨q, i, i1, i2, i3⟩; exact ⟨q, i, by omega, i2, i3⟩
      · rw [bb_orI, hS m, hN' m]
        constructor
        · rintro (⟨q, i, i1, i2⟩ | ⟨q, q2⟩)
          · exact ⟨q, i, by omega, i2⟩
          · exact ⟨q, j, by omega, hge, q2⟩
        · rintro ⟨q, i, i1, i2, i3⟩
          by_cases q2 : i = j
          · rw [q2] at i3; exact Or.inr ⟨q, i3⟩
          · exact Or.inl ⟨q, i, by omega, i2, i3⟩
end
end
section
/-! ===== STAR and PLUS in the reference's tables ===== -/
section
variable {yplace yroot yrowLength yfirst youts ytop : Int32} {ykind ywith ysize ysort ymany yuse ytypeOf yleast ygreatest ylisted ytypeOfName yused yvalued ygiven yname yparent ychildren ycount yrow yvalue yattributes yends ylack yshortest youtKind youtWith ywork yworkWith yweight yfollow yfirsts ylasts ybare ymet ynameAt ytokenAt ytodo : Nat → Int32}
theorem sy_wR {post : SY → Prop} {b a n lo s B : Nat} {w lk : Nat → Nat} {L : List Nat → Prop} (hb : b + 1 < 16) (ha : a ≤ n) (hn : n ≤ 24) (hlo : lo ≤ 1) (hs : yshortest (b + 1) = nI s) (hs1 : s ≤ 30) (hl : ∀ m, m ≤ n → ylack (32 * (b + 1) + m) = nI (lk m) ∧ lk m ≤ 100000) (hE : ∀ m, m ≤ n → ∀ k, bt (yends (32 * (b + 1) + m)) k = true ↔ k ≤ n ∧ dp_E L w m k)
    (h : ∀ (S A : Int32) (f : Nat), bt A a = true → (∀ m, bt A m = true → m ≤ n ∧ ∃ i, dp_ch L w i a m) → (∀ m k, bt A m = true → k ≤ n → dp_E L w m k → bt A k = true) → (∀ m, bt S m = true → m ≤ n ∧ ∃ i, lo ≤ i ∧ dp_ch L w i a m) → (∀ m, bt A m = true → (lo = 0 ∨ m ≠ a ∨ dp_E L w a a) → bt S m = true) → (f = 100000 ∨ (f = 0 ∧ bt S n = true) ∨ ∃ m, bt A m = true ∧ f = lk m) → (bt S n = true → f = 0) → (∀ m, bt A m = true → f ≤ lk m) → f ≤ 100000 → wY_words_224 post (nI b) (nI a) S (nI f) yplace yroot yrowLength yfirst youts ytop ykind ywith ysize ysort ymany yuse ytypeOf yleast ygreatest ylisted ytypeOfName yused yvalued ygiven yname yparent ychildren ycount yrow yvalue yattributes yends ylack yshortest youtKind youtWith ywork yworkWith yweight yfollow yfirsts ylasts ybare ymet ynameAt ytokenAt ytodo) :
    ∀ (c j f : Nat) (S N A : Int32), j + c = 28 → (∀ m, bt N m = true → m ≤ n ∧ dp_ch L w j a m ∧ a + j ≤ m + lo) → (∀ m, bt A m = true → m ≤ n ∧ ∃ i, dp_ch L w i a m) → (∀ m k, bt A m = true → k ≤ n → dp_E L w m k → bt A k = true ∨ bt N k = true) → (j = 0 → (∀ m, bt A m = false) ∧ ∀ m, bt N m = true ↔ m = a) → (0 < j → bt A a = true) → (∀ m, bt S m = true → bt A m = true ∧ ∃ i, lo ≤ i ∧ dp_ch L w i a m) → (∀ m, bt A m = true → (lo = 0 ∨ m ≠ a) → bt S m = true) → (0 < j → dp_E L w a a → bt S a = true ∨ bt N a = true ∨ lo = 0) → (f = 100000 ∨ (f = 0 ∧ bt S n = true) ∨ ∃ m, bt A m = true ∧ f = lk m) → (bt S n = true → f = 0) → (∀ m, bt A m = true → f ≤ lk m) → f ≤ 100000 → wY_words_23 post (nI b) (nI a) (nI n) (nI lo) (nI 100) (nI (b + 1)) yplace yroot yrowLength yfirst youts ytop ykind ywith ysize ysort ymany yuse ytypeOf yleast ygreatest ylisted ytypeOfName yused yvalued ygiven yname yparent ychildren ycount yrow yvalue yattributes yends ylack yshortest youtKind youtWith ywork yworkWith yweight yfollow yfirsts ylasts ybare ymet ynameAt ytokenAt ytodo (c + 1) S (nI f) N A (nI j) := by
  have fin : ∀ (c j f : Nat) (S N A : Int32), j < 60 → N = 0 → (∀ m, bt A m = true → m ≤ n ∧ ∃ i, dp_ch L w i a m) → (∀ m k, bt A m = true → k ≤ n → dp_E L w m k → bt A k = true ∨ bt N k = true) → (j = 0 → (∀ m, bt A m = false) ∧ ∀ m, bt N m = true ↔ m = a) → (0 < j → bt A a = true) → (∀ m, bt S m = true → bt A m = true ∧ ∃ i, lo ≤ i ∧ dp_ch L w i a m) → (∀ m, bt A m = true → (lo = 0 ∨ m ≠ a) → bt S m = true) → (0 < j → dp_E L w a a → bt S a = true ∨ bt N a = true ∨ lo = 0) → (f = 100000 ∨ (f = 0 ∧ bt S n = true) ∨ ∃ m, bt A m = true ∧ f = lk m) → (bt S n = true → f = 0) → (∀ m, bt A m = true → f ≤ lk m) → f ≤ 100000 → wY_words_23 post (nI b) (nI a) (nI n) (nI lo) (nI 100) (nI (b + 1)) yplace yroot yrowLength yfirst youts ytop ykind ywith ysize ysort ymany yuse ytypeOf yleast ygreatest ylisted ytypeOfName yused yvalued ygiven yname yparent ychildren ycount yrow yvalue yattributes yends ylack yshortest youtKind youtWith ywork yworkWith yweight yfollow yfirsts ylasts ybare ymet ynameAt ytokenAt ytodo (c + 1) S (nI f) N A (nI j) := by
    intro c j f S N A hj N0 iA1 iA2 iA3 iA4 iS1 iS2 iS3 f1 f2 f3 f4
    have nN : ∀ m, bt N m = true → False := fun m q => by rw [N0, b_0] at q; cases q
    have j0 : 0 < j := by
      rcases Nat.eq_zero_or_pos j with q | q
      · exact (nN a (((iA3 q).2 a).mpr rfl)).elim
      · exact q
    refine br_f (nI_nlt (a := 100) (by omega) (by omega)) (br_f (nI_ge (b := 60) (by omega) (by omega)) (br_t N0 (h S A f (iA4 j0) iA1 (fun m k h1 h2 h3 => (iA2 m k h1 h2 h3).elim id (fun q => (nN k q).elim)) (fun m q => ⟨(iA1 m (iS1 m q).1).1, (iS1 m q).2⟩) (fun m q1 q2 => ?_) f1 f2 f3 f4)))
    rcases q2 with q2 | q2 | q2
    · exact iS2 m q1 (Or.inl q2)
    · exact iS2 m q1 (Or.inr q2)
    · by_cases q3 : m = a
      · rcases iS3 j0 q2 with q | q | q
        · rw [q3]; exact q
        · exact (nN a q).elim
        · exact iS2 m q1 (Or.inl q)
      · exact iS2 m q1 (Or.inr q3)
  intro c
  induction c with
  | zero =>
    intro j f S N A hj iN1 iA1 iA2 iA3 iA4 iS1 iS2 iS3 f1 f2 f3 f4
    have N0 : N = 0 := by
      apply Classical.byContradiction
      intro q
      obtain ⟨m, hm⟩ := bb_ne.mp q
      obtain ⟨q1, _, q2⟩ := iN1 m hm
      omega
    exact fin 0 j f S N A (by omega) N0 iA1 iA2 iA3 iA4 iS1 iS2 iS3 f1 f2 f3 f4
  | succ c ih =>
    intro j f S N A hj iN1 iA1 iA2 iA3 iA4 iS1 iS2 iS3 f1 f2 f3 f4
    by_cases N0 : N = 0
    · exact fin (c + 1) j f S N A (by omega) N0 iA1 iA2 iA3 iA4 iS1 iS2 iS3 f1 f2 f3 f4
    · refine br_f (nI_nlt (a := 100) (by omega) (by omega)) (br_f (nI_ge (b := 60) (by omega) (by omega)) (br_f N0 ?_))
      have e0 : (lo - 1 - j) * s = 0 := by rw [show lo - 1 - j = 0 by omega, Nat.zero_mul]
      -- what holds of all' = all | now
      have jA : ∀ m, bt (A ||| N) m = true → m ≤ n ∧ ∃ i, dp_ch L w i a m := by
        intro m q
        rcases bb_orI.mp q with q | q
        · exact iA1 m q
        · obtain ⟨q1, q2, _⟩ := iN1 m q
          exact ⟨q1, j, q2⟩
      have jAa : bt (A ||| N) a = true := by
        rcases Nat.eq_zero_or_pos j with q | q
        · exact bb_orI.mpr (Or.inr (((iA3 q).2 a).mpr rfl))
        · exact bb_orI.mpr (Or.inl (iA4 q))
      -- one round
      have go : ∀ S' : Int32, (lo ≤ j → S' = S ||| N) → (j < lo → S' = S) → wY_words_56 post (wY_words_23 post (nI b) (nI a) (nI n) (nI lo) (nI 100) (nI (b + 1)) yplace yroot yrowLength yfirst youts ytop ykind ywith ysize ysort ymany yuse ytypeOf yleast ygreatest ylisted ytypeOfName yused yvalued ygiven yname yparent ychildren ycount yrow yvalue yattributes yends ylack yshortest youtKind youtWith ywork yworkWith yweight yfollow yfirsts ylasts ybare ymet ynameAt ytokenAt ytodo (c + 1)) (nI b) (nI a) (nI n) (nI lo) (nI 100) (nI (b + 1)) S' (nI f) N A (nI j) yplace yroot yrowLength yfirst youts ytop ykind ywith ysize ysort ymany yuse ytypeOf yleast ygreatest ylisted ytypeOfName yused yvalued ygiven yname yparent ychildren ycount yrow yvalue yattributes yends ylack yshortest youtKind youtWith ywork yworkWith yweight yfollow yfirsts ylasts ybare ymet ynameAt ytokenAt ytodo := by
        intro S' hge hlt
        have SS : ∀ m, bt S m = true → bt S' m = true := by
          intro m q
          rcases Nat.lt_or_ge j lo with q2 | q2
          · rw [hlt q2]; exact q
          · rw [hge q2]; exact bb_orI.mpr (Or.inl q)
        have jS1 : ∀ m, bt S' m = true → bt (A ||| N) m = true ∧ ∃ i, lo ≤ i ∧ dp_ch L w i a m := by
          intro m q
          rcases Nat.lt_or_ge j lo with q2 | q2
          · rw [hlt q2] at q
            obtain ⟨r1, r2⟩ := iS1 m q
            exact ⟨bb_orI.mpr (Or.inl r1), r2⟩
          · rw [hge q2] at q
            rcases bb_orI.mp q with q | q
            · obtain ⟨r1, r2⟩ := iS1 m q
              exact ⟨bb_orI.mpr (Or.inl r1), r2⟩
            · exact ⟨bb_orI.mpr (Or.inr q), j, q2, (iN1 m q).2.1⟩
        have jS2 : ∀ m, bt (A ||| N) m = true → (lo = 0 ∨ m ≠ a) → bt S' m = true := by
          intro m q1 q2
          rcases bb_orI.mp q1 with q | q
          · exact SS m (iS2 m q q2)
          · rcases Nat.lt_or_ge j lo with q3 | q3
            · have q4 := ((iA3 (by omega)).2 m).mp q
              rcases q2 with q2 | q2
              · omega
              · exact absurd q4 q2
            · rw [hge q3]; exact bb_orI.mpr (Or.inr q)
        refine sy_w56 hn (by omega) (by omega) (fun f0 hf0 => ?_)
        have f0le : f0 ≤ 100000 := by rcases hf0 with q | q <;> omega
        refine ⟨n + 1 - a + 1, sy_w81 (f0 := f0) hb hn (by omega) (by omega) (by omega) hs hs1 hl f0le (fun f' X hX k1 k2 k3 => ?_) (n + 1 - a) a f0 0 (by omega) (Nat.le_refl _) (fun k => by rw [b_0]; exact ⟨fun q => absurd q Bool.false_ne_true, fun ⟨m, m1, m2, _⟩ => by omega⟩) (Nat.le_refl _) (fun m m1 m2 => by omega) (Or.inl rfl)⟩
        rw [e0] at k2 k3
        have hX1 : ∀ k, bt X k = true → ∃ m, bt N m = true ∧ m ≤ n ∧ k ≤ n ∧ dp_E L w m k := by
          intro k q
          obtain ⟨m, m1, m2, m3, m4⟩ := (hX k).mp q
          obtain ⟨e1, e2⟩ := (hE m m2 k).mp m4
          exact ⟨m, m3, m2, e1, e2⟩
        have hX2 : ∀ m k, bt N m = true → k ≤ n → dp_E L w m k → bt X k = true := by
          intro m k q1 q2 q3
          obtain ⟨r1, r2, _⟩ := iN1 m q1
          exact (hX k).mpr ⟨m, dp_ch_le j a m r2, r1, q1, (hE m r1 k).mpr ⟨q2, q3⟩⟩
        have g1 : f' = 100000 ∨ (f' = 0 ∧ bt S' n = true) ∨ ∃ m, bt (A ||| N) m = true ∧ f' = lk m := by
          rcases k3 with q | ⟨m, m1, m2, m3, m4⟩
          · rw [q]
            rcases hf0 with ⟨q, _⟩ | ⟨q, q2, q3⟩
            · rw [q]
              rcases f1 with q | ⟨q, q2⟩ | ⟨m, q, q2⟩
              · exact Or.inl q
              · exact Or.inr (Or.inl ⟨q, SS n q2⟩)
              · exact Or.inr (Or.inr ⟨m, bb_orI.mpr (Or.inl q), q2⟩)
            · exact Or.inr (Or.inl ⟨q, by rw [hge q2]; exact bb_orI.mpr (Or.inr q3)⟩)
          · exact Or.inr (Or.inr ⟨m, bb_orI.mpr (Or.inr m3), by omega⟩)
        have g2 : bt S' n = true → f' = 0 := by
          intro q
          have : f0 = 0 := by
            rcases hf0 with ⟨q1, q2⟩ | ⟨q1, _⟩
            · rcases Nat.lt_or_ge j lo with q3 | q3
              · rw [hlt q3] at q
                rw [q1]; exact f2 q
              · rw [hge q3] at q
                rcases bb_orI.mp q with q | q
                · rw [q1]; exact f2 q
                · rw [q2 q3] at q; cases q
            · exact q1
          omega
        have g3 : ∀ m, bt (A ||| N) m = true → f' ≤ lk m := by
          intro m q
          rcases bb_orI.mp q with q | q
          · have := f3 m q
            rcases hf0 with r | r <;> omega
          · obtain ⟨r1, r2, _⟩ := iN1 m q
            have := k2 m (dp_ch_le j a m r2) r1 q
            omega
        refine nm_e (br_f (by decide) ?_)
        rcases Nat.lt_or_ge j lo with q | q
        · -- j = 0, PLUS
          refine br_t (nI_lt q (by omega)) (nm_r (nI_1 j) (ih (j + 1) f' S' X (A ||| N) (by omega) (fun m hm => ?_) jA (fun m k h1 h2 h3 => ?_) (fun q => by omega) (fun _ => jAa) jS1 jS2 (fun _ hEa => Or.inr (Or.inl ?_)) g1 g2 g3 (by omega)))
          · obtain ⟨m', r1, r2, r3, r4⟩ := hX1 m hm
            have r5 := (iN1 m' r1).2.1
            have r6 := dp_ch_le j a m' r5
            have r7 := r4.1
            exact ⟨r3, ⟨m', r5, r4⟩, by omega⟩
          · rcases bb_orI.mp h1 with r | r
            · rw [(iA3 (by omega)).1 m] at r; cases r
            · exact Or.inr (hX2 m k r h2 h3)
          · exact hX2 a a (((iA3 (by omega)).2 a).mpr rfl) ha hEa
        · refine br_f (nI_nlt q (by omega)) (nm_e (nm_r (nI_1 j) (ih (j + 1) f' S' _ (A ||| N) (by omega) (fun m hm => ?_) jA (fun m k h1 h2 h3 => ?_) (fun q => by omega) (fun _ => jAa) jS1 jS2 (fun _ hEa => ?_) g1 g2 g3 (by omega))))
          · obtain ⟨hm1, hm2⟩ := bb_notI.mp hm
            obtain ⟨m', r1, r2, r3, r4⟩ := hX1 m hm1
            obtain ⟨_, r5, r6⟩ := iN1 m' r1
            have r7 := r4.1
            have r8 : m ≠ m' := by
              intro q2
              rw [q2, bb_orI.mpr (Or.inr r1)] at hm2
              cases hm2
            exact ⟨r3, ⟨m', r5, r4⟩, by omega⟩
          · have key : bt X k = true → bt (A ||| N) k = true ∨ bt (X &&& ((A ||| N) ^^^ (-1))) k = true := by
              intro r
              cases hv : bt (A ||| N) k with
              | true => exact Or.inl rfl
              | false => exact Or.inr (bb_notI.mpr ⟨r, hv⟩)
            rcases bb_orI.mp h1 with r | r
            · rcases iA2 m k r h2 h3 with r2 | r2
              · exact Or.inl (bb_orI.mpr (Or.inl r2))
              · exact Or.inl (bb_orI.mpr (Or.inr r2))
            · exact key (hX2 m k r h2 h3)
          · rcases Nat.eq_zero_or_pos j with q2 | q2
            · exact Or.inr (Or.inr (by omega))
            · rcases iS3 q2 hEa with r | r | r
              · exact Or.inl (SS a r)
              · exact Or.inl (by rw [hge q]; exact bb_orI.mpr (Or.inr r))
              · exact Or.inr (Or.inr r)
      exact pk_lt j lo (fun hlt => go S (fun q => by omega) (fun _ => rfl)) (fun hge => nm_e (go _ (fun _ => rfl) (fun q => by omega)))
end
end
section
/-! ===== one cell of the reference's tables ===== -/
def ed_R (L : List Nat → Prop) (B : Nat) (w : Nat → Nat) (n b : Nat) (en lk : Nat → Int32) : Prop := ∀ a, a ≤ n → (∀ m, bt (en (32 * b + a)) m = true ↔ m ≤ n ∧ dp_E L w a m) ∧ ∃ x, lk (32 * b + a) = nI x ∧ dp_M B (dp_K L w n a) x
def ed_P (w : Nat → Nat) (n : Nat) (vl : Nat → Nat) (R : ex_T) (b : Nat) (sh en lk : Nat → Int32) : Prop := sh b = nI (ex_sh R) ∧ ed_R (ex_L vl R) (ex_w R) w n b en lk
theorem ed_R_cg {L : List Nat → Prop} {B : Nat} {w : Nat → Nat} {n b : Nat} {en lk en' lk' : Nat → Int32} (h : ed_R L B w n b en lk) (hn : n ≤ 24) (h1 : ∀ i, 32 * b ≤ i → i < 32 * b + 32 → en' i = en i ∧ lk' i = lk i) : ed_R L B w n b en' lk' := by
  intro a ha
  obtain ⟨q1, q2⟩ := h1 (32 * b + a) (by omega) (by omega)
  rw [q1, q2]
  exact h a ha
theorem ed_lk {L : List Nat → Prop} {B : Nat} {w : Nat → Nat} {n b : Nat} {en lk : Nat → Int32} (h : ed_R L B w n b en lk) (hB : B ≤ 100000) : ∃ f : Nat → Nat, ∀ m, m ≤ n → lk (32 * b + m) = nI (f m) ∧ f m ≤ 100000 ∧ dp_M B (dp_K L w n m) (f m) := by
  refine Classical.axiomOfChoice (r := fun m (x : Nat) => m ≤ n → lk (32 * b + m) = nI x ∧ x ≤ 100000 ∧ dp_M B (dp_K L w n m) x) (fun m => ?_)
  by_cases hm : m ≤ n
  · obtain ⟨_, x, h1, h2⟩ := h m hm
    refine ⟨x, fun _ => ⟨h1, ?_, h2⟩⟩
    rcases h2 with ⟨_, q, _⟩ | ⟨q, _⟩ <;> omega
  · exact ⟨0, fun q => absurd q hm⟩
theorem dp_M_cg {B B' : Nat} {K K' : Nat → Prop} {x : Nat} (h : dp_M B K x) (hB : B ≤ B') (hK : ∀ d, K d ↔ K' d) : dp_M B' K' x := by
  rcases h with ⟨h1, h2, h3⟩ | ⟨h1, h2⟩
  · exact Or.inl ⟨(hK x).mp h1, by omega, fun d hd => h3 d ((hK d).mpr hd)⟩
  · exact Or.inr ⟨h1, fun d hd => h2 d ((hK d).mpr hd)⟩
section
variable {yplace yroot yrowLength yfirst youts ytop : Int32} {ykind ywith ysize ysort ymany yuse ytypeOf yleast ygreatest ylisted ytypeOfName yused yvalued ygiven yname yparent ychildren ycount yrow yvalue yattributes yends ylack yshortest youtKind youtWith ywork yworkWith yweight yfollow yfirsts ylasts ybare ymet ynameAt ytokenAt ytodo : Nat → Int32}
theorem sy_wordsR {post : SY → Prop} {b a n lo s B : Nat} {w : Nat → Nat} {L : List Nat → Prop} (hb : b + 1 < 16) (ha : a ≤ n) (hn : n ≤ 24) (hlo : lo ≤ 1) (hB : B ≤ 30) (hs : yshortest (b + 1) = nI s) (hs1 : s ≤ 30) (hR : ed_R L B w n (b + 1) yends ylack)
    (h : ∀ (E : Int32) (x : Nat), (∀ m, bt E m = true ↔ m ≤ n ∧ dp_E (fun u => ∃ j, lo ≤ j ∧ ex_pw L j u) w a m) → dp_M B (dp_K (fun u => ∃ j, lo ≤ j ∧ ex_pw L j u) w n a) x → post (yplace, yroot, yrowLength, yfirst, youts, ytop, ykind, ywith, ysize, ysort, ymany, yuse, ytypeOf, yleast, ygreatest, ylisted, ytypeOfName, yused, yvalued, ygiven, yname, yparent, ychildren, ycount, yrow, yvalue, yattributes, upd yends (32 * b + a) E, upd ylack (32 * b + a) (nI x), yshortest, youtKind, youtWith, ywork, yworkWith, yweight, yfollow, yfirsts, ylasts, ybare, ymet, ynameAt, ytokenAt, ytodo)) : wpY_words post (yplace, yroot, yrowLength, yfirst, youts, ytop, ykind, ywith, ysize, ysort, ymany, yuse, ytypeOf, yleast, ygreatest, ylisted, ytypeOfName, yused, yvalued, ygiven, yname, yparent, ychildren, ycount, yrow, yvalue, yattributes, yends, ylack, yshortest, youtKind, youtWith, ywork, yworkWith, yweight, yfollow, yfirsts, ylasts, ybare, ymet, ynameAt, ytokenAt, ytodo) (nI b) (nI a) (nI n) (nI lo) (nI 100) := by
  obtain ⟨lk, hlk⟩ := ed_lk hR (by omega)
  refine nm_r (nI_1 b) (nm_e ⟨29, ?_⟩)
  refine sy_wR (B := B) (w := w) (lk := lk) (L := L) hb ha hn hlo hs hs1 (fun m hm => ⟨(hlk m hm).1, (hlk m hm).2.1⟩) (fun m hm => (hR m hm).1) (fun S A f q1 q2 q3 q4 q5 q6 q7 q8 q9 => ?_) 28 0 100000 0 _ 0 (by omega) (fun m q => ?_) (fun m q => ?_) (fun m k q => ?_) (fun _ => ⟨fun m => b_0 m, fun m => bb_sI (by omega)⟩) (fun q => by omega) (fun m q => ?_) (fun m q => ?_) (fun q => by omega) (Or.inl rfl) (fun q => ?_) (fun m q => ?_) (Nat.le_refl _)
  · obtain ⟨r1, r2⟩ := dp_rep (B := B) (A := fun m => bt A m = true) (S := fun m => bt S m = true) (lk := lk) hlo ha (by omega) (fun m hm => (hlk m hm).2.2) q1 q2 q3 q4 q5 q6 q7 q8 q9
    refine br_t (nI_le (b := 100000) q9 (by omega)) (sy_keep (by omega) (by omega) (h S f (fun m => ⟨fun q => ⟨(q4 m q).1, (r1 m (q4 m q).1).mp q⟩, fun q => (r1 m q.1).mpr q.2⟩) r2))
  · rw [bb_sI (by omega)] at q
    rw [q]; exact ⟨ha, rfl, by omega⟩
  · rw [b_0] at q; cases q
  · rw [b_0] at q; cases q
  · rw [b_0] at q; cases q
  · rw [b_0] at q; cases q
  · rw [b_0] at q; cases q
  · rw [b_0] at q; cases q
theorem sy_wordsT {post : SY → Prop} {b a n lo hi s B : Nat} {w : Nat → Nat} {L : List Nat → Prop} (hb : b + 1 < 16) (ha : a ≤ n) (hn : n ≤ 24) (hlh : lo ≤ hi) (hhi : hi ≤ 3) (hB : hi * B ≤ 30) (hB0 : B ≤ 30) (hs : yshortest (b + 1) = nI s) (hsl : dp_s L s) (hsB : s ≤ B) (hR : ed_R L B w n (b + 1) yends ylack)
    (h : ∀ (E : Int32) (x : Nat), (∀ m, bt E m = true ↔ m ≤ n ∧ dp_E (fun u => ∃ j, lo ≤ j ∧ j ≤ hi ∧ ex_pw L j u) w a m) → dp_M (hi * B) (dp_K (fun u => ∃ j, lo ≤ j ∧ j ≤ hi ∧ ex_pw L j u) w n a) x → post (yplace, yroot, yrowLength, yfirst, youts, ytop, ykind, ywith, ysize, ysort, ymany, yuse, ytypeOf, yleast, ygreatest, ylisted, ytypeOfName, yused, yvalued, ygiven, yname, yparent, ychildren, ycount, yrow, yvalue, yattributes, upd yends (32 * b + a) E, upd ylack (32 * b + a) (nI x), yshortest, youtKind, youtWith, ywork, yworkWith, yweight, yfollow, yfirsts, ylasts, ybare, ymet, ynameAt, ytokenAt, ytodo)) : wpY_words post (yplace, yroot, yrowLength, yfirst, youts, ytop, ykind, ywith, ysize, ysort, ymany, yuse, ytypeOf, yleast, ygreatest, ylisted, ytypeOfName, yused, yvalued, ygiven, yname, yparent, ychildren, ycount, yrow, yvalue, yattributes, yends, ylack, yshortest, youtKind, youtWith, ywork, yworkWith, yweight, yfollow, yfirsts, ylasts, ybare, ymet, ynameAt, ytokenAt, ytodo) (nI b) (nI a) (nI n) (nI lo) (nI hi) := by
  obtain ⟨lk, hlk⟩ := ed_lk hR (by omega)
  refine nm_r (nI_1 b) (nm_e ⟨hi + 1 + 1, ?_⟩)
  refine sy_wT (w := w) (lk := lk) (L := L) hb ha hn hlh hhi hs (by omega) (fun m hm => ⟨(hlk m hm).1, (hlk m hm).2.1⟩) (fun m hm => (hR m hm).1) (fun S f q1 q2 q3 q4 q5 => ?_) (hi + 1) 0 100000 0 _ 0 (by omega) (fun _ m => ?_) (fun m => ?_) (Or.inl rfl) (fun q => ?_) (fun i m q => by omega) (Nat.le_refl _)
  · obtain ⟨r1, r2⟩ := dp_tms (B := B) (S := fun m => bt S m = true) (lk := lk) (s := s) hlh ha (by omega) (fun m hm => (hlk m hm).2.2) hsl hsB (fun m hm => ⟨fun q => ((q1 m).mp q).2, fun q => (q1 m).mpr ⟨hm, q⟩⟩) q2 q3 q4 q5
    refine br_t (nI_le (b := 100000) q5 (by omega)) (sy_keep (by omega) (by omega) (h S f (fun m => ⟨fun q => ⟨((q1 m).mp q).1, (r1 m ((q1 m).mp q).1).mp q⟩, fun q => (r1 m q.1).mpr q.2⟩) r2))
  · rw [bb_sI (by omega)]
    constructor
    · intro q; rw [q]; exact ⟨ha, rfl⟩
    · rintro ⟨_, q⟩; exact (show a = m from q).symm
  · rw [b_0]
    exact ⟨fun q => absurd q Bool.false_ne_true, fun ⟨_, i, q, _⟩ => by omega⟩
  · rw [b_0] at q; cases q
/-- the head of look -/
theorem sy_look0 {post : SY → Prop} {t b a n kk : Nat} (ht : t < 6) (hb : b < 16) (hk : ykind (16 * t + b) = nI kk) (h : ∀ (x4 x5 x6 : Int32), x4 = nI kk → x5 = ywith (16 * t + b) → x6 = nI (32 * (b + 1)) → ((x4 < 0 → wY_look_266 post (nI b) (nI a) x4 yplace yroot yrowLength (nI (16 * t)) youts ytop ykind ywith ysize ysort ymany yuse ytypeOf yleast ygreatest ylisted ytypeOfName yused yvalued ygiven yname yparent ychildren ycount yrow yvalue yattributes yends ylack yshortest youtKind youtWith ywork yworkWith yweight yfollow yfirsts ylasts ybare ymet ynameAt ytokenAt ytodo) ∧ (¬ x4 < 0 → ((8 < x4 → wY_look_266 post (nI b) (nI a) x4 yplace yroot yrowLength (nI (16 * t)) youts ytop ykind ywith ysize ysort ymany yuse ytypeOf yleast ygreatest ylisted ytypeOfName yused yvalued ygiven yname yparent ychildren ycount yrow yvalue yattributes yends ylack yshortest youtKind youtWith ywork yworkWith yweight yfollow yfirsts ylasts ybare ymet ynameAt ytokenAt ytodo) ∧ (¬ 8 < x4 → ((x4 = 0 → ((nI n ≤ nI a → wY_look_108 post (nI b) (nI a) (nI n) yplace yroot yrowLength (nI (16 * t)) youts ytop ykind ywith ysize ysort ymany yuse ytypeOf yleast ygreatest ylisted ytypeOfName yused yvalued ygiven yname yparent ychildren ycount yrow yvalue yattributes yends ylack yshortest youtKind youtWith ywork yworkWith yweight yfollow yfirsts ylasts ybare ymet ynameAt ytokenAt ytodo) ∧ (¬ nI n ≤ nI a → (vp_in (nI a) 32 ∧ ((yrow (nI a).toNatClampNeg = x5 → wY_look_109 post (nI b) (nI a) (nI n) 1 yplace yroot yrowLength (nI (16 * t)) youts ytop ykind ywith ysize ysort ymany yuse ytypeOf yleast ygreatest ylisted ytypeOfName yused yvalued ygiven yname yparent ychildren ycount yrow yvalue yattributes yends ylack yshortest youtKind youtWith ywork yworkWith yweight yfollow yfirsts ylasts ybare ymet ynameAt ytokenAt ytodo) ∧ (¬ yrow (nI a).toNatClampNeg = x5 → wY_look_108 post (nI b) (nI a) (nI n) yplace yroot yrowLength (nI (16 * t)) youts ytop ykind ywith ysize ysort ymany yuse ytypeOf yleast ygreatest ylisted ytypeOfName yused yvalued ygiven yname yparent ychildren ycount yrow yvalue yattributes yends ylack yshortest youtKind youtWith ywork yworkWith yweight yfollow yfirsts ylasts ybare ymet ynameAt ytokenAt ytodo)))))) ∧ (¬ x4 = 0 → ((x4 = 1 → wY_look_266 post (nI b) (nI a) x4 yplace yroot yrowLength (nI (16 * t)) youts ytop ykind ywith ysize ysort ymany yuse ytypeOf yleast ygreatest ylisted ytypeOfName yused yvalued ygiven yname yparent ychildren ycount yrow yvalue yattributes yends ylack yshortest youtKind youtWith ywork yworkWith yweight yfollow yfirsts ylasts ybare ymet ynameAt ytokenAt ytodo) ∧ (¬ x4 = 1 → ((x4 = 2 → wY_look_266 post (nI b) (nI a) x4 yplace yroot yrowLength (nI (16 * t)) youts ytop ykind ywith ysize ysort ymany yuse ytypeOf yleast ygreatest ylisted ytypeOfName yused yvalued ygiven yname yparent ychildren ycount yrow yvalue yattributes yends ylack yshortest youtKind youtWith ywork yworkWith yweight yfollow yfirsts ylasts ybare ymet ynameAt ytokenAt ytodo) ∧ (¬ x4 = 2 → ((x4 = 3 → (vp_in (x6 + nI a) 512 ∧ ((nI a = nI n → wY_look_216 post 0 (yends (x6 + nI a).toNatClampNeg ||| ((1 : Int32) <<< (nI a &&& 31))) (nI a) (nI b) yplace yroot yrowLength (nI (16 * t)) youts ytop ykind ywith ysize ysort ymany yuse ytypeOf yleast ygreatest ylisted ytypeOfName yused yvalued ygiven yname yparent ychildren ycount yrow yvalue yattributes yends ylack yshortest youtKind youtWith ywork yworkWith yweight yfollow yfirsts ylasts ybare ymet ynameAt ytokenAt ytodo) ∧ (¬ nI a = nI n → (vp_in (x6 + nI a) 512 ∧ wY_look_216 post (ylack (x6 + nI a).toNatClampNeg) (yends (x6 + nI a).toNatClampNeg ||| ((1 : Int32) <<< (nI a &&& 31))) (nI a) (nI b) yplace yroot yrowLength (nI (16 * t)) youts ytop ykind ywith ysize ysort ymany yuse ytypeOf yleast ygreatest ylisted ytypeOfName yused yvalued ygiven yname yparent ychildren ycount yrow yvalue yattributes yends ylack yshortest youtKind youtWith ywork yworkWith yweight yfollow yfirsts ylasts ybare ymet ynameAt ytokenAt ytodo))))) ∧ (¬ x4 = 3 → ((x4 = 4 → wpY_words post (yplace, yroot, yrowLength, nI (16 * t), youts, ytop, ykind, ywith, ysize, ysort, ymany, yuse, ytypeOf, yleast, ygreatest, ylisted, ytypeOfName, yused, yvalued, ygiven, yname, yparent, ychildren, ycount, yrow, yvalue, yattributes, yends, ylack, yshortest, youtKind, youtWith, ywork, yworkWith, yweight, yfollow, yfirsts, ylasts, ybare, ymet, ynameAt, ytokenAt, ytodo) (nI b) (nI a) (nI n) 0 100) ∧ (¬ x4 = 4 → ((x4 = 5 → wpY_words post (yplace, yroot, yrowLength, nI (16 * t), youts, ytop, ykind, ywith, ysize, ysort, ymany, yuse, ytypeOf, yleast, ygreatest, ylisted, ytypeOfName, yused, yvalued, ygiven, yname, yparent, ychildren, ycount, yrow, yvalue, yattributes, yends, ylack, yshortest, youtKind, youtWith, ywork, yworkWith, yweight, yfollow, yfirsts, ylasts, ybare, ymet, ynameAt, ytokenAt, ytodo) (nI b) (nI a) (nI n) 1 100) ∧ (¬ x4 = 5 → ((x4 = 6 → ((nI a = nI n → wY_look_176 post 0 ((1 : Int32) <<< (nI a &&& 31)) (nI a) (nI b) yplace yroot yrowLength (nI (16 * t)) youts ytop ykind ywith ysize ysort ymany yuse ytypeOf yleast ygreatest ylisted ytypeOfName yused yvalued ygiven yname yparent ychildren ycount yrow yvalue yattributes yends ylack yshortest youtKind youtWith ywork yworkWith yweight yfollow yfirsts ylasts ybare ymet ynameAt ytokenAt ytodo) ∧ (¬ nI a = nI n → wY_look_176 post 100000 ((1 : Int32) <<< (nI a &&& 31)) (nI a) (nI b) yplace yroot yrowLength (nI (16 * t)) youts ytop ykind ywith ysize ysort ymany yuse ytypeOf yleast ygreatest ylisted ytypeOfName yused yvalued ygiven yname yparent ychildren ycount yrow yvalue yattributes yends ylack yshortest youtKind youtWith ywork yworkWith yweight yfollow yfirsts ylasts ybare ymet ynameAt ytokenAt ytodo))) ∧ (¬ x4 = 6 → ((x4 = 7 → wY_look_266 post (nI b) (nI a) x4 yplace yroot yrowLength (nI (16 * t)) youts ytop ykind ywith ysize ysort ymany yuse ytypeOf yleast ygreatest ylisted ytypeOfName yused yvalued ygiven yname yparent ychildren ycount yrow yvalue yattributes yends ylack yshortest youtKind youtWith ywork yworkWith yweight yfollow yfirsts ylasts ybare ymet ynameAt ytokenAt ytodo) ∧ (¬ x4 = 7 → ((x4 = 8 → wpY_words post (yplace, yroot, yrowLength, nI (16 * t), youts, ytop, ykind, ywith, ysize, ysort, ymany, yuse, ytypeOf, yleast, ygreatest, ylisted, ytypeOfName, yused, yvalued, ygiven, yname, yparent, ychildren, ycount, yrow, yvalue, yattributes, yends, ylack, yshortest, youtKind, youtWith, ywork, yworkWith, yweight, yfollow, yfirsts, ylasts, ybare, ymet, ynameAt, ytokenAt, ytodo) (nI b) (nI a) (nI n) (x5 >>> ((2 : Int32) &&& 31)) (x5 &&& 3)) ∧ (¬ x4 = 8 → True))))))))))))))))))))))) : wpY_look post (yplace, yroot, yrowLength, nI (16 * t), youts, ytop, ykind, ywith, ysize, ysort, ymany, yuse, ytypeOf, yleast, ygreatest, ylisted, ytypeOfName, yused, yvalued, ygiven, yname, yparent, ychildren, ycount, yrow, yvalue, yattributes, yends, ylack, yshortest, youtKind, youtWith, ywork, yworkWith, yweight, yfollow, yfirsts, ylasts, ybare, ymet, ynameAt, ytokenAt, ytodo) (nI b) (nI a) (nI n) := by
  unfold wpY_look
  dsimp only
  rw [nI_add, nb_cl (n := 16 * t + b) (by omega), hk]
  have e6 : 32 * (nI b + 1) = nI (32 * (b + 1)) := by rw [nI_1]; exact pk_mul 32 (b + 1)
  refine ⟨vp_in_nI (by omega) (by omega), nm_e ⟨vp_in_nI (by omega) (by omega), nm_e (nm_r e6 ?_)⟩⟩
  exact h _ _ _ rfl rfl rfl
/-- NAME -/
theorem sy_lookV {post : SY → Prop} {t b a n : Nat} {w vl : Nat → Nat} (ht : t < 6) (hb : b < 16) (ha : a ≤ n) (hn : n ≤ 24) (hrow : ∀ i, i < n → yrow i = nI (w i) ∧ w i < 6) (hk : ykind (16 * t + b) = nI 0) (hv : vl b < 6) (hw : ywith (16 * t + b) = nI (vl b))
    (h : ∀ (E : Int32) (x : Nat), (∀ m, bt E m = true ↔ m ≤ n ∧ dp_E (ex_L vl (.var b)) w a m) → dp_M 1 (dp_K (ex_L vl (.var b)) w n a) x → post (yplace, yroot, yrowLength, nI (16 * t), youts, ytop, ykind, ywith, ysize, ysort, ymany, yuse, ytypeOf, yleast, ygreatest, ylisted, ytypeOfName, yused, yvalued, ygiven, yname, yparent, ychildren, ycount, yrow, yvalue, yattributes, upd yends (32 * b + a) E, upd ylack (32 * b + a) (nI x), yshortest, youtKind, youtWith, ywork, yworkWith, yweight, yfollow, yfirsts, ylasts, ybare, ymet, ynameAt, ytokenAt, ytodo)) : wpY_look post (yplace, yroot, yrowLength, nI (16 * t), youts, ytop, ykind, ywith, ysize, ysort, ymany, yuse, ytypeOf, yleast, ygreatest, ylisted, ytypeOfName, yused, yvalued, ygiven, yname, yparent, ychildren, ycount, yrow, yvalue, yattributes, yends, ylack, yshortest, youtKind, youtWith, ywork, yworkWith, yweight, yfollow, yfirsts, ylasts, ybare, ymet, ynameAt, ytokenAt, ytodo) (nI b) (nI a) (nI n) := by
  have hM := dp_var_M (f := vl) (w := w) (i := b) ha
  refine sy_look0 ht hb hk (fun x4 x5 x6 e4 e5 e6 => ?_)
  subst e4
  refine br_f (by decide) (br_f (by decide) (br_t rfl ?_))
  have hz : ∀ m, ¬ (m ≤ n ∧ dp_E (ex_L vl (.var b)) w a m) → (bt 0 m = true ↔ m ≤ n ∧ dp_E (ex_L vl (.var b)) w a m) := fun m q => by rw [b_0]; exact ⟨fun q2 => absurd q2 Bool.false_ne_true, fun q2 => absurd q2 q⟩
  by_cases an : a = n
  · rw [if_pos an] at hM
    refine br_t (nI_le (by omega) (by omega)) (br_t rfl (br_t (by rw [an]) (sy_keep hb (by omega) (h 0 1 (fun m => hz m ?_) hM))))
    rintro ⟨q1, q2⟩
    have := (dp_var_E.mp q2).1
    omega
  · have ne : ¬ nI a = nI n := fun q => an ((nI_eq (by omega) (by omega)).mp q)
    obtain ⟨r1, r2⟩ := hrow a (by omega)
    rw [if_neg an] at hM
    refine br_f (nI_ge (by omega) (by omega)) ⟨vp_in_nI (by omega) (by omega), ?_⟩
    rw [nb_cl (n := a) (by omega), r1, e5, hw]
    refine pk_eq (w a) (vl b) (fun q => ?_) (fun q => ?_)
    · have hbits : ∀ m, bt ((2 : Int32) <<< (nI a &&& 31)) m = true ↔ m ≤ n ∧ dp_E (ex_L vl (.var b)) w a m := by
        intro m
        rw [bb_s2 (by omega), decide_eq_true_iff, dp_var_E]
        constructor
        · intro q2; exact ⟨by omega, q2, q⟩
        · rintro ⟨_, q2, _⟩; exact q2
      refine br_f nb_10 (br_f ne (br_f nb_10 ?_))
      rw [nI_1]
      by_cases a1 : a + 1 = n
      · rw [if_pos ⟨q, a1⟩] at hM
        exact br_t (by rw [a1]) (sy_keep hb (by omega) (h _ 0 hbits hM))
      · rw [if_neg (fun q2 => a1 q2.2)] at hM
        exact br_f (fun q2 => a1 ((nI_eq (by omega) (by omega)).mp q2)) (sy_keep hb (by omega) (h _ 100000 hbits hM))
    · rw [if_neg (fun q2 => q q2.1)] at hM
      refine br_t rfl (br_f ne (br_t rfl (sy_keep hb (by omega) (h 0 100000 (fun m => hz m ?_) hM))))
      rintro ⟨_, q2⟩
      exact q (dp_var_E.mp q2).2
/-- NOTHING -/
theorem sy_lookN {post : SY → Prop} {t b a n : Nat} {w : Nat → Nat} (ht : t < 6) (hb : b < 16) (ha : a ≤ n) (hn : n ≤ 24) (hk : ykind (16 * t + b) = nI 6)
    (h : ∀ (E : Int32) (x : Nat), (∀ m, bt E m = true ↔ m ≤ n ∧ dp_E (fun u => u = []) w a m) → dp_M 0 (dp_K (fun u => u = []) w n a) x → post (yplace, yroot, yrowLength, nI (16 * t), youts, ytop, ykind, ywith, ysize, ysort, ymany, yuse, ytypeOf, yleast, ygreatest, ylisted, ytypeOfName, yused, yvalued, ygiven, yname, yparent, ychildren, ycount, yrow, yvalue, yattributes, upd yends (32 * b + a) E, upd ylack (32 * b + a) (nI x), yshortest, youtKind, youtWith, ywork, yworkWith, yweight, yfollow, yfirsts, ylasts, ybare, ymet, ynameAt, ytokenAt, ytodo)) : wpY_look post (yplace, yroot, yrowLength, nI (16 * t), youts, ytop, ykind, ywith, ysize, ysort, ymany, yuse, ytypeOf, yleast, ygreatest, ylisted, ytypeOfName, yused, yvalued, ygiven, yname, yparent, ychildren, ycount, yrow, yvalue, yattributes, yends, ylack, yshortest, youtKind, youtWith, ywork, yworkWith, yweight, yfollow, yfirsts, ylasts, ybare, ymet, ynameAt, ytokenAt, ytodo) (nI b) (nI a) (nI n) := by
  have hM := dp_eps_M (w := w) ha
  have hbits : ∀ m, bt ((1 : Int32) <<< (nI a &&& 31)) m = true ↔ m ≤ n ∧ dp_E (fun u => u = []) w a m := by
    intro m
    rw [bb_sI (by omega), dp_eps_E]
    exact ⟨fun q => ⟨by omega, q⟩, fun q => q.2⟩
  refine sy_look0 ht hb hk (fun x4 x5 x6 e4 e5 e6 => ?_)
  subst e4
  refine br_f (by decide) (br_f (by decide) (br_f (by decide) (br_f (by decide) (br_f (by decide) (br_f (by decide) (br_f (by decide) (br_f (by decide) (br_t rfl ?_))))))))
  by_cases an : a = n
  · rw [if_pos an] at hM
    exact br_t (by rw [an]) (sy_keep hb (by omega) (h _ 0 hbits hM))
  · rw [if_neg an] at hM
    exact br_f (fun q => an ((nI_eq (by omega) (by omega)).mp q)) (sy_keep hb (by omega) (h _ 100000 hbits hM))
/-- OPTION -/
theorem sy_lookO {post : SY → Prop} {t b a n B : Nat} {w : Nat → Nat} {L : List Nat → Prop} (ht : t < 6) (hb : b + 1 < 16) (ha : a ≤ n) (hn : n ≤ 24) (hk : ykind (16 * t + b) = nI 3) (hR : ed_R L B w n (b + 1) yends ylack)
    (h : ∀ (E : Int32) (x : Nat), (∀ m, bt E m = true ↔ m ≤ n ∧ dp_E (fun u => u = [] ∨ L u) w a m) → dp_M B (dp_K (fun u => u = [] ∨ L u) w n a) x → post (yplace, yroot, yrowLength, nI (16 * t), youts, ytop, ykind, ywith, ysize, ysort, ymany, yuse, ytypeOf, yleast, ygreatest, ylisted, ytypeOfName, yused, yvalued, ygiven, yname, yparent, ychildren, ycount, yrow, yvalue, yattributes, upd yends (32 * b + a) E, upd ylack (32 * b + a) (nI x), yshortest, youtKind, youtWith, ywork, yworkWith, yweight, yfollow, yfirsts, ylasts, ybare, ymet, ynameAt, ytokenAt, ytodo)) : wpY_look post (yplace, yroot, yrowLength, nI (16 * t), youts, ytop, ykind, ywith, ysize, ysort, ymany, yuse, ytypeOf, yleast, ygreatest, ylisted, ytypeOfName, yused, yvalued, ygiven, yname, yparent, ychildren, ycount, yrow, yvalue, yattributes, yends, ylack, yshortest, youtKind, youtWith, ywork, yworkWith, yweight, yfollow, yfirsts, ylasts, ybare, ymet, ynameAt, ytokenAt, ytodo) (nI b) (nI a) (nI n) := by
  obtain ⟨hb1, x, hx, hxM⟩ := hR a ha
  have hM := dp_opt_M ha hxM
  have hbits : ∀ m, bt (yends (32 * (b + 1) + a) ||| ((1 : Int32) <<< (nI a &&& 31))) m = true ↔ m ≤ n ∧ dp_E (fun u => u = [] ∨ L u) w a m := by
    intro m
    rw [bb_orI, bb_sI (by omega), hb1 m, dp_opt_E]
    constructor
    · rintro (⟨q1, q2⟩ | q)
      · exact ⟨q1, Or.inr q2⟩
      · exact ⟨by omega, Or.inl q⟩
    · rintro ⟨q1, q | q⟩
      · exact Or.inr q
      · exact Or.inl ⟨q1, q⟩
  refine sy_look0 ht (by omega) hk (fun x4 x5 x6 e4 e5 e6 => ?_)
  subst e4 e6
  refine br_f (by decide) (br_f (by decide) (br_f (by decide) (br_f (by decide) (br_f (by decide) (br_t rfl ?_)))))
  rw [nI_add, nb_cl (n := 32 * (b + 1) + a) (by omega), hx]
  have vi : vp_in (nI (32 * (b + 1) + a)) 512 := vp_in_nI (by omega) (by omega)
  refine ⟨vi, ?_⟩
  by_cases an : a = n
  · rw [if_pos an] at hM
    exact br_t (by rw [an]) (sy_keep (by omega) (by omega) (h _ 0 hbits hM))
  · rw [if_neg an] at hM
    exact br_f (fun q => an ((nI_eq (by omega) (by omega)).mp q)) ⟨vi, sy_keep (by omega) (by omega) (h _ x hbits hM)⟩
end
end
section
/-! ===== examine ===== -/
section
variable {yplace yroot yrowLength yfirst youts ytop : Int32} {ykind ywith ysize ysort ymany yuse ytypeOf yleast ygreatest ylisted ytypeOfName yused yvalued ygiven yname yparent ychildren ycount yrow yvalue yattributes yends ylack yshortest youtKind youtWith ywork yworkWith yweight yfollow yfirsts ylasts ybare ymet ynameAt ytokenAt ytodo : Nat → Int32}
/-- STAR, PLUS, TIMES -/
theorem sy_lookW {post : SY → Prop} {t b a n k : Nat} {w vl : Nat → Nat} {R : ex_T} (ht : t < 6) (hb : b + 1 < 16) (ha : a ≤ n) (hn : n ≤ 24) (hW : ex_W (.pow R k)) (hw30 : ex_w (.pow R k) ≤ 30) (hk : (k < 16 ∧ ykind (16 * t + b) = nI 8 ∧ ywith (16 * t + b) = nI k) ∨ (k = 16 ∧ ykind (16 * t + b) = nI 4) ∨ (k = 17 ∧ ykind (16 * t + b) = nI 5)) (hP : ed_P w n vl R (b + 1) yshortest yends ylack)
    (h : ∀ (E : Int32) (x : Nat), (∀ m, bt E m = true ↔ m ≤ n ∧ dp_E (ex_L vl (.pow R k)) w a m) → dp_M (ex_w (.pow R k)) (dp_K (ex_L vl (.pow R k)) w n a) x → post (yplace, yroot, yrowLength, nI (16 * t), youts, ytop, ykind, ywith, ysize, ysort, ymany, yuse, ytypeOf, yleast, ygreatest, ylisted, ytypeOfName, yused, yvalued, ygiven, yname, yparent, ychildren, ycount, yrow, yvalue, yattributes, upd yends (32 * b + a) E, upd ylack (32 * b + a) (nI x), yshortest, youtKind, youtWith, ywork, yworkWith, yweight, yfollow, yfirsts, ylasts, ybare, ymet, ynameAt, ytokenAt, ytodo)) : wpY_look post (yplace, yroot, yrowLength, nI (16 * t), youts, ytop, ykind, ywith, ysize, ysort, ymany, yuse, ytypeOf, yleast, ygreatest, ylisted, ytypeOfName, yused, yvalued, ygiven, yname, yparent, ychildren, ycount, yrow, yvalue, yattributes, yends, ylack, yshortest, youtKind, youtWith, ywork, yworkWith, yweight, yfollow, yfirsts, ylasts, ybare, ymet, ynameAt, ytokenAt, ytodo) (nI b) (nI a) (nI n) := by
  obtain ⟨hsh, hR⟩ := hP
  obtain ⟨hs1, hs2⟩ := ex_sh_s vl R hW.1
  have hm1 := ex_m_pos hW.2.2
  have hw : ex_w (.pow R k) = ex_m k * ex_w R := rfl
  have hwR : ex_w R ≤ 30 := by
    have : 1 * ex_w R ≤ ex_m k * ex_w R := Nat.mul_le_mul_right _ hm1
    omega
  rcases hk with ⟨k16, hk, hwi⟩ | ⟨rfl, hk⟩ | ⟨rfl, hk⟩
  · have hv := hW.2.2 k16
    have em : ex_m k = k % 4 := if_pos k16
    rw [em] at hw
    have cg : ∀ u, (∃ j, k / 4 ≤ j ∧ j ≤ k % 4 ∧ ex_pw (ex_L vl R) j u) ↔ ex_L vl (.pow R k) u := by
      intro u
      constructor
      · rintro ⟨j, h1, h2, h3⟩; exact ⟨j, by unfold ex_lo; rw [if_pos k16]; exact h1, fun _ => h2, h3⟩
      · rintro ⟨j, h1, h2, h3⟩
        unfold ex_lo at h1
        rw [if_pos k16] at h1
        exact ⟨j, h1, h2 k16, h3⟩
    refine sy_look0 ht (by omega) hk (fun x4 x5 x6 e4 e5 e6 => ?_)
    subst e4
    refine br_f (by decide) (br_f (by decide) (br_f (by decide) (br_f (by decide) (br_f (by decide) (br_f (by decide) (br_f (by decide) (br_f (by decide) (br_f (by decide) (br_f (by decide) (br_t rfl ?_))))))))))
    rw [e5, hwi, tk_sh (by omega), tk_an (by omega)]
    refine sy_wordsT (L := ex_L vl R) (B := ex_w R) (w := w) hb ha hn (by omega) (by omega) (by omega) hwR hsh hs1 hs2 hR (fun E x hE hM => h E x (fun m => ?_) ?_)
    · rw [hE m, dp_E_congr cg]
    · exact dp_M_cg hM (by omega) (fun d => dp_K_congr cg w n a d)
  · have cg : ∀ u, (∃ j, 0 ≤ j ∧ ex_pw (ex_L vl R) j u) ↔ ex_L vl (.pow R 16) u := by
      intro u
      constructor
      · rintro ⟨j, h1, h3⟩; exact ⟨j, Nat.zero_le _, fun q => absurd q (by omega), h3⟩
      · rintro ⟨j, h1, h2, h3⟩; exact ⟨j, Nat.zero_le _, h3⟩
    refine sy_look0 ht (by omega) hk (fun x4 x5 x6 e4 e5 e6 => ?_)
    subst e4
    refine br_f (by decide) (br_f (by decide) (br_f (by decide) (br_f (by decide) (br_f (by decide) (br_f (by decide) (br_t rfl ?_))))))
    refine sy_wordsR (lo := 0) (L := ex_L vl R) (B := ex_w R) (w := w) hb ha hn (by omega) hwR hsh (by omega) hR (fun E x hE hM => h E x (fun m => ?_) ?_)
    · rw [hE m, dp_E_congr cg]
    · exact dp_M_cg hM (by rw [hw, show ex_m 16 = 1 from rfl]; omega) (fun d => dp_K_congr cg w n a d)
  · have cg : ∀ u, (∃ j, 1 ≤ j ∧ ex_pw (ex_L vl R) j u) ↔ ex_L vl (.pow R 17) u := by
      intro u
      constructor
      · rintro ⟨j, h1, h3⟩; exact ⟨j, h1, fun q => absurd q (by omega), h3⟩
      · rintro ⟨j, h1, h2, h3⟩; exact ⟨j, h1, h3⟩
    refine sy_look0 ht (by omega) hk (fun x4 x5 x6 e4 e5 e6 => ?_)
    subst e4
    refine br_f (by decide) (br_f (by decide) (br_f (by decide) (br_f (by decide) (br_f (by decide) (br_f (by decide) (br_f (by decide) (br_t rfl ?_)))))))
    refine sy_wordsR (lo := 1) (L := ex_L vl R) (B := ex_w R) (w := w) hb ha hn (by omega) hwR hsh (by omega) hR (fun E x hE hM => h E x (fun m => ?_) ?_)
    · rw [hE m, dp_E_congr cg]
    · exact dp_M_cg hM (by rw [hw, show ex_m 17 = 1 from rfl]; omega) (fun d => dp_K_congr cg w n a d)
/-- one after the other -/
theorem sy_seq {x y a n s p q : Nat} {w : Nat → Nat} {A B : List Nat → Prop} (hx : x < 16) (hy : y < 16) (ha : a ≤ n) (hn : n ≤ 24) (hp : p ≤ 30) (hq : q ≤ 30) (hA : ed_R A p w n x yends ylack) (hB : ed_R B q w n y yends ylack) (hsy : yshortest y = nI s) (hs : dp_s B s) (hsq : s ≤ q) :
    (∀ post : Int32 → Prop, (∀ r : Int32, (∀ m, bt r m = true ↔ m ≤ n ∧ dp_E (ex_cat A B) w a m) → post r) → wpY_after post (yplace, yroot, yrowLength, yfirst, youts, ytop, ykind, ywith, ysize, ysort, ymany, yuse, ytypeOf, yleast, ygreatest, ylisted, ytypeOfName, yused, yvalued, ygiven, yname, yparent, ychildren, ycount, yrow, yvalue, yattributes, yends, ylack, yshortest, youtKind, youtWith, ywork, yworkWith, yweight, yfollow, yfirsts, ylasts, ybare, ymet, ynameAt, ytokenAt, ytodo) (nI x) (nI y) (nI a)) ∧ ∀ post : Int32 → Prop, (∀ f, dp_M (p + q) (dp_K (ex_cat A B) w n a) f → f ≤ 100000 → post (nI f)) → wpY_lackOf post (yplace, yroot, yrowLength, yfirst, youts, ytop, ykind, ywith, ysize, ysort, ymany, yuse, ytypeOf, yleast, ygreatest, ylisted, ytypeOfName, yused, yvalued, ygiven, yname, yparent, ychildren, ycount, yrow, yvalue, yattributes, yends, ylack, yshortest, youtKind, youtWith, ywork, yworkWith, yweight, yfollow, yfirsts, ylasts, ybare, ymet, ynameAt, ytokenAt, ytodo) (nI x) (nI y) (nI a) := by
  obtain ⟨bA, xa, hxa, hMa⟩ := hA a ha
  have hxa1 : xa ≤ 100000 := by rcases hMa with ⟨_, r, _⟩ | ⟨r, _⟩ <;> omega
  obtain ⟨lk, hlk⟩ := ed_lk hB (by omega)
  constructor
  · intro post h
    refine sy_after hx hy (by omega) (fun r hr => h r (fun k => ?_))
    rw [hr k, dp_E_cat]
    constructor
    · rintro ⟨m, m1, m2, m3, m4⟩
      obtain ⟨e1, e2⟩ := (bA m).mp m3
      obtain ⟨e3, e4⟩ := ((hB m e1).1 k).mp m4
      exact ⟨e3, m, e2, e4⟩
    · rintro ⟨k1, m, e2, e4⟩
      have := e4.1
      exact ⟨m, e2.1, by omega, (bA m).mpr ⟨by omega, e2⟩, ((hB m (by omega)).1 k).mpr ⟨k1, e4⟩⟩
  · intro post h
    refine sy_lackOf (p := xa) (lk := lk) hx hy (by omega) hxa hxa1 hsy (by omega) (fun m hm hb => ?_) (fun f f1 f2 f3 f4 => h f ?_ f1)
    · have := ((bA m).mp hb).1
      exact ⟨(hlk m this).1, (hlk m this).2.1⟩
    · refine dp_cat_M (y := lk) ha hMa (fun k hk => (hlk k hk).2.2) hs hsq (by omega) ?_ f1 f2 (fun k hk hE => f3 k hE.1 (by omega) ((bA k).mpr ⟨hk, hE⟩))
      rcases f4 with r | r | ⟨m, m1, m2, m3, m4⟩
      · exact Or.inl r
      · exact Or.inr (Or.inl r)
      · obtain ⟨e1, e2⟩ := (bA m).mp m3
        exact Or.inr (Or.inr ⟨m, e1, e2, m4⟩)
/-- SEQ, CHOICE, BOTH -/
theorem sy_two {post : SY → Prop} {t b a n N kk : Nat} {w kd vl : Nat → Nat} {P Q : ex_T} (ht : t < 6) (hN : N ≤ 16) (hK : rl_K ykind ywith (16 * t) N kd vl) (hSP : ex_S kd vl P (b + 1)) (hbN : b + 1 + ex_n P + ex_n Q ≤ N) (ha : a ≤ n) (hn : n ≤ 24) (hWP : ex_W P) (hWQ : ex_W Q) (hwP : ex_w P ≤ 30) (hwQ : ex_w Q ≤ 30) (h1 : ed_P w n vl P (b + 1) yshortest yends ylack) (h2 : ed_P w n vl Q (b + 1 + ex_n P) yshortest yends ylack)
    (g2 : kk = 2 → ∀ (E : Int32) (x : Nat), (∀ m, bt E m = true ↔ m ≤ n ∧ dp_E (ex_L vl (.add P Q)) w a m) → dp_M (ex_w P + ex_w Q) (dp_K (ex_L vl (.add P Q)) w n a) x → post (yplace, yroot, yrowLength, nI (16 * t), youts, ytop, ykind, ywith, ysize, ysort, ymany, yuse, ytypeOf, yleast, ygreatest, ylisted, ytypeOfName, yused, yvalued, ygiven, yname, yparent, ychildren, ycount, yrow, yvalue, yattributes, upd yends (32 * b + a) E, upd ylack (32 * b + a) (nI x), yshortest, youtKind, youtWith, ywork, yworkWith, yweight, yfollow, yfirsts, ylasts, ybare, ymet, ynameAt, ytokenAt, ytodo))
    (g1 : kk = 1 → ∀ (E : Int32) (x : Nat), (∀ m, bt E m = true ↔ m ≤ n ∧ dp_E (ex_L vl (.mul P Q)) w a m) → dp_M (ex_w P + ex_w Q) (dp_K (ex_L vl (.mul P Q)) w n a) x → post (yplace, yroot, yrowLength, nI (16 * t), youts, ytop, ykind, ywith, ysize, ysort, ymany, yuse, ytypeOf, yleast, ygreatest, ylisted, ytypeOfName, yused, yvalued, ygiven, yname, yparent, ychildren, ycount, yrow, yvalue, yattributes, upd yends (32 * b + a) E, upd ylack (32 * b + a) (nI x), yshortest, youtKind, youtWith, ywork, yworkWith, yweight, yfollow, yfirsts, ylasts, ybare, ymet, ynameAt, ytokenAt, ytodo))
    (g7 : kk = 7 → ∀ (E : Int32) (x : Nat), (∀ m, bt E m = true ↔ m ≤ n ∧ dp_E (ex_L vl (.sub P Q)) w a m) → dp_M (ex_w P + ex_w Q) (dp_K (ex_L vl (.sub P Q)) w n a) x → post (yplace, yroot, yrowLength, nI (16 * t), youts, ytop, ykind, ywith, ysize, ysort, ymany, yuse, ytypeOf, yleast, ygreatest, ylisted, ytypeOfName, yused, yvalued, ygiven, yname, yparent, ychildren, ycount, yrow, yvalue, yattributes, upd yends (32 * b + a) E, upd ylack (32 * b + a) (nI x), yshortest, youtKind, youtWith, ywork, yworkWith, yweight, yfollow, yfirsts, ylasts, ybare, ymet, ynameAt, ytokenAt, ytodo))
    (hkk : kk = 1 ∨ kk = 2 ∨ kk = 7) : wpY_two post (yplace, yroot, yrowLength, nI (16 * t), youts, ytop, ykind, ywith, ysize, ysort, ymany, yuse, ytypeOf, yleast, ygreatest, ylisted, ytypeOfName, yused, yvalued, ygiven, yname, yparent, ychildren, ycount, yrow, yvalue, yattributes, yends, ylack, yshortest, youtKind, youtWith, ywork, yworkWith, yweight, yfollow, yfirsts, ylasts, ybare, ymet, ynameAt, ytokenAt, ytodo) (nI b) (nI a) (nI kk) := by
  obtain ⟨s1, r1⟩ := h1
  obtain ⟨s2, r2⟩ := h2
  have pP := ex_n_pos P
  have pQ := ex_n_pos Q
  obtain ⟨hsP, hsPw⟩ := ex_sh_s vl P hWP
  obtain ⟨hsQ, hsQw⟩ := ex_sh_s vl Q hWQ
  obtain ⟨bP, xP, eP, mP⟩ := r1 a ha
  obtain ⟨bQ, xQ, eQ, mQ⟩ := r2 a ha
  have xP1 : xP ≤ 100000 := by rcases mP with ⟨_, r, _⟩ | ⟨r, _⟩ <;> omega
  have xQ1 : xQ ≤ 100000 := by rcases mQ with ⟨_, r, _⟩ | ⟨r, _⟩ <;> omega
  have A1 := sy_seq (yfirst := nI (16 * t)) (yplace := yplace) (yroot := yroot) (yrowLength := yrowLength) (youts := youts) (ytop := ytop) (ykind := ykind) (ywith := ywith) (ysize := ysize) (ysort := ysort) (ymany := ymany) (yuse := yuse) (ytypeOf := ytypeOf) (yleast := yleast) (ygreatest := ygreatest) (ylisted := ylisted) (ytypeOfName := ytypeOfName) (yused := yused) (yvalued := yvalued) (ygiven := ygiven) (yname := yname) (yparent := yparent) (ychildren := ychildren) (ycount := ycount) (yrow := yrow) (yvalue := yvalue) (yattributes := yattributes) (youtKind := youtKind) (youtWith := youtWith) (ywork := ywork) (yworkWith := yworkWith) (yweight := yweight) (yfollow := yfollow) (yfirsts := yfirsts) (ylasts := ylasts) (ybare := ybare) (ymet := ymet) (ynameAt := ynameAt) (ytokenAt := ytokenAt) (ytodo := ytodo) (by omega : b + 1 < 16) (by omega : b + 1 + ex_n P < 16) ha hn hwP hwQ r1 r2 s2 hsQ hsQw
  have A2 := sy_seq (yfirst := nI (16 * t)) (yplace := yplace) (yroot := yroot) (yrowLength := yrowLength) (youts := youts) (ytop := ytop) (ykind := ykind) (ywith := ywith) (ysize := ysize) (ysort := ysort) (ymany := ymany) (yuse := yuse) (ytypeOf := ytypeOf) (yleast := yleast) (ygreatest := ygreatest) (ylisted := ylisted) (ytypeOfName := ytypeOfName) (yused := yused) (yvalued := yvalued) (ygiven := ygiven) (yname := yname) (yparent := yparent) (ychildren := ychildren) (ycount := ycount) (yrow := yrow) (yvalue := yvalue) (yattributes := yattributes) (youtKind := youtKind) (youtWith := youtWith) (ywork := ywork) (yworkWith := yworkWith) (yweight := yweight) (yfollow := yfollow) (yfirsts := yfirsts) (ylasts := ylasts) (ybare := ybare) (ymet := ymet) (ynameAt := ynameAt) (ytokenAt := ytokenAt) (ytodo := ytodo) (by omega : b + 1 + ex_n P < 16) (by omega : b + 1 < 16) ha hn hwQ hwP r2 r1 s1 hsP hsPw
  refine nm_r (nI_1 b) (sy_second ht hN hK hSP (by omega) ?_)
  rw [nb_32m, nb_32m, nb_cl (n := 32 * (b + 1) + a) (by omega), nb_cl (n := 32 * (b + 1 + ex_n P) + a) (by omega), eP, eQ]
  have v1 : vp_in (nI (32 * (b + 1) + a)) 512 := vp_in_nI (by omega) (by omega)
  have v2 : vp_in (nI (32 * (b + 1 + ex_n P) + a)) 512 := vp_in_nI (by omega) (by omega)
  refine ⟨v1, v2, nm_e ⟨v1, v2, sy_less (by omega) (by omega) ?_⟩⟩
  rcases hkk with rfl | rfl | rfl
  · refine br_f (by decide) (A1.1 _ (fun r hr => A1.2 _ (fun f hf _ => br_f (by decide) (sy_keep (by omega) (by omega) (g1 rfl r f hr hf)))))
  · refine br_t rfl (sy_keep (by omega) (by omega) (g2 rfl _ _ (fun m => ?_) ?_))
    · show _ ↔ m ≤ n ∧ dp_E (fun u => ex_L vl P u ∨ ex_L vl Q u) w a m
      rw [bb_orI, bP m, bQ m, dp_or_E]
      constructor
      · rintro (⟨q1, q2⟩ | ⟨q1, q2⟩)
        · exact ⟨q1, Or.inl q2⟩
        · exact ⟨q1, Or.inr q2⟩
      · rintro ⟨q1, q2 | q2⟩
        · exact Or.inl ⟨q1, q2⟩
        · exact Or.inr ⟨q1, q2⟩
    · exact dp_M_or mP mQ (by omega) (by omega) (by omega) (fun d => dp_or_K)
  · refine br_f (by decide) (A1.1 _ (fun r hr => A1.2 _ (fun f hf hf1 => br_t rfl (A2.1 _ (fun r' hr' => nm_e (A2.2 _ (fun f' hf' hf1' => sy_less (by omega) (by omega) (sy_keep (by omega) (by omega) (g7 rfl _ _ (fun m => ?_) ?_)))))))))
    · show _ ↔ m ≤ n ∧ dp_E (fun u => ex_cat (ex_L vl P) (ex_L vl Q) u ∨ ex_cat (ex_L vl Q) (ex_L vl P) u) w a m
      rw [bb_orI, hr m, hr' m, dp_or_E]
      constructor
      · rintro (⟨q1, q2⟩ | ⟨q1, q2⟩)
        · exact ⟨q1, Or.inl q2⟩
        · exact ⟨q1, Or.inr q2⟩
      · rintro ⟨q1, q2 | q2⟩
        · exact Or.inl ⟨q1, q2⟩
        · exact Or.inr ⟨q1, q2⟩
    · exact dp_M_or hf hf' (by omega) (by omega) (by omega) (fun d => dp_or_K)
/-- one token: its row of cells -/
theorem sy_ex35 {post : SY → Prop} {J : Int32 → Int32 → Int32 → Int32 → Int32 → Int32 → Int32 → (Nat → Int32) → (Nat → Int32) → (Nat → Int32) → (Nat → Int32) → (Nat → Int32) → (Nat → Int32) → (Nat → Int32) → (Nat → Int32) → (Nat → Int32) → (Nat → Int32) → (Nat → Int32) → (Nat → Int32) → (Nat → Int32) → (Nat → Int32) → (Nat → Int32) → (Nat → Int32) → (Nat → Int32) → (Nat → Int32) → (Nat → Int32) → (Nat → Int32) → (Nat → Int32) → (Nat → Int32) → (Nat → Int32) → (Nat → Int32) → (Nat → Int32) → (Nat → Int32) → (Nat → Int32) → (Nat → Int32) → (Nat → Int32) → (Nat → Int32) → (Nat → Int32) → (Nat → Int32) → (Nat → Int32) → (Nat → Int32) → (Nat → Int32) → (Nat → Int32) → (Nat → Int32) → Prop} {t b n B : Nat} {w : Nat → Nat} {L : List Nat → Prop} (hb : b < 16) (hn : n ≤ 24)
    (hlook : ∀ a, a ≤ n → ∀ en lk : Nat → Int32, (∀ i, 32 * (b + 1) ≤ i → en i = yends i ∧ lk i = ylack i) → ∀ post' : SY → Prop, (∀ (E : Int32) (x : Nat), (∀ m, bt E m = true ↔ m ≤ n ∧ dp_E L w a m) → dp_M B (dp_K L w n a) x → post' (yplace, yroot, yrowLength, nI (16 * t), youts, ytop, ykind, ywith, ysize, ysort, ymany, yuse, ytypeOf, yleast, ygreatest, ylisted, ytypeOfName, yused, yvalued, ygiven, yname, yparent, ychildren, ycount, yrow, yvalue, yattributes, upd en (32 * b + a) E, upd lk (32 * b + a) (nI x), yshortest, youtKind, youtWith, ywork, yworkWith, yweight, yfollow, yfirsts, ylasts, ybare, ymet, ynameAt, ytokenAt, ytodo)) → wpY_look post' (yplace, yroot, yrowLength, nI (16 * t), youts, ytop, ykind, ywith, ysize, ysort, ymany, yuse, ytypeOf, yleast, ygreatest, ylisted, ytypeOfName, yused, yvalued, ygiven, yname, yparent, ychildren, ycount, yrow, yvalue, yattributes, en, lk, yshortest, youtKind, youtWith, ywork, yworkWith, yweight, yfollow, yfirsts, ylasts, ybare, ymet, ynameAt, ytokenAt, ytodo) (nI b) (nI a) (nI n))
    (h : ∀ en lk : Nat → Int32, ed_R L B w n b en lk → (∀ i, 32 * (b + 1) ≤ i → en i = yends i ∧ lk i = ylack i) → J (nI b + (-1)) yplace yroot yrowLength (nI (16 * t)) youts ytop ykind ywith ysize ysort ymany yuse ytypeOf yleast ygreatest ylisted ytypeOfName yused yvalued ygiven yname yparent ychildren ycount yrow yvalue yattributes en lk yshortest youtKind youtWith ywork yworkWith yweight yfollow yfirsts ylasts ybare ymet ynameAt ytokenAt ytodo) : ∀ (c : Nat) (en lk : Nat → Int32), c ≤ n + 1 → (∀ a, c ≤ a → a ≤ n → (∀ m, bt (en (32 * b + a)) m = true ↔ m ≤ n ∧ dp_E L w a m) ∧ ∃ x, lk (32 * b + a) = nI x ∧ dp_M B (dp_K L w n a) x) → (∀ i, 32 * (b + 1) ≤ i → en i = yends i ∧ lk i = ylack i) → wY_examine_35 post J (nI n) (nI b) (c + 1) (nI c + (-1)) yplace yroot yrowLength (nI (16 * t)) youts ytop ykind ywith ysize ysort ymany yuse ytypeOf yleast ygreatest ylisted ytypeOfName yused yvalued ygiven yname yparent ychildren ycount yrow yvalue yattributes en lk yshortest youtKind youtWith ywork yworkWith yweight yfollow yfirsts ylasts ybare ymet ynameAt ytokenAt ytodo := by
  intro c
  induction c with
  | zero =>
    intro en lk hc hr hf
    exact br_t nb_d0 (nm_e (h en lk (fun a ha => hr a (by omega) ha) hf))
  | succ c ih =>
    intro en lk hc hr hf
    rw [nb_a1]
    refine br_f (nI_pos (by omega)) (hlook c (by omega) en lk hf _ (fun E x hE hM => nm_e (ih _ _ (by omega) (fun a h1 h2 => ?_) (fun i hi => ?_))))
    · by_cases q : a = c
      · rw [q, pk_us, pk_us]; exact ⟨hE, x, rfl, hM⟩
      · rw [pk_un (by omega), pk_un (by omega)]; exact hr a (by omega) h2
    · rw [pk_un (by omega), pk_un (by omega)]; exact hf i hi
theorem sy_exS {post : SY → Prop} {t b n N fu : Nat} {w kd vl : Nat → Nat} {R : ex_T} (hb : b < 16) (hn : n ≤ 24)
    (hshort : ∀ post' : Int32 → Prop, post' (nI (ex_sh R)) → wpY_shorter post' (yplace, yroot, yrowLength, nI (16 * t), youts, ytop, ykind, ywith, ysize, ysort, ymany, yuse, ytypeOf, yleast, ygreatest, ylisted, ytypeOfName, yused, yvalued, ygiven, yname, yparent, ychildren, ycount, yrow, yvalue, yattributes, yends, ylack, yshortest, youtKind, youtWith, ywork, yworkWith, yweight, yfollow, yfirsts, ylasts, ybare, ymet, ynameAt, ytokenAt, ytodo) (nI b))
    (hlook : ∀ a, a ≤ n → ∀ en lk : Nat → Int32, (∀ i, 32 * (b + 1) ≤ i → en i = yends i ∧ lk i = ylack i) → ∀ post' : SY → Prop, (∀ (E : Int32) (x : Nat), (∀ m, bt E m = true ↔ m ≤ n ∧ dp_E (ex_L vl R) w a m) → dp_M (ex_w R) (dp_K (ex_L vl R) w n a) x → post' (yplace, yroot, yrowLength, nI (16 * t), youts, ytop, ykind, ywith, ysize, ysort, ymany, yuse, ytypeOf, yleast, ygreatest, ylisted, ytypeOfName, yused, yvalued, ygiven, yname, yparent, ychildren, ycount, yrow, yvalue, yattributes, upd en (32 * b + a) E, upd lk (32 * b + a) (nI x), upd yshortest b (nI (ex_sh R)), youtKind, youtWith, ywork, yworkWith, yweight, yfollow, yfirsts, ylasts, ybare, ymet, ynameAt, ytokenAt, ytodo)) → wpY_look post' (yplace, yroot, yrowLength, nI (16 * t), youts, ytop, ykind, ywith, ysize, ysort, ymany, yuse, ytypeOf, yleast, ygreatest, ylisted, ytypeOfName, yused, yvalued, ygiven, yname, yparent, ychildren, ycount, yrow, yvalue, yattributes, en, lk, upd yshortest b (nI (ex_sh R)), youtKind, youtWith, ywork, yworkWith, yweight, yfollow, yfirsts, ylasts, ybare, ymet, ynameAt, ytokenAt, ytodo) (nI b) (nI a) (nI n))
    (h : ∀ sh en lk : Nat → Int32, ed_P w n vl R b sh en lk → (∀ j, b + 1 ≤ j → sh j = yshortest j) → (∀ i, 32 * (b + 1) ≤ i → en i = yends i ∧ lk i = ylack i) → wY_examine_17 post (nI n) fu (nI b + (-1)) yplace yroot yrowLength (nI (16 * t)) youts ytop ykind ywith ysize ysort ymany yuse ytypeOf yleast ygreatest ylisted ytypeOfName yused yvalued ygiven yname yparent ychildren ycount yrow yvalue yattributes en lk sh youtKind youtWith ywork yworkWith yweight yfollow yfirsts ylasts ybare ymet ynameAt ytokenAt ytodo) : wY_examine_17 post (nI n) (fu + 1) (nI (b + 1) + (-1)) yplace yroot yrowLength (nI (16 * t)) youts ytop ykind ywith ysize ysort ymany yuse ytypeOf yleast ygreatest ylisted ytypeOfName yused yvalued ygiven yname yparent ychildren ycount yrow yvalue yattributes yends ylack yshortest youtKind youtWith ywork yworkWith yweight yfollow yfirsts ylasts ybare ymet ynameAt ytokenAt ytodo := by
  rw [nb_a1]
  refine br_f (nI_pos (by omega)) (hshort _ ⟨vp_in_nI hb (by omega), nm_r (e' := upd yshortest b (nI (ex_sh R))) (by rw [nb_cl (by omega)]) ⟨n + 1 + 1, ?_⟩⟩)
  have e : nI n = nI (n + 1) + (-1) := (nb_a1 n).symm
  have R1 := sy_ex35 (post := post) (J := wY_examine_17 post (nI n) fu) (yshortest := upd yshortest b (nI (ex_sh R))) (t := t) (B := ex_w R) (L := ex_L vl R) (w := w) hb hn hlook (fun en lk hR hf => h _ en lk ⟨pk_us, hR⟩ (fun j hj => pk_un (by omega)) hf) (n + 1) yends ylack (Nat.le_refl _) (fun a h1 h2 => by omega) (fun i _ => ⟨rfl, rfl⟩)
  rw [nb_a1] at R1
  exact R1
end
end
section
/-! ===== examine, over the tree ===== -/
theorem ed_P_cg {w : Nat → Nat} {n : Nat} {vl : Nat → Nat} {R : ex_T} {b : Nat} {sh en lk sh' en' lk' : Nat → Int32} (h : ed_P w n vl R b sh en lk) (hn : n ≤ 24) (h0 : sh' b = sh b) (h1 : ∀ i, 32 * b ≤ i → en' i = en i ∧ lk' i = lk i) : ed_P w n vl R b sh' en' lk' :=
  ⟨h0.trans h.1, ed_R_cg h.2 hn (fun i h2 _ => h1 i h2)⟩
section
variable {yplace yroot yrowLength yfirst youts ytop : Int32} {ykind ywith ysize ysort ymany yuse ytypeOf yleast ygreatest ylisted ytypeOfName yused yvalued ygiven yname yparent ychildren ycount yrow yvalue yattributes yends ylack yshortest youtKind youtWith ywork yworkWith yweight yfollow yfirsts ylasts ybare ymet ynameAt ytokenAt ytodo : Nat → Int32}
theorem sy_shL {post : Int32 → Prop} {t b : Nat} (ht : t < 6) (hb : b < 16) (hk : (ykind (16 * t + b) = nI 0 ∧ post 1) ∨ (ykind (16 * t + b) = nI 6 ∧ post 0)) : wpY_shorter post (yplace, yroot, yrowLength, nI (16 * t), youts, ytop, ykind, ywith, ysize, ysort, ymany, yuse, ytypeOf, yleast, ygreatest, ylisted, ytypeOfName, yused, yvalued, ygiven, yname, yparent, ychildren, ycount, yrow, yvalue, yattributes, yends, ylack, yshortest, youtKind, youtWith, ywork, yworkWith, yweight, yfollow, yfirsts, ylasts, ybare, ymet, ynameAt, ytokenAt, ytodo) (nI b) := by
  unfold wpY_shorter
  dsimp only
  rw [nI_add, nb_cl (n := 16 * t + b) (by omega)]
  refine ⟨vp_in_nI (by omega) (by omega), nm_e ?_⟩
  rcases hk with ⟨hk, p⟩ | ⟨hk, p⟩
  · rw [hk]
    refine sy_parts (by omega) (br_t (by decide) ?_)
    unfold wY_shorter_31
    exact sy_parts (by omega) (br_t (by decide) (br_t rfl p))
  · rw [hk]
    refine sy_parts (by omega) (br_t (by decide) ?_)
    unfold wY_shorter_31
    exact sy_parts (by omega) (br_t (by decide) (br_f (by decide) (br_f (by decide) (br_f (by decide) (br_f (by decide) (br_f (by decide) p))))))
theorem sy_sh1 {post : Int32 → Prop} {t b s kk : Nat} (ht : t < 6) (hb : b + 1 < 16) (hkk : kk = 3 ∨ kk = 4 ∨ kk = 5 ∨ kk = 8) (hk : ykind (16 * t + b) = nI kk) (hs : yshortest (b + 1) = nI s) (p : (kk = 3 → post 0) ∧ (kk = 4 → post 0) ∧ (kk = 5 → post (nI s + 0)) ∧ (kk = 8 → post (ywith (16 * t + b) >>> ((2 : Int32) &&& 31) * nI s))) : wpY_shorter post (yplace, yroot, yrowLength, nI (16 * t), youts, ytop, ykind, ywith, ysize, ysort, ymany, yuse, ytypeOf, yleast, ygreatest, ylisted, ytypeOfName, yused, yvalued, ygiven, yname, yparent, ychildren, ycount, yrow, yvalue, yattributes, yends, ylack, yshortest, youtKind, youtWith, ywork, yworkWith, yweight, yfollow, yfirsts, ylasts, ybare, ymet, ynameAt, ytokenAt, ytodo) (nI b) := by
  unfold wpY_shorter
  dsimp only
  rw [nI_add, nb_cl (n := 16 * t + b) (by omega), hk]
  refine ⟨vp_in_nI (by omega) (by omega), nm_e ?_⟩
  rw [nI_1, nb_cl (n := b + 1) (by omega), hs]
  have vb : vp_in (nI (b + 1)) 16 := vp_in_nI hb (by omega)
  rcases hkk with rfl | rfl | rfl | rfl
  · refine sy_parts (by omega) (br_f (by decide) ⟨vb, ?_⟩)
    unfold wY_shorter_31
    exact sy_parts (by omega) (br_t (by decide) (br_f (by decide) (br_f (by decide) (br_t rfl (p.1 rfl)))))
  · refine sy_parts (by omega) (br_f (by decide) ⟨vb, ?_⟩)
    unfold wY_shorter_31
    exact sy_parts (by omega) (br_t (by decide) (br_f (by decide) (br_f (by decide) (br_f (by decide) (br_t rfl (p.2.1 rfl))))))
  · refine sy_parts (by omega) (br_f (by decide) ⟨vb, ?_⟩)
    unfold wY_shorter_31
    exact sy_parts (by omega) (br_t (by decide) (br_f (by decide) (br_f (by decide) (br_f (by decide) (br_f (by decide) (br_f (by decide) (p.2.2.1 rfl)))))))
  · refine sy_parts (by omega) (br_f (by decide) ⟨vb, ?_⟩)
    unfold wY_shorter_31
    refine sy_parts (by omega) (br_t (by decide) (br_f (by decide) (br_f (by decide) (br_f (by decide) (br_f (by decide) (br_t rfl ?_))))))
    rw [nI_add, nb_cl (n := 16 * t + b) (by omega)]
    exact ⟨vp_in_nI (by omega) (by omega), p.2.2.2 rfl⟩
theorem sy_sh2 {post : Int32 → Prop} {t b N s1 s2 kk : Nat} {kd vl : Nat → Nat} {P : ex_T} (ht : t < 6) (hN : N ≤ 16) (hK : rl_K ykind ywith (16 * t) N kd vl) (hSP : ex_S kd vl P (b + 1)) (hbN : b + 1 + ex_n P < N) (hkk : kk = 1 ∨ kk = 2 ∨ kk = 7) (hk : ykind (16 * t + b) = nI kk) (h1 : yshortest (b + 1) = nI s1) (h2 : yshortest (b + 1 + ex_n P) = nI s2) (hs1 : s1 < 1000) (hs2 : s2 < 1000) (p2 : kk = 2 → post (nI (if s1 < s2 then s1 else s2))) (p1 : kk ≠ 2 → post (nI (s1 + s2))) : wpY_shorter post (yplace, yroot, yrowLength, nI (16 * t), youts, ytop, ykind, ywith, ysize, ysort, ymany, yuse, ytypeOf, yleast, ygreatest, ylisted, ytypeOfName, yused, yvalued, ygiven, yname, yparent, ychildren, ycount, yrow, yvalue, yattributes, yends, ylack, yshortest, youtKind, youtWith, ywork, yworkWith, yweight, yfollow, yfirsts, ylasts, ybare, ymet, ynameAt, ytokenAt, ytodo) (nI b) := by
  unfold wpY_shorter
  dsimp only
  rw [nI_add, nb_cl (n := 16 * t + b) (by omega), hk]
  refine ⟨vp_in_nI (by omega) (by omega), nm_e ?_⟩
  rw [nI_1, nb_cl (n := b + 1) (by omega), h1]
  have vb : vp_in (nI (b + 1)) 16 := vp_in_nI (by omega) (by omega)
  have two : ∀ (x2 : Int32), wY_shorter_59 post (nI b) x2 (nI s1) (nI s2) yplace yroot yrowLength (nI (16 * t)) youts ytop ykind ywith ysize ysort ymany yuse ytypeOf yleast ygreatest ylisted ytypeOfName yused yvalued ygiven yname yparent ychildren ycount yrow yvalue yattributes yends ylack yshortest youtKind youtWith ywork yworkWith yweight yfollow yfirsts ylasts ybare ymet ynameAt ytokenAt ytodo → wpY_second (fun r_14 => vp_in r_14 16 ∧ ∀ x4 : Int32, x4 = yshortest r_14.toNatClampNeg → wY_shorter_59 post (nI b) x2 (nI s1) x4 yplace yroot yrowLength (nI (16 * t)) youts ytop ykind ywith ysize ysort ymany yuse ytypeOf yleast ygreatest ylisted ytypeOfName yused yvalued ygiven yname yparent ychildren ycount yrow yvalue yattributes yends ylack yshortest youtKind youtWith ywork yworkWith yweight yfollow yfirsts ylasts ybare ymet ynameAt ytokenAt ytodo) (yplace, yroot, yrowLength, nI (16 * t), youts, ytop, ykind, ywith, ysize, ysort, ymany, yuse, ytypeOf, yleast, ygreatest, ylisted, ytypeOfName, yused, yvalued, ygiven, yname, yparent, ychildren, ycount, yrow, yvalue, yattributes, yends, ylack, yshortest, youtKind, youtWith, ywork, yworkWith, yweight, yfollow, yfirsts, ylasts, ybare, ymet, ynameAt, ytokenAt, ytodo) (nI b) := by
    intro x2 h
    exact sy_second ht hN hK hSP (by omega) ⟨vp_in_nI (by omega) (by omega), nm_r (e' := nI s2) (by rw [nb_cl (by omega), h2]) h⟩
  rcases hkk with rfl | rfl | rfl
  · refine sy_parts (by omega) (br_f (by decide) ⟨vb, ?_⟩)
    unfold wY_shorter_31
    refine sy_parts (by omega) (br_f (by decide) (two _ (br_f (by decide) (br_f (by decide) (br_f (by decide) (br_f (by decide) (br_f (by decide) ?_)))))))
    rw [nI_add]
    exact p1 (by omega)
  · refine sy_parts (by omega) (br_f (by decide) ⟨vb, ?_⟩)
    unfold wY_shorter_31
    refine sy_parts (by omega) (br_f (by decide) (two _ (br_f (by decide) (br_t rfl (pk_le s2 s1 (fun q => ?_) (fun q => ?_))))))
    · have := p2 rfl; rw [if_neg (by omega)] at this; exact this
    · have := p2 rfl; rw [if_pos q] at this; exact this
  · refine sy_parts (by omega) (br_f (by decide) ⟨vb, ?_⟩)
    unfold wY_shorter_31
    refine sy_parts (by omega) (br_f (by decide) (two _ (br_f (by decide) (br_f (by decide) (br_f (by decide) (br_f (by decide) (br_f (by decide) ?_)))))))
    rw [nI_add]
    exact p1 (by omega)
theorem sy_exT {post : SY → Prop} {t n N : Nat} {w kd vl : Nat → Nat} (ht : t < 6) (hN : N ≤ 16) (hn : n ≤ 24) (hrow : ∀ i, i < n → yrow i = nI (w i) ∧ w i < 6) (hK : rl_K ykind ywith (16 * t) N kd vl) : ∀ (R : ex_T) (b fu : Nat) (sh en lk : Nat → Int32), ex_S kd vl R b → ex_W R → ex_w R ≤ 30 → b + ex_n R ≤ N → (∀ sh' en' lk' : Nat → Int32, ed_P w n vl R b sh' en' lk' → (∀ j, b + ex_n R ≤ j → sh' j = sh j) → (∀ i, 32 * (b + ex_n R) ≤ i → en' i = en i ∧ lk' i = lk i) → wY_examine_17 post (nI n) fu (nI b + (-1)) yplace yroot yrowLength (nI (16 * t)) youts ytop ykind ywith ysize ysort ymany yuse ytypeOf yleast ygreatest ylisted ytypeOfName yused yvalued ygiven yname yparent ychildren ycount yrow yvalue yattributes en' lk' sh' youtKind youtWith ywork yworkWith yweight yfollow yfirsts ylasts ybare ymet ynameAt ytokenAt ytodo) → wY_examine_17 post (nI n) (fu + ex_n R) (nI (b + ex_n R) + (-1)) yplace yroot yrowLength (nI (16 * t)) youts ytop ykind ywith ysize ysort ymany yuse ytypeOf yleast ygreatest ylisted ytypeOfName yused yvalued ygiven yname yparent ychildren ycount yrow yvalue yattributes en lk sh youtKind youtWith ywork yworkWith yweight yfollow yfirsts ylasts ybare ymet ynameAt ytokenAt ytodo := by
  have kind : ∀ b kk, b < N → kd b = kk → ykind (16 * t + b) = nI kk := fun b kk hb q => by rw [(hK b hb).1, q]
  -- binary nodes
  have bin : ∀ (P Q R : ex_T) (kk : Nat), (kk = 1 ∨ kk = 2 ∨ kk = 7) → (kk = 2 → R = .add P Q) → (kk = 1 → R = .mul P Q) → (kk = 7 → R = .sub P Q) →
      (∀ (b fu : Nat) (sh en lk : Nat → Int32), ex_S kd vl P b → ex_W P → ex_w P ≤ 30 → b + ex_n P ≤ N → (∀ sh' en' lk' : Nat → Int32, ed_P w n vl P b sh' en' lk' → (∀ j, b + ex_n P ≤ j → sh' j = sh j) → (∀ i, 32 * (b + ex_n P) ≤ i → en' i = en i ∧ lk' i = lk i) → wY_examine_17 post (nI n) fu (nI b + (-1)) yplace yroot yrowLength (nI (16 * t)) youts ytop ykind ywith ysize ysort ymany yuse ytypeOf yleast ygreatest ylisted ytypeOfName yused yvalued ygiven yname yparent ychildren ycount yrow yvalue yattributes en' lk' sh' youtKind youtWith ywork yworkWith yweight yfollow yfirsts ylasts ybare ymet ynameAt ytokenAt ytodo) → wY_examine_17 post (nI n) (fu + ex_n P) (nI (b + ex_n P) + (-1)) yplace yroot yrowLength (nI (16 * t)) youts ytop ykind ywith ysize ysort ymany yuse ytypeOf yleast ygreatest ylisted ytypeOfName yused yvalued ygiven yname yparent ychildren ycount yrow yvalue yattributes en lk sh youtKind youtWith ywork yworkWith yweight yfollow yfirsts ylasts ybare ymet ynameAt ytokenAt ytodo) →
      (∀ (b fu : Nat) (sh en lk : Nat → Int32), ex_S kd vl Q b → ex_W Q → ex_w Q ≤ 30 → b + ex_n Q ≤ N → (∀ sh' en' lk' : Nat → Int32, ed_P w n vl Q b sh' en' lk' → (∀ j, b + ex_n Q ≤ j → sh' j = sh j) → (∀ i, 32 * (b + ex_n Q) ≤ i → en' i = en i ∧ lk' i = lk i) → wY_examine_17 post (nI n) fu (nI b + (-1)) yplace yroot yrowLength (nI (16 * t)) youts ytop ykind ywith ysize ysort ymany yuse ytypeOf yleast ygreatest ylisted ytypeOfName yused yvalued ygiven yname yparent ychildren ycount yrow yvalue yattributes en' lk' sh' youtKind youtWith ywork yworkWith yweight yfollow yfirsts ylasts ybare ymet ynameAt ytokenAt ytodo) → wY_examine_17 post (nI n) (fu + ex_n Q) (nI (b + ex_n Q) + (-1)) yplace yroot yrowLength (nI (16 * t)) youts ytop ykind ywith ysize ysort ymany yuse ytypeOf yleast ygreatest ylisted ytypeOfName yused yvalued ygiven yname yparent ychildren ycount yrow yvalue yattributes en lk sh youtKind youtWith ywork yworkWith yweight yfollow yfirsts ylasts ybare ymet ynameAt ytokenAt ytodo) →
      ∀ (b fu : Nat) (sh en lk : Nat → Int32), kd b = kk → ex_S kd vl P (b + 1) → ex_S kd vl Q (b + 1 + ex_n P) → ex_W P → ex_W Q → ex_w P + ex_w Q ≤ 30 → ex_w P + ex_w Q ≤ ex_w R → b + (1 + ex_n P + ex_n Q) ≤ N → (∀ sh' en' lk' : Nat → Int32, ed_P w n vl R b sh' en' lk' → (∀ j, b + (1 + ex_n P + ex_n Q) ≤ j → sh' j = sh j) → (∀ i, 32 * (b + (1 + ex_n P + ex_n Q)) ≤ i → en' i = en i ∧ lk' i = lk i) → wY_examine_17 post (nI n) fu (nI b + (-1)) yplace yroot yrowLength (nI (16 * t)) youts ytop ykind ywith ysize ysort ymany yuse ytypeOf yleast ygreatest ylisted ytypeOfName yused yvalued ygiven yname yparent ychildren ycount yrow yvalue yattributes en' lk' sh' youtKind youtWith ywork yworkWith yweight yfollow yfirsts ylasts ybare ymet ynameAt ytokenAt ytodo) → wY_examine_17 post (nI n) (fu + (1 + ex_n P + ex_n Q)) (nI (b + (1 + ex_n P + ex_n Q)) + (-1)) yplace yroot yrowLength (nI (16 * t)) youts ytop ykind ywith ysize ysort ymany yuse ytypeOf yleast ygreatest ylisted ytypeOfName yused yvalued ygiven yname yparent ychildren ycount yrow yvalue yattributes en lk sh youtKind youtWith ywork yworkWith yweight yfollow yfirsts ylasts ybare ymet ynameAt ytokenAt ytodo := by
    intro P Q R kk hkk hR2 hR1 hR7 ihP ihQ b fu sh en lk hkb hSP hSQ hWP hWQ hw hwR hbN h
    obtain ⟨hsP, hsPw⟩ := ex_sh_s vl P hWP
    obtain ⟨hsQ, hsQw⟩ := ex_sh_s vl Q hWQ
    have pP := ex_n_pos P
    have pQ := ex_n_pos Q
    have kb := kind b kk (by omega) hkb
    rw [show fu + (1 + ex_n P + ex_n Q) = fu + 1 + ex_n P + ex_n Q by omega, show b + (1 + ex_n P + ex_n Q) = b + 1 + ex_n P + ex_n Q by omega]
    refine ihQ (b + 1 + ex_n P) (fu + 1 + ex_n P) sh en lk hSQ hWQ (by omega) (by omega) (fun sh1 en1 lk1 hQ c1 d1 => ?_)
    refine ihP (b + 1) (fu + 1) sh1 en1 lk1 hSP hWP (by omega) (by omega) (fun sh2 en2 lk2 hP c2 d2 => ?_)
    have hQ2 : ed_P w n vl Q (b + 1 + ex_n P) sh2 en2 lk2 := ed_P_cg hQ hn (c2 _ (Nat.le_refl _)) d2
    have esh : ex_sh R = if kk = 2 then (if ex_sh P < ex_sh Q then ex_sh P else ex_sh Q) else ex_sh P + ex_sh Q := by
      rcases hkk with rfl | rfl | rfl
      · rw [hR1 rfl]; rfl
      · rw [hR2 rfl]; rfl
      · rw [hR7 rfl]; rfl
    refine sy_exS (R := R) (w := w) (vl := vl) (kd := kd) (N := N) (yshortest := sh2) (yends := en2) (ylack := lk2) (by omega) hn (fun post' p => ?_) (fun a ha en' lk' hf post' hp => ?_) (fun sh3 en3 lk3 hR3 c3 d3 => ?_)
    · refine sy_sh2 (kk := kk) (P := P) ht hN hK hSP (by omega) hkk kb hP.1 hQ2.1 (by omega) (by omega) (fun q => ?_) (fun q => ?_)
      · rw [esh, if_pos q] at p; exact p
      · rw [esh, if_neg q] at p; exact p
    · have tP : ed_P w n vl P (b + 1) (upd sh2 b (nI (ex_sh R))) en' lk' := ed_P_cg hP hn (pk_un (by omega)) (fun i hi => hf i (by omega))
      have tQ : ed_P w n vl Q (b + 1 + ex_n P) (upd sh2 b (nI (ex_sh R))) en' lk' := ed_P_cg hQ2 hn (pk_un (by omega)) (fun i hi => hf i (by omega))
      have go : wpY_two post' (yplace, yroot, yrowLength, nI (16 * t), youts, ytop, ykind, ywith, ysize, ysort, ymany, yuse, ytypeOf, yleast, ygreatest, ylisted, ytypeOfName, yused, yvalued, ygiven, yname, yparent, ychildren, ycount, yrow, yvalue, yattributes, en', lk', upd sh2 b (nI (ex_sh R)), youtKind, youtWith, ywork, yworkWith, yweight, yfollow, yfirsts, ylasts, ybare, ymet, ynameAt, ytokenAt, ytodo) (nI b) (nI a) (nI kk) := by
        refine sy_two (P := P) (Q := Q) (w := w) (kk := kk) ht hN hK hSP (by omega) ha hn hWP hWQ (by omega) (by omega) tP tQ (fun q E x hE hM => ?_) (fun q E x hE hM => ?_) (fun q E x hE hM => ?_) hkk
        · have r := hR2 q; subst r; exact hp E x hE (dp_M_cg hM hwR (fun _ => Iff.rfl))
        · have r := hR1 q; subst r; exact hp E x hE (dp_M_cg hM hwR (fun _ => Iff.rfl))
        · have r := hR7 q; subst r; exact hp E x hE (dp_M_cg hM hwR (fun _ => Iff.rfl))
      refine sy_look0 ht (by omega) kb (fun x4 x5 x6 e4 e5 e6 => ?_)
      subst e4
      rcases hkk with rfl | rfl | rfl
      · exact br_f (by decide) (br_f (by decide) (br_f (by decide) (br_t rfl go)))
      · exact br_f (by decide) (br_f (by decide) (br_f (by decide) (br_f (by decide) (br_t rfl go))))
      · exact br_f (by decide) (br_f (by decide) (br_f (by decide) (br_f (by decide) (br_f (by decide) (br_f (by decide) (br_f (by decide) (br_f (by decide) (br_f (by decide) (br_t rfl go)))))))))
    · refine h sh3 en3 lk3 hR3 (fun j hj => ?_) (fun i hi => ?_)
      · rw [c3 j (by omega), c2 j (by omega), c1 j (by omega)]
      · obtain ⟨u1, u2⟩ := d3 i (by omega)
        obtain ⟨u3, u4⟩ := d2 i (by omega)
        obtain ⟨u5, u6⟩ := d1 i (by omega)
        exact ⟨by rw [u1, u3, u5], by rw [u2, u4, u6]⟩
  intro R
  induction R with
  | natCast k => intro b fu sh en lk hS; exact hS.elim
  | intCast k => intro b fu sh en lk hS; exact hS.elim
  | num k =>
    intro b fu sh en lk hS hW hw hbN h
    simp only [ex_n] at hbN h ⊢
    have kb := kind b 6 (by omega) hS
    refine sy_exS (R := .num k) (w := w) (vl := vl) (kd := kd) (N := N) (yshortest := sh) (yends := en) (ylack := lk) (by omega) hn (fun post' p => sy_shL ht (by omega) (Or.inr ⟨kb, p⟩)) (fun a ha en' lk' hf post' hp => sy_lookN ht (by omega) ha hn kb hp) h
  | var i =>
    intro b fu sh en lk hS hW hw hbN h
    simp only [ex_n] at hbN h ⊢
    obtain ⟨s1, rfl⟩ := hS
    obtain ⟨q1, q2, q3, q4, q5⟩ := hK i (by omega)
    refine sy_exS (R := .var i) (w := w) (vl := vl) (kd := kd) (N := N) (yshortest := sh) (yends := en) (ylack := lk) (by omega) hn (fun post' p => sy_shL ht (by omega) (Or.inl ⟨kind i 0 (by omega) s1, p⟩)) (fun a ha en' lk' hf post' hp => sy_lookV ht (by omega) ha hn hrow (kind i 0 (by omega) s1) (q3 s1) (q5 (Or.inl s1)) hp) h
  | neg P ih =>
    intro b fu sh en lk hS hW hw hbN h
    simp only [ex_n] at hbN h ⊢
    obtain ⟨s1, s2⟩ := hS
    have pP := ex_n_pos P
    have kb := kind b 3 (by omega) s1
    rw [show fu + (1 + ex_n P) = fu + 1 + ex_n P by omega, show b + (1 + ex_n P) = b + 1 + ex_n P by omega]
    refine ih (b + 1) (fu + 1) sh en lk s2 hW hw (by omega) (fun sh1 en1 lk1 hP c1 d1 => ?_)
    refine sy_exS (R := .neg P) (w := w) (vl := vl) (kd := kd) (N := N) (yshortest := sh1) (yends := en1) (ylack := lk1) (by omega) hn (fun post' p => sy_sh1 (kk := 3) ht (by omega) (Or.inl rfl) kb hP.1 ⟨fun _ => p, fun q => by omega, fun q => by omega, fun q => by omega⟩) (fun a ha en' lk' hf post' hp => ?_) (fun sh3 en3 lk3 hR3 c3 d3 => h sh3 en3 lk3 hR3 (fun j hj => ?_) (fun i hi => ?_))
    · have tP : ed_P w n vl P (b + 1) (upd sh1 b (nI (ex_sh (.neg P)))) en' lk' := ed_P_cg hP hn (pk_un (by omega)) (fun i hi => hf i (by omega))
      exact sy_lookO ht (by omega) ha hn kb tP.2 hp
    · rw [c3 j (by omega), c1 j (by omega)]
    · obtain ⟨u1, u2⟩ := d3 i (by omega)
      obtain ⟨u3, u4⟩ := d1 i (by omega)
      exact ⟨by rw [u1, u3], by rw [u2, u4]⟩
  | pow P k ih =>
    intro b fu sh en lk hS hW hw hbN h
    simp only [ex_n] at hbN h ⊢
    obtain ⟨s1, s2⟩ := hS
    have pP := ex_n_pos P
    have hm1 := ex_m_pos hW.2.2
    have hwe : ex_w (.pow P k) = ex_m k * ex_w P := rfl
    have hwP : ex_w P ≤ 30 := by
      have : 1 * ex_w P ≤ ex_m k * ex_w P := Nat.mul_le_mul_right _ hm1
      omega
    obtain ⟨hsP, hsPw⟩ := ex_sh_s vl P hW.1
    obtain ⟨q1, q2, q3, q4, q5⟩ := hK b (by omega)
    have kb : (k < 16 ∧ ykind (16 * t + b) = nI 8 ∧ ywith (16 * t + b) = nI k) ∨ (k = 16 ∧ ykind (16 * t + b) = nI 4) ∨ (k = 17 ∧ ykind (16 * t + b) = nI 5) := by
      rcases s1 with ⟨r1, r2, r3⟩ | ⟨r1, r2⟩ | ⟨r1, r2⟩
      · exact Or.inl ⟨r1, kind b 8 (by omega) r2, by rw [q5 (Or.inr r2), r3]⟩
      · exact Or.inr (Or.inl ⟨r1, kind b 4 (by omega) r2⟩)
      · exact Or.inr (Or.inr ⟨r1, kind b 5 (by omega) r2⟩)
    rw [show fu + (1 + ex_n P) = fu + 1 + ex_n P by omega, show b + (1 + ex_n P) = b + 1 + ex_n P by omega]
    refine ih (b + 1) (fu + 1) sh en lk s2 hW.1 hwP (by omega) (fun sh1 en1 lk1 hP c1 d1 => ?_)
    refine sy_exS (R := .pow P k) (w := w) (vl := vl) (kd := kd) (N := N) (yshortest := sh1) (yends := en1) (ylack := lk1) (by omega) hn (fun post' p => ?_) (fun a ha en' lk' hf post' hp => ?_) (fun sh3 en3 lk3 hR3 c3 d3 => h sh3 en3 lk3 hR3 (fun j hj => ?_) (fun i hi => ?_))
    · have e : ex_sh (.pow P k) = ex_lo k * ex_sh P := rfl
      rw [e] at p
      rcases kb with ⟨r1, r2, r3⟩ | ⟨r1, r2⟩ | ⟨r1, r2⟩
      · refine sy_sh1 (kk := 8) ht (by omega) (by omega) r2 hP.1 ⟨fun q => by omega, fun q => by omega, fun q => by omega, fun _ => ?_⟩
        rw [r3, tk_sh (by omega), pk_mul]
        unfold ex_lo at p
        rw [if_pos r1] at p
        exact p
      · refine sy_sh1 (kk := 4) ht (by omega) (by omega) r2 hP.1 ⟨fun q => by omega, fun _ => ?_, fun q => by omega, fun q => by omega⟩
        rw [r1, show ex_lo 16 = 0 from rfl, Nat.zero_mul] at p
        exact p
      · refine sy_sh1 (kk := 5) ht (by omega) (by omega) r2 hP.1 ⟨fun q => by omega, fun q => by omega, fun _ => ?_, fun q => by omega⟩
        rw [r1, show ex_lo 17 = 1 from rfl, Nat.one_mul] at p
        rw [show (0 : Int32) = nI 0 from rfl, nI_add]
        exact p
    · have tP : ed_P w n vl P (b + 1) (upd sh1 b (nI (ex_sh (.pow P k)))) en' lk' := ed_P_cg hP hn (pk_un (by omega)) (fun i hi => hf i (by omega))
      exact sy_lookW ht (by omega) ha hn hW hw kb tP hp
    · rw [c3 j (by omega), c1 j (by omega)]
    · obtain ⟨u1, u2⟩ := d3 i (by omega)
      obtain ⟨u3, u4⟩ := d1 i (by omega)
      exact ⟨by rw [u1, u3], by rw [u2, u4]⟩
  | add P Q ihP ihQ =>
    intro b fu sh en lk hS hW hw hbN h
    simp only [ex_n] at hbN h ⊢
    have hwe : ex_w (.add P Q) = ex_w P + ex_w Q := rfl
    exact bin P Q (.add P Q) 2 (by omega) (fun _ => rfl) (fun q => by omega) (fun q => by omega) ihP ihQ b fu sh en lk hS.1 hS.2.1 hS.2.2 hW.1 hW.2 (by omega) (by omega) hbN h
  | mul P Q ihP ihQ =>
    intro b fu sh en lk hS hW hw hbN h
    simp only [ex_n] at hbN h ⊢
    have hwe : ex_w (.mul P Q) = ex_w P + ex_w Q := rfl
    exact bin P Q (.mul P Q) 1 (by omega) (fun q => by omega) (fun _ => rfl) (fun q => by omega) ihP ihQ b fu sh en lk hS.1 hS.2.1 hS.2.2 hW.1 hW.2 (by omega) (by omega) hbN h
  | sub P Q ihP ihQ =>
    intro b fu sh en lk hS hW hw hbN h
    simp only [ex_n] at hbN h ⊢
    have hwe : ex_w (.sub P Q) = 2 * (ex_w P + ex_w Q) := rfl
    exact bin P Q (.sub P Q) 7 (by omega) (fun q => by omega) (fun q => by omega) (fun _ => rfl) ihP ihQ b fu sh en lk hS.1 hS.2.1 hS.2.2 hW.1 hW.2 (by omega) (by omega) hbN h
theorem sy_examine {post : SY → Prop} {t n : Nat} {w kd vl : Nat → Nat} {R : ex_T} (ht : t < 6) (hn : n ≤ 24) (hrow : ∀ i, i < n → yrow i = nI (w i) ∧ w i < 6) (hs : ysize t = nI (ex_n R)) (h16 : ex_n R ≤ 16) (hK : rl_K ykind ywith (16 * t) (ex_n R) kd vl) (hS : ex_S kd vl R 0) (hW : ex_W R) (hw : ex_w R ≤ 30)
    (h : ∀ (f : Int32) (sh en lk : Nat → Int32) (x : Nat), (bt (en 0) n = true ↔ ex_L vl R (dp_sl w n 0)) → lk 0 = nI x → dp_M 30 (dp_K (ex_L vl R) w n 0) x → post (yplace, yroot, yrowLength, f, youts, ytop, ykind, ywith, ysize, ysort, ymany, yuse, ytypeOf, yleast, ygreatest, ylisted, ytypeOfName, yused, yvalued, ygiven, yname, yparent, ychildren, ycount, yrow, yvalue, yattributes, en, lk, sh, youtKind, youtWith, ywork, yworkWith, yweight, yfollow, yfirsts, ylasts, ybare, ymet, ynameAt, ytokenAt, ytodo)) : wpY_examine post (yplace, yroot, yrowLength, yfirst, youts, ytop, ykind, ywith, ysize, ysort, ymany, yuse, ytypeOf, yleast, ygreatest, ylisted, ytypeOfName, yused, yvalued, ygiven, yname, yparent, ychildren, ycount, yrow, yvalue, yattributes, yends, ylack, yshortest, youtKind, youtWith, ywork, yworkWith, yweight, yfollow, yfirsts, ylasts, ybare, ymet, ynameAt, ytokenAt, ytodo) (nI t) (nI n) := by
  refine nm_r (e' := nI (16 * t)) (pk_mul 16 t) ⟨vp_in_nI (by omega) (by omega), nm_r (e' := nI (0 + ex_n R) + (-1)) (by rw [nb_cl (by omega), hs, nb_dec, Nat.zero_add]) ⟨1 + ex_n R, ?_⟩⟩
  refine sy_exT (w := w) (kd := kd) (vl := vl) (N := ex_n R) ht h16 hn hrow hK R 0 1 yshortest yends ylack hS hW hw (by omega) (fun sh en lk hP _ _ => br_t nb_d0 ?_)
  obtain ⟨b1, x, hx, hM⟩ := hP.2 0 (by omega)
  refine h _ sh en lk x ?_ hx (dp_M_cg hM hw (fun _ => Iff.rfl))
  rw [show en 0 = en (32 * 0 + 0) from rfl, b1 n]
  exact ⟨fun q => q.2.2, fun q => ⟨Nat.le_refl _, Nat.zero_le _, q⟩⟩
end
end
section
/-! ===== rows of names, status on both sides ===== -/
section
variable {drafted latestPlace positions fragments elementCount : Int32} {draftKind draftValue weights tokenAt fragmentBegin fragmentFirst fragmentLast fragmentEmpty reachedWith follow bearing accepting kindOfType leastOf greatestOf listedCount listedValue attributeUse attributeType typeOfName inUse nameOf parentOf kidCount kids hasValue valueOf hasAttribute attributeValue walked waiting : Nat → Int32} {yplace yroot yrowLength yfirst youts ytop : Int32} {ykind ywith ysize ysort ymany yuse ytypeOf yleast ygreatest ylisted ytypeOfName yused yvalued ygiven yname yparent ychildren ycount yrow yvalue yattributes yends ylack yshortest youtKind youtWith ywork yworkWith yweight yfollow yfirsts ylasts ybare ymet ynameAt ytokenAt ytodo : Nat → Int32}
theorem sy_row12 {post : SY → Prop} {e n : Nat} {g : Nat → Nat} {ch : Nat → Nat → Nat} (he : e < 24) (hn : n ≤ 24) (hk : ∀ i, i < n → ychildren (24 * e + i) = nI (ch e i) ∧ ch e i < 24) (hg : ∀ x, x < 24 → yname x = nI (g x) ∧ g x < 6) (h : ∀ row : Nat → Int32, (∀ i, i < n → row i = nI (kn_w g ch e i)) → post (yplace, yroot, nI n, yfirst, youts, ytop, ykind, ywith, ysize, ysort, ymany, yuse, ytypeOf, yleast, ygreatest, ylisted, ytypeOfName, yused, yvalued, ygiven, yname, yparent, ychildren, ycount, row, yvalue, yattributes, yends, ylack, yshortest, youtKind, youtWith, ywork, yworkWith, yweight, yfollow, yfirsts, ylasts, ybare, ymet, ynameAt, ytokenAt, ytodo)) : ∀ (m i : Nat) (row : Nat → Int32), i + m = n → (∀ j, j < i → row j = nI (kn_w g ch e j)) → wY_rowOf_12 post (nI e) yplace yroot (nI n) yfirst youts ytop (m + 1) (nI i) ykind ywith ysize ysort ymany yuse ytypeOf yleast ygreatest ylisted ytypeOfName yused yvalued ygiven yname yparent ychildren ycount row yvalue yattributes yends ylack yshortest youtKind youtWith ywork yworkWith yweight yfollow yfirsts ylasts ybare ymet ynameAt ytokenAt ytodo := by
  intro m
  induction m with
  | zero =>
    intro i row hi hr
    obtain rfl : i = n := by omega
    exact br_t (nI_le (Nat.le_refl _) (by omega)) (h row hr)
  | succ m ih =>
    intro i row hi hr
    obtain ⟨k1, k2⟩ := hk i (by omega)
    obtain ⟨g1, g2⟩ := hg _ k2
    refine br_f (nI_ge (by omega) (by omega)) ?_
    rw [nb_24m, nb_cl (n := 24 * e + i) (by omega), k1, nb_cl (n := ch e i) (by omega), g1]
    refine ⟨vp_in_nI (by omega) (by omega), vp_in_nI k2 (by omega), vp_in_nI (by omega) (by omega), nm_r (e' := upd row i (nI (g (ch e i)))) (by rw [nb_cl (by omega), nb_vb (by omega)]) (nm_r (nI_1 i) (ih (i + 1) _ (by omega) (fun j hj => ?_)))⟩
    by_cases q : j = i
    · rw [q, pk_us]; rfl
    · rw [pk_un q]; exact hr j (by omega)
theorem sy_rowOf {post : SY → Prop} {e n : Nat} {g : Nat → Nat} {ch : Nat → Nat → Nat} (he : e < 24) (hn : n ≤ 24) (hct : ycount e = nI n) (hk : ∀ i, i < n → ychildren (24 * e + i) = nI (ch e i) ∧ ch e i < 24) (hg : ∀ x, x < 24 → yname x = nI (g x) ∧ g x < 6) (h : ∀ row : Nat → Int32, (∀ i, i < n → row i = nI (kn_w g ch e i)) → post (yplace, yroot, nI n, yfirst, youts, ytop, ykind, ywith, ysize, ysort, ymany, yuse, ytypeOf, yleast, ygreatest, ylisted, ytypeOfName, yused, yvalued, ygiven, yname, yparent, ychildren, ycount, row, yvalue, yattributes, yends, ylack, yshortest, youtKind, youtWith, ywork, yworkWith, yweight, yfollow, yfirsts, ylasts, ybare, ymet, ynameAt, ytokenAt, ytodo)) : wpY_rowOf post (yplace, yroot, yrowLength, yfirst, youts, ytop, ykind, ywith, ysize, ysort, ymany, yuse, ytypeOf, yleast, ygreatest, ylisted, ytypeOfName, yused, yvalued, ygiven, yname, yparent, ychildren, ycount, yrow, yvalue, yattributes, yends, ylack, yshortest, youtKind, youtWith, ywork, yworkWith, yweight, yfollow, yfirsts, ylasts, ybare, ymet, ynameAt, ytokenAt, ytodo) (nI e) :=
  ⟨vp_in_nI he (by omega), nm_r (e' := nI n) (by rw [nb_cl (by omega), hct]) ⟨n + 1, sy_row12 he hn hk hg h n 0 yrow (by omega) (fun j hj => by omega)⟩⟩
theorem sy_isWord {post : Int32 → SY → Prop} {t n : Nat} {w kd vl : Nat → Nat} {R : ex_T} (ht : t < 6) (hn : n ≤ 24) (hrow : ∀ i, i < n → yrow i = nI (w i) ∧ w i < 6) (hs : ysize t = nI (ex_n R)) (h16 : ex_n R ≤ 16) (hK : rl_K ykind ywith (16 * t) (ex_n R) kd vl) (hS : ex_S kd vl R 0) (hW : ex_W R) (hw : ex_w R ≤ 30)
    (h1 : ex_L vl R (dp_sl w n 0) → ∀ (f : Int32) (sh en lk : Nat → Int32), post 1 (yplace, yroot, nI n, f, youts, ytop, ykind, ywith, ysize, ysort, ymany, yuse, ytypeOf, yleast, ygreatest, ylisted, ytypeOfName, yused, yvalued, ygiven, yname, yparent, ychildren, ycount, yrow, yvalue, yattributes, en, lk, sh, youtKind, youtWith, ywork, yworkWith, yweight, yfollow, yfirsts, ylasts, ybare, ymet, ynameAt, ytokenAt, ytodo)) (h0 : ¬ ex_L vl R (dp_sl w n 0) → ∀ (f : Int32) (sh en lk : Nat → Int32), post 0 (yplace, yroot, nI n, f, youts, ytop, ykind, ywith, ysize, ysort, ymany, yuse, ytypeOf, yleast, ygreatest, ylisted, ytypeOfName, yused, yvalued, ygiven, yname, yparent, ychildren, ycount, yrow, yvalue, yattributes, en, lk, sh, youtKind, youtWith, ywork, yworkWith, yweight, yfollow, yfirsts, ylasts, ybare, ymet, ynameAt, ytokenAt, ytodo)) : wpY_isWord post (yplace, yroot, nI n, yfirst, youts, ytop, ykind, ywith, ysize, ysort, ymany, yuse, ytypeOf, yleast, ygreatest, ylisted, ytypeOfName, yused, yvalued, ygiven, yname, yparent, ychildren, ycount, yrow, yvalue, yattributes, yends, ylack, yshortest, youtKind, youtWith, ywork, yworkWith, yweight, yfollow, yfirsts, ylasts, ybare, ymet, ynameAt, ytokenAt, ytodo) (nI t) := by
  unfold wpY_isWord
  refine sy_examine (w := w) ht hn hrow hs h16 hK hS hW hw (fun f sh en lk x hb _ _ => ?_)
  cases hv : bt (en 0) n with
  | false => exact br_t ((bb_t (en 0) (by omega)).mpr hv) (h0 (fun hL => by rw [hb.mpr hL] at hv; cases hv) f sh en lk)
  | true => exact br_f ((bb_t' (en 0) (by omega)).mpr hv) (h1 (hb.mp hv) f sh en lk)
end
section
variable {drafted latestPlace positions fragments elementCount : Int32} {draftKind draftValue weights tokenAt fragmentBegin fragmentFirst fragmentLast fragmentEmpty reachedWith follow bearing accepting kindOfType leastOf greatestOf listedCount listedValue attributeUse attributeType typeOfName inUse nameOf parentOf kidCount kids hasValue valueOf hasAttribute attributeValue walked waiting : Nat → Int32} {yroot yrowLength yfirst youts ytop : Int32} {ykind ywith ysize yparent yrow yends ylack yshortest youtKind youtWith ywork yworkWith yweight yfollow yfirsts ylasts ybare ymet ynameAt ytokenAt ytodo : Nat → Int32}
theorem ab_both {t e s : Nat} (hT : rl_T kindOfType listedCount attributeUse attributeType typeOfName) (ht : t < 6) (he : e < 24) (hs : kindOfType t = nI s) (hs0 : s = 1 ∨ s = 2) : ∀ m i, i + m = 4 → ∃ r : Int32, (∀ post : Int32 → Prop, post r → wX_statusOf_52 post (nI e) (nI t) drafted latestPlace positions fragments elementCount draftKind draftValue weights tokenAt fragmentBegin fragmentFirst fragmentLast fragmentEmpty reachedWith follow bearing accepting kindOfType leastOf greatestOf listedCount listedValue attributeUse attributeType typeOfName inUse nameOf parentOf kidCount kids hasValue valueOf hasAttribute attributeValue walked waiting (m + 1) (nI i)) ∧ ∀ (yrowLength yfirst : Int32) (yrow yends ylack yshortest : Nat → Int32) (post : Int32 → SY → Prop), post r (latestPlace, yroot, yrowLength, yfirst, youts, ytop, ykind, ywith, ysize, kindOfType, listedCount, attributeUse, attributeType, leastOf, greatestOf, listedValue, typeOfName, inUse, hasValue, hasAttribute, nameOf, yparent, kids, kidCount, yrow, valueOf, attributeValue, yends, ylack, yshortest, youtKind, youtWith, ywork, yworkWith, yweight, yfollow, yfirsts, ylasts, ybare, ymet, ynameAt, ytokenAt, ytodo) → wY_status_113 post (nI e) (nI t) latestPlace yroot yrowLength yfirst youts ytop ykind ywith ysize kindOfType listedCount attributeUse attributeType leastOf greatestOf listedValue typeOfName inUse hasValue hasAttribute nameOf yparent kids kidCount yrow valueOf attributeValue yends ylack yshortest youtKind youtWith ywork yworkWith yweight yfollow yfirsts ylasts ybare ymet ynameAt ytokenAt ytodo (m + 1) (nI i) := by
  intro m
  induction m with
  | zero =>
    intro i hi
    obtain rfl : i = 4 := by omega
    exact ⟨0, fun post p => br_t (by decide) p, fun yrowLength yfirst yrow yends ylack yshortest post p => br_t (by decide) p⟩
  | succ m ih =>
    intro i hi
    have n4 : ¬ (4 : Int32) ≤ nI i := nI_ge (b := 4) (by omega) (by omega)
    have ab : ∃ r r' : Int32, ((r = 0 ∧ r' = 1) ∨ (r = 1 ∧ r' = 0)) ∧ (∀ post : Int32 → Prop, post r → wpX_attributeFits post (drafted, latestPlace, positions, fragments, elementCount, draftKind, draftValue, weights, tokenAt, fragmentBegin, fragmentFirst, fragmentLast, fragmentEmpty, reachedWith, follow, bearing, accepting, kindOfType, leastOf, greatestOf, listedCount, listedValue, attributeUse, attributeType, typeOfName, inUse, nameOf, parentOf, kidCount, kids, hasValue, valueOf, hasAttribute, attributeValue, walked, waiting) (nI e) (nI t) (nI i)) ∧ ∀ (yrowLength yfirst : Int32) (yrow yends ylack yshortest : Nat → Int32) (post : Int32 → Prop), post r' → wpY_wrong post (latestPlace, yroot, yrowLength, yfirst, youts, ytop, ykind, ywith, ysize, kindOfType, listedCount, attributeUse, attributeType, leastOf, greatestOf, listedValue, typeOfName, inUse, hasValue, hasAttribute, nameOf, yparent, kids, kidCount, yrow, valueOf, attributeValue, yends, ylack, yshortest, youtKind, youtWith, ywork, yworkWith, yweight, yfollow, yfirsts, ylasts, ybare, ymet, ynameAt, ytokenAt, ytodo) (nI e) (nI t) (nI i) := at_both hT ht he (by omega) hs hs0
    obtain ⟨r, r', hr, rX, rY⟩ := ab
    rcases hr with ⟨rfl, rfl⟩ | ⟨rfl, rfl⟩
    · exact ⟨4, fun post p => br_f n4 (rX _ (br_t rfl p)), fun yrowLength yfirst yrow yends ylack yshortest post p => br_f n4 (rY _ _ _ _ _ _ _ (br_f nb_10 p))⟩
    · obtain ⟨r, iX, iY⟩ := ih (i + 1) (by omega)
      exact ⟨r, fun post p => br_f n4 (rX _ (br_f nb_10 (nm_r (nI_1 i) (iX post p)))), fun yrowLength yfirst yrow yends ylack yshortest post p => br_f n4 (rY _ _ _ _ _ _ _ (br_t rfl (nm_r (nI_1 i) (iY _ _ _ _ _ _ post p))))⟩
theorem st_both {e : Nat} {po : Nat → Option Nat} {c : Nat → Nat} {ch : Nat → Nat → Nat} {g rk : Nat → Nat} (hT : rl_T kindOfType listedCount attributeUse attributeType typeOfName) (hM : rl_M kindOfType follow bearing accepting ykind ywith ysize) (hE : rl_E1 inUse nameOf parentOf kidCount kids yparent po c ch g rk) (he : e < 24) (hu : inUse e ≠ 0) : ∃ r : Int32, (∀ post : Int32 → Prop, post r → wpX_statusOf post (drafted, latestPlace, positions, fragments, elementCount, draftKind, draftValue, weights, tokenAt, fragmentBegin, fragmentFirst, fragmentLast, fragmentEmpty, reachedWith, follow, bearing, accepting, kindOfType, leastOf, greatestOf, listedCount, listedValue, attributeUse, attributeType, typeOfName, inUse, nameOf, parentOf, kidCount, kids, hasValue, valueOf, hasAttribute, attributeValue, walked, waiting) (nI e)) ∧ ∀ (yrowLength yfirst : Int32) (yrow yends ylack yshortest : Nat → Int32) (post : Int32 → SY → Prop), (∀ (yrowLength yfirst : Int32) (yrow yends ylack yshortest : Nat → Int32), post r (latestPlace, yroot, yrowLength, yfirst, youts, ytop, ykind, ywith, ysize, kindOfType, listedCount, attributeUse, attributeType, leastOf, greatestOf, listedValue, typeOfName, inUse, hasValue, hasAttribute, nameOf, yparent, kids, kidCount, yrow, valueOf, attributeValue, yends, ylack, yshortest, youtKind, youtWith, ywork, yworkWith, yweight, yfollow, yfirsts, ylasts, ybare, ymet, ynameAt, ytokenAt, ytodo)) → wpY_status post (latestPlace, yroot, yrowLength, yfirst, youts, ytop, ykind, ywith, ysize, kindOfType, listedCount, attributeUse, attributeType, leastOf, greatestOf, listedValue, typeOfName, inUse, hasValue, hasAttribute, nameOf, yparent, kids, kidCount, yrow, valueOf, attributeValue, yends, ylack, yshortest, youtKind, youtWith, ywork, yworkWith, yweight, yfollow, yfirsts, ylasts, ybare, ymet, ynameAt, ytokenAt, ytodo) (nI e) := by
  obtain ⟨a1, a2, a3, a4, hI⟩ := hE
  have ve : vp_in (nI e) 24 := vp_in_nI he (by omega)
  have ee : (nI e).toNatClampNeg = e := nb_cl (by omega)
  obtain ⟨g1, g2⟩ := a2 e he
  have en : nameOf (nI e).toNatClampNeg = nI (g e) := by rw [ee]; exact g1
  have vn : vp_in (nI (g e)) 6 := vp_in_nI g2 (by omega)
  have cn : (nI (g e)).toNatClampNeg = g e := nb_cl (by omega)
  have h23 := tr_F_c hI.1 hu
  have ec : kidCount (nI e).toNatClampNeg = nI (c e) := by rw [ee]; exact (a3 e he hu).1
  have hk : ∀ i, i < c e → kids (24 * e + i) = nI (ch e i) ∧ ch e i < 24 := fun i hi => ⟨a4 e i he hu hi, hI.1.1 _ (hI.1.2.1 e i hu hi).1⟩
  rcases hT.2.2.2 (g e) g2 with tn | ⟨t, ht, tn⟩
  · -- no type
    refine ⟨1, fun post p => ⟨ve, by rw [en]; exact ⟨vn, nm_r (e' := -1) (by rw [cn]; exact tn) (br_t rfl p)⟩⟩, fun yrowLength yfirst yrow yends ylack yshortest post p => ?_⟩
    unfold wpY_status
    refine sy_no0 he hu ?_
    refine br_t rfl ?_
    refine ⟨ve, ?_⟩
    rw [en]
    exact ⟨vn, nm_r (e' := -1) (by rw [cn]; exact tn) (br_t (by decide) (br_f (by decide) (p _ _ _ _ _ _)))⟩
  · obtain ⟨s, hs3, hs⟩ := hT.1 t ht
    have vt : vp_in (nI t) 6 := vp_in_nI ht (by omega)
    have ct : (nI t).toNatClampNeg = t := nb_cl (by omega)
    have es : kindOfType (nI t).toNatClampNeg = nI s := by rw [ct]; exact hs
    have nm1 : ¬ nI t = -1 := nb_nm (by omega)
    by_cases s0 : s = 0
    · subst s0
      refine ⟨1, fun post p => ⟨ve, by rw [en]; exact ⟨vn, nm_r (e' := nI t) (by rw [cn]; exact tn) (br_f nm1 ⟨vt, br_t es p⟩)⟩⟩, fun yrowLength yfirst yrow yends ylack yshortest post p => ?_⟩
      unfold wpY_status
      refine sy_no0 he hu ?_
      refine br_t rfl ?_
      refine ⟨ve, ?_⟩
      rw [en]
      exact ⟨vn, nm_r (e' := nI t) (by rw [cn]; exact tn) (br_f (nI_pos (by omega)) ⟨vt, br_t es (br_f (by decide) (p _ _ _ _ _ _))⟩)⟩
    · have ns : ¬ kindOfType (nI t).toNatClampNeg = 0 := by rw [es]; exact nI_ne0 (by omega) (by omega)
      have X0 : ∀ {post : Int32 → Prop}, wpX_contentFits (fun r_7 => (r_7 = 0 → post 2) ∧ (¬ r_7 = 0 → wpX_valueFits (fun r_45 => (r_45 = 0 → post 3) ∧ (¬ r_45 = 0 → ∃ n52 : Nat, wX_statusOf_52 post (nI e) (nI t) drafted latestPlace positions fragments elementCount draftKind draftValue weights tokenAt fragmentBegin fragmentFirst fragmentLast fragmentEmpty reachedWith follow bearing accepting kindOfType leastOf greatestOf listedCount listedValue attributeUse attributeType typeOfName inUse nameOf parentOf kidCount kids hasValue valueOf hasAttribute attributeValue walked waiting n52 0)) (drafted, latestPlace, positions, fragments, elementCount, draftKind, draftValue, weights, tokenAt, fragmentBegin, fragmentFirst, fragmentLast, fragmentEmpty, reachedWith, follow, bearing, accepting, kindOfType, leastOf, greatestOf, listedCount, listedValue, attributeUse, attributeType, typeOfName, inUse, nameOf, parentOf, kidCount, kids, hasValue, valueOf, hasAttribute, attributeValue, walked, waiting) (nI e) (nI t))) (drafted, latestPlace, positions, fragments, elementCount, draftKind, draftValue, weights, tokenAt, fragmentBegin, fragmentFirst, fragmentLast, fragmentEmpty, reachedWith, follow, bearing, accepting, kindOfType, leastOf, greatestOf, listedCount, listedValue, attributeUse, attributeType, typeOfName, inUse, nameOf, parentOf, kidCount, kids, hasValue, valueOf, hasAttribute, attributeValue, walked, waiting) (nI e) (nI t) → wpX_statusOf post (drafted, latestPlace, positions, fragments, elementCount, draftKind, draftValue, weights, tokenAt, fragmentBegin, fragmentFirst, fragmentLast, fragmentEmpty, reachedWith, follow, bearing, accepting, kindOfType, leastOf, greatestOf, listedCount, listedValue, attributeUse, attributeType, typeOfName, inUse, nameOf, parentOf, kidCount, kids, hasValue, valueOf, hasAttribute, attributeValue, walked, waiting) (nI e) := fun h => ⟨ve, by rw [en]; exact ⟨vn, nm_r (e' := nI t) (by rw [cn]; exact tn) (br_f nm1 ⟨vt, br_f ns h⟩)⟩⟩
      have Y0 : ∀ {yrowLength yfirst : Int32} {yrow yends ylack yshortest : Nat → Int32} {post : Int32 → SY → Prop}, (kindOfType t = 1 → wY_status_37 post (nI e) (nI t) 1 latestPlace yroot yrowLength yfirst youts ytop ykind ywith ysize kindOfType listedCount attributeUse attributeType leastOf greatestOf listedValue typeOfName inUse hasValue hasAttribute nameOf yparent kids kidCount yrow valueOf attributeValue yends ylack yshortest youtKind youtWith ywork yworkWith yweight yfollow yfirsts ylasts ybare ymet ynameAt ytokenAt ytodo) → (¬ kindOfType t = 1 → wY_status_37 post (nI e) (nI t) 0 latestPlace yroot yrowLength yfirst youts ytop ykind ywith ysize kindOfType listedCount attributeUse attributeType leastOf greatestOf listedValue typeOfName inUse hasValue hasAttribute nameOf yparent kids kidCount yrow valueOf attributeValue yends ylack yshortest youtKind youtWith ywork yworkWith yweight yfollow yfirsts ylasts ybare ymet ynameAt ytokenAt ytodo) → wpY_status post (latestPlace, yroot, yrowLength, yfirst, youts, ytop, ykind, ywith, ysize, kindOfType, listedCount, attributeUse, attributeType, leastOf, greatestOf, listedValue, typeOfName, inUse, hasValue, hasAttribute, nameOf, yparent, kids, kidCount, yrow, valueOf, attributeValue, yends, ylack, yshortest, youtKind, youtWith, ywork, yworkWith, yweight, yfollow, yfirsts, ylasts, ybare, ymet, ynameAt, ytokenAt, ytodo) (nI e) := by
        intro yrowLength yfirst yrow yends ylack yshortest post h1 h2
        unfold wpY_status
        refine sy_no0 he hu ?_
        refine br_t rfl ?_
        refine ⟨ve, ?_⟩
        rw [en]
        refine ⟨vn, nm_r (e' := nI t) (by rw [cn]; exact tn) (br_f (nI_pos (by omega)) ⟨vt, br_f ns (br_t (nb_pos (by omega)) ⟨vt, ?_⟩)⟩)⟩
        rw [ct]
        exact br_c h1 h2
      have R0 : ∀ {yrowLength yfirst : Int32} {yrow yends ylack yshortest : Nat → Int32} {post : SY → Prop}, (∀ (yrowLength : Int32) (yrow : Nat → Int32), yrowLength = nI (c e) → (∀ i, i < c e → yrow i = nI (kn_w g ch e i)) → post (latestPlace, yroot, yrowLength, yfirst, youts, ytop, ykind, ywith, ysize, kindOfType, listedCount, attributeUse, attributeType, leastOf, greatestOf, listedValue, typeOfName, inUse, hasValue, hasAttribute, nameOf, yparent, kids, kidCount, yrow, valueOf, attributeValue, yends, ylack, yshortest, youtKind, youtWith, ywork, yworkWith, yweight, yfollow, yfirsts, ylasts, ybare, ymet, ynameAt, ytokenAt, ytodo)) → wpY_rowOf post (latestPlace, yroot, yrowLength, yfirst, youts, ytop, ykind, ywith, ysize, kindOfType, listedCount, attributeUse, attributeType, leastOf, greatestOf, listedValue, typeOfName, inUse, hasValue, hasAttribute, nameOf, yparent, kids, kidCount, yrow, valueOf, attributeValue, yends, ylack, yshortest, youtKind, youtWith, ywork, yworkWith, yweight, yfollow, yfirsts, ylasts, ybare, ymet, ynameAt, ytokenAt, ytodo) (nI e) := by
        intro yrowLength yfirst yrow yends ylack yshortest post h
        exact sy_rowOf he (by omega) (a3 e he hu).1 hk a2 (fun row hr => h _ row rfl hr)
      have ab : ∃ r : Int32, (∀ post : Int32 → Prop, post r → wX_statusOf_52 post (nI e) (nI t) drafted latestPlace positions fragments elementCount draftKind draftValue weights tokenAt fragmentBegin fragmentFirst fragmentLast fragmentEmpty reachedWith follow bearing accepting kindOfType leastOf greatestOf listedCount listedValue attributeUse attributeType typeOfName inUse nameOf parentOf kidCount kids hasValue valueOf hasAttribute attributeValue walked waiting (4 + 1) (nI 0)) ∧ ∀ (yrowLength yfirst : Int32) (yrow yends ylack yshortest : Nat → Int32) (post : Int32 → SY → Prop), post r (latestPlace, yroot, yrowLength, yfirst, youts, ytop, ykind, ywith, ysize, kindOfType, listedCount, attributeUse, attributeType, leastOf, greatestOf, listedValue, typeOfName, inUse, hasValue, hasAttribute, nameOf, yparent, kids, kidCount, yrow, valueOf, attributeValue, yends, ylack, yshortest, youtKind, youtWith, ywork, yworkWith, yweight, yfollow, yfirsts, ylasts, ybare, ymet, ynameAt, ytokenAt, ytodo) → wY_status_113 post (nI e) (nI t) latestPlace yroot yrowLength yfirst youts ytop ykind ywith ysize kindOfType listedCount attributeUse attributeType leastOf greatestOf listedValue typeOfName inUse hasValue hasAttribute nameOf yparent kids kidCount yrow valueOf attributeValue yends ylack yshortest youtKind youtWith ywork yworkWith yweight yfollow yfirsts ylasts ybare ymet ynameAt ytokenAt ytodo (4 + 1) (nI 0) := ab_both hT ht he hs (by omega) 4 0 (by omega)
      obtain ⟨rA, aX, aY⟩ := ab
      have eh : hasValue (nI e).toNatClampNeg = hasValue e := by rw [ee]
      have evo : valueOf (nI e).toNatClampNeg = valueOf e := by rw [ee]
      by_cases s1 : s = 1
      · -- SIMPLE
        subst s1
        have k1 : kindOfType t = 1 := hs
        have k1' : kindOfType (nI t).toNatClampNeg = 1 := es
        have k2' : ¬ kindOfType (nI t).toNatClampNeg = 2 := by rw [es]; decide
        have Y1 : ∀ {yrowLength yfirst : Int32} {yrow yends ylack yshortest : Nat → Int32} {post : Int32 → SY → Prop}, (∀ (yrowLength : Int32) (yrow : Nat → Int32), (c e = 0 → wY_status_69 post (nI e) (nI t) 1 latestPlace yroot yrowLength yfirst youts ytop ykind ywith ysize kindOfType listedCount attributeUse attributeType leastOf greatestOf listedValue typeOfName inUse hasValue hasAttribute nameOf yparent kids kidCount yrow valueOf attributeValue yends ylack yshortest youtKind youtWith ywork yworkWith yweight yfollow yfirsts ylasts ybare ymet ynameAt ytokenAt ytodo) ∧ (c e ≠ 0 → post 2 (latestPlace, yroot, yrowLength, yfirst, youts, ytop, ykind, ywith, ysize, kindOfType, listedCount, attributeUse, attributeType, leastOf, greatestOf, listedValue, typeOfName, inUse, hasValue, hasAttribute, nameOf, yparent, kids, kidCount, yrow, valueOf, attributeValue, yends, ylack, yshortest, youtKind, youtWith, ywork, yworkWith, yweight, yfollow, yfirsts, ylasts, ybare, ymet, ynameAt, ytokenAt, ytodo))) → wpY_status post (latestPlace, yroot, yrowLength, yfirst, youts, ytop, ykind, ywith, ysize, kindOfType, listedCount, attributeUse, attributeType, leastOf, greatestOf, listedValue, typeOfName, inUse, hasValue, hasAttribute, nameOf, yparent, kids, kidCount, yrow, valueOf, attributeValue, yends, ylack, yshortest, youtKind, youtWith, ywork, yworkWith, yweight, yfollow, yfirsts, ylasts, ybare, ymet, ynameAt, ytokenAt, ytodo) (nI e) := by
          intro yrowLength yfirst yrow yends ylack yshortest post h
          refine Y0 (fun _ => ?_) (fun q => absurd k1 q)
          unfold wY_status_37
          refine R0 (fun yrowLength yrow _ _ => ?_)
          refine br_f nb_10 ⟨ve, ?_⟩
          rw [ec]
          exact pk_le (c e) 0 (fun q => (h _ _).1 (by omega)) (fun q => (h _ _).2 (by omega))
        by_cases c0 : c e = 0
        · have XC : ∀ {post : Int32 → Prop}, post 1 → wpX_contentFits post (drafted, latestPlace, positions, fragments, elementCount, draftKind, draftValue, weights, tokenAt, fragmentBegin, fragmentFirst, fragmentLast, fragmentEmpty, reachedWith, follow, bearing, accepting, kindOfType, leastOf, greatestOf, listedCount, listedValue, attributeUse, attributeType, typeOfName, inUse, nameOf, parentOf, kidCount, kids, hasValue, valueOf, hasAttribute, attributeValue, walked, waiting) (nI e) (nI t) := fun p => ⟨vt, br_t k1' ⟨ve, br_t (by rw [ec, c0]; rfl) p⟩⟩
          by_cases hv : hasValue e = 0
          · refine ⟨3, fun post p => X0 (XC (br_f nb_10 ⟨vt, br_f k2' ⟨ve, br_t (by rw [eh]; exact hv) (br_t rfl p)⟩⟩)), fun yrowLength yfirst yrow yends ylack yshortest post p => Y1 (fun _ _ => ⟨fun _ => br_f nb_10 ⟨ve, br_t (by rw [eh]; exact hv) (p _ _ _ _ _ _)⟩, fun q => absurd c0 q⟩)⟩
          · obtain ⟨m, hm, em⟩ := hT.2.1 t ht
            have ib : ∃ r : Int32, (r = 0 ∨ r = 1) ∧ (∀ post : Int32 → Prop, post r → wpX_isOfSimple post (drafted, latestPlace, positions, fragments, elementCount, draftKind, draftValue, weights, tokenAt, fragmentBegin, fragmentFirst, fragmentLast, fragmentEmpty, reachedWith, follow, bearing, accepting, kindOfType, leastOf, greatestOf, listedCount, listedValue, attributeUse, attributeType, typeOfName, inUse, nameOf, parentOf, kidCount, kids, hasValue, valueOf, hasAttribute, attributeValue, walked, waiting) (nI t) (valueOf e)) ∧ ∀ (yrowLength yfirst : Int32) (yrow yends ylack yshortest : Nat → Int32) (post : Int32 → Prop), post r → wpY_isOf post (latestPlace, yroot, yrowLength, yfirst, youts, ytop, ykind, ywith, ysize, kindOfType, listedCount, attributeUse, attributeType, leastOf, greatestOf, listedValue, typeOfName, inUse, hasValue, hasAttribute, nameOf, yparent, kids, kidCount, yrow, valueOf, attributeValue, yends, ylack, yshortest, youtKind, youtWith, ywork, yworkWith, yweight, yfollow, yfirsts, ylasts, ybare, ymet, ynameAt, ytokenAt, ytodo) (valueOf e) (nI t) := is_both ht k1 hm em
            obtain ⟨r, hr, rX, rY⟩ := ib
            have X2 : ∀ {post : Int32 → Prop}, ((r = 0 → post 3) ∧ (¬ r = 0 → post rA)) → wpX_statusOf post (drafted, latestPlace, positions, fragments, elementCount, draftKind, draftValue, weights, tokenAt, fragmentBegin, fragmentFirst, fragmentLast, fragmentEmpty, reachedWith, follow, bearing, accepting, kindOfType, leastOf, greatestOf, listedCount, listedValue, attributeUse, attributeType, typeOfName, inUse, nameOf, parentOf, kidCount, kids, hasValue, valueOf, hasAttribute, attributeValue, walked, waiting) (nI e) := by
              intro post p
              refine X0 (XC (br_f nb_10 ⟨vt, br_f k2' ⟨ve, br_f (by rw [eh]; exact hv) ⟨ve, ?_⟩⟩⟩))
              rw [evo]
              rcases hr with rfl | rfl
              · exact rX _ (br_t rfl (br_t rfl (p.1 rfl)))
              · exact rX _ (br_f nb_10 (br_f nb_10 ⟨5, aX _ (p.2 nb_10)⟩))
            have Y2 : ∀ {yrowLength yfirst : Int32} {yrow yends ylack yshortest : Nat → Int32} {post : Int32 → SY → Prop}, ((r = 0 → ∀ (yrowLength yfirst : Int32) (yrow yends ylack yshortest : Nat → Int32), post 3 (latestPlace, yroot, yrowLength, yfirst, youts, ytop, ykind, ywith, ysize, kindOfType, listedCount, attributeUse, attributeType, leastOf, greatestOf, listedValue, typeOfName, inUse, hasValue, hasAttribute, nameOf, yparent, kids, kidCount, yrow, valueOf, attributeValue, yends, ylack, yshortest, youtKind, youtWith, ywork, yworkWith, yweight, yfollow, yfirsts, ylasts, ybare, ymet, ynameAt, ytokenAt, ytodo)) ∧ (¬ r = 0 → ∀ (yrowLength yfirst : Int32) (yrow yends ylack yshortest : Nat → Int32), post rA (latestPlace, yroot, yrowLength, yfirst, youts, ytop, ykind, ywith, ysize, kindOfType, listedCount, attributeUse, attributeType, leastOf, greatestOf, listedValue, typeOfName, inUse, hasValue, hasAttribute, nameOf, yparent, kids, kidCount, yrow, valueOf, attributeValue, yends, ylack, yshortest, youtKind, youtWith, ywork, yworkWith, yweight, yfollow, yfirsts, ylasts, ybare, ymet, ynameAt, ytokenAt, ytodo))) → wpY_status post (latestPlace, yroot, yrowLength, yfirst, youts, ytop, ykind, ywith, ysize, kindOfType, listedCount, attributeUse, attributeType, leastOf, greatestOf, listedValue, typeOfName, inUse, hasValue, hasAttribute, nameOf, yparent, kids, kidCount, yrow, valueOf, attributeValue, yends, ylack, yshortest, youtKind, youtWith, ywork, yworkWith, yweight, yfollow, yfirsts, ylasts, ybare, ymet, ynameAt, ytokenAt, ytodo) (nI e) := by
              intro yrowLength yfirst yrow yends ylack yshortest post p
              refine Y1 (fun _ _ => ⟨fun _ => br_f nb_10 ⟨ve, br_f (by rw [eh]; exact hv) ⟨ve, ?_⟩⟩, fun q => absurd c0 q⟩)
              rw [evo]
              rcases hr with rfl | rfl
              · exact rY _ _ _ _ _ _ _ (br_t rfl (p.1 rfl _ _ _ _ _ _))
              · exact rY _ _ _ _ _ _ _ (br_f nb_10 ⟨5, aY _ _ _ _ _ _ _ (p.2 nb_10 _ _ _ _ _ _)⟩)
            by_cases r0 : r = 0
            · exact ⟨3, fun post p => X2 ⟨fun _ => p, fun q => absurd r0 q⟩, fun yrowLength yfirst yrow yends ylack yshortest post p => Y2 ⟨fun _ => p, fun q => absurd r0 q⟩⟩
            · exact ⟨rA, fun post p => X2 ⟨fun q => absurd q r0, fun _ => p⟩, fun yrowLength yfirst yrow yends ylack yshortest post p => Y2 ⟨fun q => absurd q r0, fun _ => p⟩⟩
        · exact ⟨2, fun post p => X0 ⟨vt, br_t k1' ⟨ve, br_f (by rw [ec]; exact nI_ne0 (by omega) (by omega)) (br_t rfl p)⟩⟩, fun yrowLength yfirst yrow yends ylack yshortest post p => Y1 (fun _ _ => ⟨fun q => absurd q c0, fun _ => p _ _ _ _ _ _⟩)⟩
      · -- COMPLEX
        obtain rfl : s = 2 := by omega
        have k1 : ¬ kindOfType t = 1 := by rw [hs]; decide
        have k1' : ¬ kindOfType (nI t).toNatClampNeg = 1 := by rw [es]; decide
        have k2' : kindOfType (nI t).toNatClampNeg = 2 := es
        obtain ⟨kd, vl, R, m1, m2, m3, m4, m5, m6, m7⟩ := hM t ht hs
        have hrn : ∀ i, i < c e → kn_w g ch e i < 6 := fun i hi => (a2 _ (hk i hi).2).2
        have hN : xa_N (dp_sl (kn_w g ch e) (c e) 0) := by
          have key : ∀ n a, a + n ≤ c e → xa_N (dp_sl (kn_w g ch e) n a) := by
            intro n
            induction n with
            | zero => intro a _ x hx; cases hx
            | succ n ih => intro a ha; exact xa_N_cons.mpr ⟨hrn a (by omega), ih (a + 1) (by omega)⟩
          exact key (c e) 0 (by omega)
        have XC : ∀ {post : Int32 → Prop}, (ex_L vl R (dp_sl (kn_w g ch e) (c e) 0) → post 1) → (¬ ex_L vl R (dp_sl (kn_w g ch e) (c e) 0) → post 0) → wpX_contentFits post (drafted, latestPlace, positions, fragments, elementCount, draftKind, draftValue, weights, tokenAt, fragmentBegin, fragmentFirst, fragmentLast, fragmentEmpty, reachedWith, follow, bearing, accepting, kindOfType, leastOf, greatestOf, listedCount, listedValue, attributeUse, attributeType, typeOfName, inUse, nameOf, parentOf, kidCount, kids, hasValue, valueOf, hasAttribute, attributeValue, walked, waiting) (nI e) (nI t) := by
          intro post h1 h0
          refine ⟨vt, br_f k1' ⟨ve, ?_⟩⟩
          rw [ec]
          refine sx_afterKids (fr := 0) (g := g) (ch := ch) (by omega) he (by omega) (by omega) hk a2 ?_
          refine ⟨vp_in_nI (by omega) (by omega), ?_⟩
          rw [ct]
          have acc := xa_acc m7 hN
          by_cases hL : ex_L vl R (dp_sl (kn_w g ch e) (c e) 0)
          · exact br_f (acc.mpr hL) (h1 hL)
          · exact br_t (Classical.byContradiction (fun q => hL (acc.mp q))) (h0 hL)
        have Y1 : ∀ {yrowLength yfirst : Int32} {yrow yends ylack yshortest : Nat → Int32} {post : Int32 → SY → Prop}, (ex_L vl R (dp_sl (kn_w g ch e) (c e) 0) → ∀ (yrowLength yfirst : Int32) (yrow yends ylack yshortest : Nat → Int32), wY_status_69 post (nI e) (nI t) 0 latestPlace yroot yrowLength yfirst youts ytop ykind ywith ysize kindOfType listedCount attributeUse attributeType leastOf greatestOf listedValue typeOfName inUse hasValue hasAttribute nameOf yparent kids kidCount yrow valueOf attributeValue yends ylack yshortest youtKind youtWith ywork yworkWith yweight yfollow yfirsts ylasts ybare ymet ynameAt ytokenAt ytodo) → (¬ ex_L vl R (dp_sl (kn_w g ch e) (c e) 0) → ∀ (yrowLength yfirst : Int32) (yrow yends ylack yshortest : Nat → Int32), post 2 (latestPlace, yroot, yrowLength, yfirst, youts, ytop, ykind, ywith, ysize, kindOfType, listedCount, attributeUse, attributeType, leastOf, greatestOf, listedValue, typeOfName, inUse, hasValue, hasAttribute, nameOf, yparent, kids, kidCount, yrow, valueOf, attributeValue, yends, ylack, yshortest, youtKind, youtWith, ywork, yworkWith, yweight, yfollow, yfirsts, ylasts, ybare, ymet, ynameAt, ytokenAt, ytodo)) → wpY_status post (latestPlace, yroot, yrowLength, yfirst, youts, ytop, ykind, ywith, ysize, kindOfType, listedCount, attributeUse, attributeType, leastOf, greatestOf, listedValue, typeOfName, inUse, hasValue, hasAttribute, nameOf, yparent, kids, kidCount, yrow, valueOf, attributeValue, yends, ylack, yshortest, youtKind, youtWith, ywork, yworkWith, yweight, yfollow, yfirsts, ylasts, ybare, ymet, ynameAt, ytokenAt, ytodo) (nI e) := by
          intro yrowLength yfirst yrow yends ylack yshortest post h1 h0
          refine Y0 (fun q => absurd q k1) (fun _ => ?_)
          unfold wY_status_37
          refine R0 (fun yrowLength yrow hrl hrow => ?_)
          subst hrl
          refine br_t rfl ?_
          exact sy_isWord (w := kn_w g ch e) ht (by omega) (fun i hi => ⟨hrow i hi, hrn i hi⟩) m2 m1 m3 m4 m5 m6 (fun hL f sh en lk => br_f nb_10 (h1 hL _ _ _ _ _ _)) (fun hL f sh en lk => br_t rfl (h0 hL _ _ _ _ _ _))
        by_cases hL : ex_L vl R (dp_sl (kn_w g ch e) (c e) 0)
        · by_cases hv : hasValue e = 0
          · refine ⟨rA, fun post p => X0 (XC (fun _ => br_f nb_10 ⟨vt, br_t k2' ⟨ve, br_t (by rw [eh]; exact hv) (br_f nb_10 ⟨5, aX _ p⟩)⟩⟩) (fun q => absurd hL q)), fun yrowLength yfirst yrow yends ylack yshortest post p => Y1 (fun _ yrowLength yfirst yrow yends ylack yshortest => br_t rfl ⟨ve, br_t (by rw [eh]; exact hv) ⟨5, aY _ _ _ _ _ _ _ (p _ _ _ _ _ _)⟩⟩) (fun q => absurd hL q)⟩
          · refine ⟨3, fun post p => X0 (XC (fun _ => br_f nb_10 ⟨vt, br_t k2' ⟨ve, br_f (by rw [eh]; exact hv) (br_t rfl p)⟩⟩) (fun q => absurd hL q)), fun yrowLength yfirst yrow yends ylack yshortest post p => Y1 (fun _ yrowLength yfirst yrow yends ylack yshortest => br_t rfl ⟨ve, br_f (by rw [eh]; exact hv) (p _ _ _ _ _ _)⟩) (fun q => absurd hL q)⟩
        · exact ⟨2, fun post p => X0 (XC (fun q => absurd q hL) (fun _ => br_t rfl p)), fun yrowLength yfirst yrow yends ylack yshortest post p => Y1 (fun q => absurd q hL) (fun _ => p)⟩
end
theorem i_vc_status {k : Nat} {u : SX} {v : SY} (I : i_Rel k u v) (hk : k + 5 ≤ 2560) (v1 : Int32) : wpX_status (fun r => wpY_status (fun r' v' => r' = r ∧ i_Rel (k + 5) u v') v v1) u v1 := by
  refine i_el I (P := fun u v => wpX_status (fun r => wpY_status (fun r' v' => r' = r ∧ i_Rel (k + 5) u v') v v1) u v1) ?_
  intro d latestPlace positions fragments elementCount draftKind draftValue weights tokenAt fragmentBegin fragmentFirst fragmentLast fragmentEmpty reachedWith follow bearing accepting kindOfType leastOf greatestOf listedCount listedValue attributeUse attributeType typeOfName inUse nameOf parentOf kidCount kids hasValue valueOf hasAttribute attributeValue walked waiting yroot yrowLength yfirst youts ytop ykind ywith ysize yparent yrow yends ylack yshortest youtKind youtWith ywork yworkWith yweight yfollow yfirsts ylasts ybare ymet ynameAt ytokenAt ytodo hD hT hM hE
  unfold wpX_status
  rcases el_cs inUse v1 with hv | ⟨e, he, rfl, hu⟩
  · refine sx_elem0 hv ?_
    refine br_t rfl ?_
    unfold wpY_status
    refine sy_no1 hv ?_
    refine br_f nb_10 ?_
    exact ⟨rfl, i_mk hD hT hM hE⟩
  · refine sx_elem1 he hu ?_
    refine br_f nb_10 ?_
    have hE' := hE
    obtain ⟨_, _, _, po, c, ch, g, rk, hE1⟩ := hE'
    have sb : ∃ r : Int32, (∀ post : Int32 → Prop, post r → wpX_statusOf post (nI d, latestPlace, positions, fragments, elementCount, draftKind, draftValue, weights, tokenAt, fragmentBegin, fragmentFirst, fragmentLast, fragmentEmpty, reachedWith, follow, bearing, accepting, kindOfType, leastOf, greatestOf, listedCount, listedValue, attributeUse, attributeType, typeOfName, inUse, nameOf, parentOf, kidCount, kids, hasValue, valueOf, hasAttribute, attributeValue, walked, waiting) (nI e)) ∧ ∀ (yrowLength yfirst : Int32) (yrow yends ylack yshortest : Nat → Int32) (post : Int32 → SY → Prop), (∀ (yrowLength yfirst : Int32) (yrow yends ylack yshortest : Nat → Int32), post r (latestPlace, yroot, yrowLength, yfirst, youts, ytop, ykind, ywith, ysize, kindOfType, listedCount, attributeUse, attributeType, leastOf, greatestOf, listedValue, typeOfName, inUse, hasValue, hasAttribute, nameOf, yparent, kids, kidCount, yrow, valueOf, attributeValue, yends, ylack, yshortest, youtKind, youtWith, ywork, yworkWith, yweight, yfollow, yfirsts, ylasts, ybare, ymet, ynameAt, ytokenAt, ytodo)) → wpY_status post (latestPlace, yroot, yrowLength, yfirst, youts, ytop, ykind, ywith, ysize, kindOfType, listedCount, attributeUse, attributeType, leastOf, greatestOf, listedValue, typeOfName, inUse, hasValue, hasAttribute, nameOf, yparent, kids, kidCount, yrow, valueOf, attributeValue, yends, ylack, yshortest, youtKind, youtWith, ywork, yworkWith, yweight, yfollow, yfirsts, ylasts, ybare, ymet, ynameAt, ytokenAt, ytodo) (nI e) := st_both hT hM hE1 he hu
    obtain ⟨r, rX, rY⟩ := sb
    exact rX _ (rY _ _ _ _ _ _ _ (fun yrowLength yfirst yrow yends ylack yshortest => ⟨rfl, i_mk hD hT hM hE⟩))
end
section
/-! ===== check: the order of the document ===== -/
def ck_o (po : Nat → Option Nat) (c : Nat → Nat) (ch : Nat → Nat → Nat) : List Nat → List Nat → Prop
  | [], _ => False
  | x :: l, st => match l with
    | [] => ∃ d r, tr_R po c ch d x r ∧ st = tr_kf ch x (c x) 0 ++ r
    | y :: _ => (∃ d r rest, tr_R po c ch d x r ∧ tr_kf ch x (c x) 0 ++ r = y :: rest) ∧ ck_o po c ch l st
theorem ck_R {us : Nat → Prop} {po : Nat → Option Nat} {c : Nat → Nat} {ch : Nat → Nat → Nat} {rk : Nat → Nat} (hI : tr_I us po c ch rk) {x d e : Nat} {r st : List Nat} (hx : us x) (h : tr_R po c ch d x r) (he : tr_kf ch x (c x) 0 ++ r = e :: st) : ∃ d', tr_R po c ch d' e st := by
  rcases Nat.eq_zero_or_pos (c x) with c0 | c0
  · rw [c0] at he
    have he' : r = e :: st := he
    rw [he'] at h
    -- along the way up all are elements
    have key : ∀ d x l, us x → tr_R po c ch d x (e :: l) → ∃ d', tr_R po c ch d' e l := by
      intro d
      induction d with
      | zero => rintro x l _ ⟨_, h⟩; cases h
      | succ d ih =>
        rintro x l hx ⟨p, k, l', h1, h2, h3, h4, h5⟩
        have up := (tr_up hI hx h1).1
        by_cases hc : k + 1 < c p
        · have e1 : c p - (k + 1) = (c p - (k + 1 + 1)) + 1 := by omega
          rw [e1] at h4
          have h4' : e :: l = ch p (k + 1) :: (tr_kf ch p (c p - (k + 1 + 1)) (k + 1 + 1) ++ l') := h4
          have h6 := List.cons.inj h4'
          have hp := (hI.1.2.1 p (k + 1) up hc).2.1
          rw [← h6.1] at hp
          exact ⟨d + 1, p, k + 1, l', hp, hc, h6.1.symm, h6.2, h5⟩
        · rw [show c p - (k + 1) = 0 by omega] at h4
          have h4' : e :: l = l' := h4
          rw [← h4'] at h5
          exact ih p l up h5
    exact key d x st hx h
  · have e1 : c x = (c x - 1) + 1 := by omega
    rw [e1] at he
    have he' : ch x 0 :: (tr_kf ch x (c x - 1) 1 ++ r) = e :: st := he
    have h6 := List.cons.inj he'
    have hp := (hI.1.2.1 x 0 hx c0).2.1
    have := tr_R_kid h c0 hp
    rw [h6.1, h6.2] at this
    exact ⟨d + 1, this⟩
theorem ck_s {us : Nat → Prop} {po : Nat → Option Nat} {c : Nat → Nat} {ch : Nat → Nat → Nat} {rk : Nat → Nat} (hI : tr_I us po c ch rk) {e : Nat} {st : List Nat} : ∀ ws : List Nat, (∀ x, x ∈ ws → us x) → ck_o po c ch ws (e :: st) → ck_o po c ch (ws ++ [e]) (tr_kf ch e (c e) 0 ++ st) := by
  intro ws
  induction ws with
  | nil => intro _ h; exact h.elim
  | cons x l ih =>
    intro hu h
    cases l with
    | nil =>
      obtain ⟨d, r, h1, h2⟩ := h
      obtain ⟨d', h3⟩ := ck_R hI (hu x List.mem_cons_self) h1 h2.symm
      exact ⟨⟨d, r, st, h1, h2.symm⟩, d', st, h3, rfl⟩
    | cons y l => exact ⟨h.1, ih (fun z hz => hu z (List.mem_cons_of_mem _ hz)) h.2⟩
def ck_f (σ : Nat → Int32) : List Nat → Nat → Int32 → Nat × Int32
  | [], b, f => (b, f)
  | x :: l, b, f => if σ x = 0 then ck_f σ l b f else ck_f σ l (b + 1) (if b = 0 then nI x else f)
section
variable {drafted latestPlace positions fragments elementCount : Int32} {draftKind draftValue weights tokenAt fragmentBegin fragmentFirst fragmentLast fragmentEmpty reachedWith follow bearing accepting kindOfType leastOf greatestOf listedCount listedValue attributeUse attributeType typeOfName inUse nameOf parentOf kidCount kids hasValue valueOf hasAttribute attributeValue walked waiting : Nat → Int32} {yroot yrowLength yfirst youts ytop : Int32} {ykind ywith ysize yparent yrow yends ylack yshortest youtKind youtWith ywork yworkWith yweight yfollow yfirsts ylasts ybare ymet ynameAt ytokenAt ytodo : Nat → Int32}
theorem sx_chk46 {post : Int32 → SX → Prop} {ws : List Nat} {wh : Int32} {σ : Nat → Int32} (hwk : wk_R walked ws) (hl : ws.length ≤ 24) (hσ : ∀ x, x ∈ ws → x < 24 ∧ ∀ post : Int32 → Prop, post (σ x) → wpX_statusOf post (drafted, latestPlace, positions, fragments, elementCount, draftKind, draftValue, weights, tokenAt, fragmentBegin, fragmentFirst, fragmentLast, fragmentEmpty, reachedWith, follow, bearing, accepting, kindOfType, leastOf, greatestOf, listedCount, listedValue, attributeUse, attributeType, typeOfName, inUse, nameOf, parentOf, kidCount, kids, hasValue, valueOf, hasAttribute, attributeValue, walked, waiting) (nI x)) : ∀ (m i b : Nat) (f : Int32), i + m = ws.length → b ≤ i → ((wh = 0 → post (nI (ck_f σ (ws.drop i) b f).1) (drafted, latestPlace, positions, fragments, elementCount, draftKind, draftValue, weights, tokenAt, fragmentBegin, fragmentFirst, fragmentLast, fragmentEmpty, reachedWith, follow, bearing, accepting, kindOfType, leastOf, greatestOf, listedCount, listedValue, attributeUse, attributeType, typeOfName, inUse, nameOf, parentOf, kidCount, kids, hasValue, valueOf, hasAttribute, attributeValue, walked, waiting)) ∧ (¬ wh = 0 → post (ck_f σ (ws.drop i) b f).2 (drafted, latestPlace, positions, fragments, elementCount, draftKind, draftValue, weights, tokenAt, fragmentBegin, fragmentFirst, fragmentLast, fragmentEmpty, reachedWith, follow, bearing, accepting, kindOfType, leastOf, greatestOf, listedCount, listedValue, attributeUse, attributeType, typeOfName, inUse, nameOf, parentOf, kidCount, kids, hasValue, valueOf, hasAttribute, attributeValue, walked, waiting))) → wX_check_46 post wh (nI ws.length) drafted latestPlace positions fragments elementCount draftKind draftValue weights tokenAt fragmentBegin fragmentFirst fragmentLast fragmentEmpty reachedWith follow bearing accepting kindOfType leastOf greatestOf listedCount listedValue attributeUse attributeType typeOfName inUse nameOf parentOf kidCount kids hasValue valueOf hasAttribute attributeValue walked waiting (m + 1) (nI b) f (nI i) := by
  intro m
  induction m with
  | zero =>
    intro i b f hi hb h
    rw [List.drop_eq_nil_of_le (by omega)] at h
    exact br_t (nI_le (by omega) (by omega)) h
  | succ m ih =>
    intro i b f hi hb h
    have hi' : i < ws.length := by omega
    have hx : ws[i]? = some ws[i] := List.getElem?_eq_getElem hi'
    obtain ⟨x24, hX⟩ := hσ ws[i] (List.getElem_mem hi')
    rw [List.drop_eq_getElem_cons hi'] at h
    have ew : walked (nI i).toNatClampNeg = nI ws[i] := by rw [nb_cl (by omega)]; exact hwk i _ hx
    refine br_f (nI_ge (by omega) (by omega)) ⟨vp_in_nI (by omega) (by omega), ?_⟩
    rw [ew]
    refine hX _ ?_
    by_cases s0 : σ ws[i] = 0
    · simp only [ck_f, if_pos s0] at h
      exact br_t s0 (nm_r (nI_1 i) (ih (i + 1) b f (by omega) (by omega) h))
    · simp only [ck_f, if_neg s0] at h
      refine br_f s0 ?_
      by_cases b0 : b = 0
      · rw [if_pos b0] at h
        exact br_t (by rw [b0]; rfl) ⟨vp_in_nI (by omega) (by omega), nm_r (e' := nI ws[i]) (by first | rfl | exact ew) (nm_r (nI_1 b) (nm_r (nI_1 i) (ih (i + 1) (b + 1) _ (by omega) (by omega) h)))⟩
      · rw [if_neg b0] at h
        exact br_f (nI_ne0 (by omega) (by omega)) (nm_r (nI_1 b) (nm_r (nI_1 i) (ih (i + 1) (b + 1) f (by omega) (by omega) h)))
theorem nb_24x (x : Nat) : 24 * nI x = nI (24 * x) := pk_mul 24 x
theorem sy_nxt40 {post : Int32 → Prop} {J : Int32 → Prop} {x p k c : Nat} {ch : Nat → Nat → Nat} (hp : p < 24) (hc : c ≤ 23) (hct : kidCount p = nI c) (hk : ∀ i, i < c → (kids (24 * p + i) = nI x ↔ i = k)) (hkc : k < c) (h1 : c ≤ k + 1 → J (nI p)) (h0 : k + 1 < c → post (kids (24 * p + (k + 1)))) : ∀ m i, i + m = k → wY_next_40 post J (nI x) (nI p) latestPlace yroot yrowLength yfirst youts ytop ykind ywith ysize kindOfType listedCount attributeUse attributeType leastOf greatestOf listedValue typeOfName inUse hasValue hasAttribute nameOf yparent kids kidCount yrow valueOf attributeValue yends ylack yshortest youtKind youtWith ywork yworkWith yweight yfollow yfirsts ylasts ybare ymet ynameAt ytokenAt ytodo (m + 1) (nI i) := by
  intro m
  induction m with
  | zero =>
    intro i hi
    obtain rfl : i = k := by omega
    show vp_in (24 * nI p + nI i) 600 ∧ _
    rw [nb_24m, nI_1, nI_1]
    refine ⟨vp_in_nI (by omega) (by omega), br_t (by rw [nb_cl (by omega)]; exact (hk i hkc).mpr rfl) ⟨vp_in_nI hp (by omega), ?_⟩⟩
    rw [nb_cl (by omega), nb_cl (by omega)]
    exact pk_le c (i + 1) h1 (fun h => ⟨vp_in_nI (by omega) (by omega), h0 h⟩) hct
  | succ m ih =>
    intro i hi
    show vp_in (24 * nI p + nI i) 600 ∧ _
    rw [nb_24m]
    exact ⟨vp_in_nI (by omega) (by omega), br_f (by rw [nb_cl (by omega)]; exact fun e => absurd ((hk i (by omega)).mp e) (by omega)) (nm_r (nI_1 i) (ih (i + 1) (by omega)))⟩
theorem sy_nxt21 {post : Int32 → Prop} {po : Nat → Option Nat} {c : Nat → Nat} {ch : Nat → Nat → Nat} {g rk : Nat → Nat} (hE : rl_E1 inUse nameOf parentOf kidCount kids yparent po c ch g rk) : ∀ (d x : Nat) (r : List Nat), inUse x ≠ 0 → tr_R po c ch d x r → (r = [] → post (-1)) → (∀ y l, r = y :: l → post (nI y)) → wY_next_21 post latestPlace yroot yrowLength yfirst youts ytop ykind ywith ysize kindOfType listedCount attributeUse attributeType leastOf greatestOf listedValue typeOfName inUse hasValue hasAttribute nameOf yparent kids kidCount yrow valueOf attributeValue yends ylack yshortest youtKind youtWith ywork yworkWith yweight yfollow yfirsts ylasts ybare ymet ynameAt ytokenAt ytodo (d + 1) (nI x) := by
  obtain ⟨a1, a2, a3, a4, hI⟩ := hE
  intro d
  induction d with
  | zero =>
    rintro x r hx ⟨h1, h2⟩ p0 p1
    have x24 := hI.1.1 x hx
    have ep : yparent (nI x).toNatClampNeg = -1 := by rw [nb_cl (by omega), (a3 x x24 hx).2.2, h1]; rfl
    exact ⟨vp_in_nI x24 (by omega), br_t (by rw [ep]; decide) (p0 h2)⟩
  | succ d ih =>
    rintro x r hx ⟨p, k, l', h1, h2, h3, h4, h5⟩ p0 p1
    have x24 := hI.1.1 x hx
    have up := (tr_up hI hx h1).1
    have p24 := hI.1.1 p up
    have ep : yparent (nI x).toNatClampNeg = nI p := by rw [nb_cl (by omega), (a3 x x24 hx).2.2, h1]; rfl
    have vx : vp_in (nI x) 24 := vp_in_nI x24 (by omega)
    refine ⟨vx, br_f (by rw [ep]; exact nI_pos (by omega)) ⟨vx, nm_r ep ⟨k + 1, ?_⟩⟩⟩
    have h23 := tr_F_c hI.1 up
    refine sy_nxt40 (c := c p) (k := k) (ch := ch) p24 h23 (a3 p p24 up).1 (rl_kid hI.1 a4 up h2 h3) h2 (fun hle => ?_) (fun hlt => ?_) k 0 (by omega)
    · rw [show c p - (k + 1) = 0 by omega] at h4
      have h4' : r = l' := h4
      rw [h4'] at p0 p1
      exact ih p l' up h5 p0 p1
    · rw [a4 p (k + 1) p24 up hlt]
      have e1 : c p - (k + 1) = (c p - (k + 1 + 1)) + 1 := by omega
      rw [e1] at h4
      exact p1 (ch p (k + 1)) _ h4
theorem sy_next {post : Int32 → Prop} {po : Nat → Option Nat} {c : Nat → Nat} {ch : Nat → Nat → Nat} {g rk : Nat → Nat} (hE : rl_E1 inUse nameOf parentOf kidCount kids yparent po c ch g rk) {d x : Nat} {r : List Nat} (hx : inUse x ≠ 0) (hR : tr_R po c ch d x r) (p0 : tr_kf ch x (c x) 0 ++ r = [] → post (-1)) (p1 : ∀ y l, tr_kf ch x (c x) 0 ++ r = y :: l → post (nI y)) : wpY_next post (latestPlace, yroot, yrowLength, yfirst, youts, ytop, ykind, ywith, ysize, kindOfType, listedCount, attributeUse, attributeType, leastOf, greatestOf, listedValue, typeOfName, inUse, hasValue, hasAttribute, nameOf, yparent, kids, kidCount, yrow, valueOf, attributeValue, yends, ylack, yshortest, youtKind, youtWith, ywork, yworkWith, yweight, yfollow, yfirsts, ylasts, ybare, ymet, ynameAt, ytokenAt, ytodo) (nI x) := by
  have hE' := hE
  obtain ⟨a1, a2, a3, a4, hI⟩ := hE'
  have x24 := hI.1.1 x hx
  have h23 := tr_F_c hI.1 hx
  have ec : kidCount (nI x).toNatClampNeg = nI (c x) := by rw [nb_cl (by omega)]; exact (a3 x x24 hx).1
  refine ⟨vp_in_nI x24 (by omega), ?_⟩
  rw [ec, nb_24x]
  refine pk_le (c x) 0 (fun hle => ?_) (fun hlt => ?_)
  · have c0 : c x = 0 := by omega
    rw [c0] at p0 p1
    exact ⟨d + 1, sy_nxt21 hE d x r hx hR p0 p1⟩
  · refine ⟨vp_in_nI (by omega) (by omega), ?_⟩
    rw [nb_cl (by omega)]
    have e0 := a4 x 0 x24 hx hlt
    rw [Nat.add_zero] at e0
    rw [e0]
    have e1 : c x = (c x - 1) + 1 := by omega
    refine p1 (ch x 0) (tr_kf ch x (c x - 1) 1 ++ r) ?_
    rw [e1]
    rfl
theorem sy_chk23 {post : Int32 → SY → Prop} {wh : Int32} {po : Nat → Option Nat} {c : Nat → Nat} {ch : Nat → Nat → Nat} {g rk : Nat → Nat} {σ : Nat → Int32} (hE : rl_E1 inUse nameOf parentOf kidCount kids yparent po c ch g rk) (hσ : ∀ x, inUse x ≠ 0 → ∀ (yrowLength yfirst : Int32) (yrow yends ylack yshortest : Nat → Int32) (post : Int32 → SY → Prop), (∀ (yrowLength yfirst : Int32) (yrow yends ylack yshortest : Nat → Int32), post (σ x) (latestPlace, yroot, yrowLength, yfirst, youts, ytop, ykind, ywith, ysize, kindOfType, listedCount, attributeUse, attributeType, leastOf, greatestOf, listedValue, typeOfName, inUse, hasValue, hasAttribute, nameOf, yparent, kids, kidCount, yrow, valueOf, attributeValue, yends, ylack, yshortest, youtKind, youtWith, ywork, yworkWith, yweight, yfollow, yfirsts, ylasts, ybare, ymet, ynameAt, ytokenAt, ytodo)) → wpY_status post (latestPlace, yroot, yrowLength, yfirst, youts, ytop, ykind, ywith, ysize, kindOfType, listedCount, attributeUse, attributeType, leastOf, greatestOf, listedValue, typeOfName, inUse, hasValue, hasAttribute, nameOf, yparent, kids, kidCount, yrow, valueOf, attributeValue, yends, ylack, yshortest, youtKind, youtWith, ywork, yworkWith, yweight, yfollow, yfirsts, ylasts, ybare, ymet, ynameAt, ytokenAt, ytodo) (nI x)) : ∀ (l : List Nat) (x n b : Nat) (f : Int32) (yrowLength yfirst : Int32) (yrow yends ylack yshortest : Nat → Int32), (∀ y, y ∈ x :: l → inUse y ≠ 0) → ck_o po c ch (x :: l) [] → b + l.length ≤ 100 → n + l.length ≤ 100 → (∀ (yrowLength yfirst : Int32) (yrow yends ylack yshortest : Nat → Int32), (wh = 0 → post (nI (ck_f σ (x :: l) b f).1) (latestPlace, yroot, yrowLength, yfirst, youts, ytop, ykind, ywith, ysize, kindOfType, listedCount, attributeUse, attributeType, leastOf, greatestOf, listedValue, typeOfName, inUse, hasValue, hasAttribute, nameOf, yparent, kids, kidCount, yrow, valueOf, attributeValue, yends, ylack, yshortest, youtKind, youtWith, ywork, yworkWith, yweight, yfollow, yfirsts, ylasts, ybare, ymet, ynameAt, ytokenAt, ytodo)) ∧ (¬ wh = 0 → (wh = 1 → post (ck_f σ (x :: l) b f).2 (latestPlace, yroot, yrowLength, yfirst, youts, ytop, ykind, ywith, ysize, kindOfType, listedCount, attributeUse, attributeType, leastOf, greatestOf, listedValue, typeOfName, inUse, hasValue, hasAttribute, nameOf, yparent, kids, kidCount, yrow, valueOf, attributeValue, yends, ylack, yshortest, youtKind, youtWith, ywork, yworkWith, yweight, yfollow, yfirsts, ylasts, ybare, ymet, ynameAt, ytokenAt, ytodo)) ∧ (¬ wh = 1 → post (nI (n + l.length + 1)) (latestPlace, yroot, yrowLength, yfirst, youts, ytop, ykind, ywith, ysize, kindOfType, listedCount, attributeUse, attributeType, leastOf, greatestOf, listedValue, typeOfName, inUse, hasValue, hasAttribute, nameOf, yparent, kids, kidCount, yrow, valueOf, attributeValue, yends, ylack, yshortest, youtKind, youtWith, ywork, yworkWith, yweight, yfollow, yfirsts, ylasts, ybare, ymet, ynameAt, ytokenAt, ytodo)))) → wY_check_23 post wh (l.length + 2) (nI n) (nI b) f (nI x) latestPlace yroot yrowLength yfirst youts ytop ykind ywith ysize kindOfType listedCount attributeUse attributeType leastOf greatestOf listedValue typeOfName inUse hasValue hasAttribute nameOf yparent kids kidCount yrow valueOf attributeValue yends ylack yshortest youtKind youtWith ywork yworkWith yweight yfollow yfirsts ylasts ybare ymet ynameAt ytokenAt ytodo := by
  have hI := hE.2.2.2.2
  intro l
  induction l with
  | nil =>
    intro x n b f yrowLength yfirst yrow yends ylack yshortest hu hck hb hn h
    have ux := hu x List.mem_cons_self
    have x24 := hI.1.1 x ux
    obtain ⟨d, r, hR, hst⟩ := hck
    have fin : ∀ (b' : Nat) (f' : Int32) (yrowLength yfirst : Int32) (yrow yends ylack yshortest : Nat → Int32), ck_f σ [x] b f = (b', f') → wY_check_54 post (wY_check_23 post wh 1) wh (nI (n + 1)) (nI b') f' (nI x) latestPlace yroot yrowLength yfirst youts ytop ykind ywith ysize kindOfType listedCount attributeUse attributeType leastOf greatestOf listedValue typeOfName inUse hasValue hasAttribute nameOf yparent kids kidCount yrow valueOf attributeValue yends ylack yshortest youtKind youtWith ywork yworkWith yweight yfollow yfirsts ylasts ybare ymet ynameAt ytokenAt ytodo := by
      intro b' f' yrowLength yfirst yrow yends ylack yshortest hf
      unfold wY_check_54
      refine sy_next hE ux hR (fun _ => ?_) (fun y l' q => by rw [← hst] at q; cases q)
      refine br_t (by decide) ?_
      have h' := h yrowLength yfirst yrow yends ylack yshortest
      rw [hf] at h'
      exact h'
    refine br_f (nI_pos (by omega)) (nm_r (nI_1 n) ?_)
    refine hσ x ux yrowLength yfirst yrow yends ylack yshortest _ (fun yrowLength yfirst yrow yends ylack yshortest => ?_)
    by_cases s0 : σ x = 0
    · exact br_t s0 (fin b f yrowLength yfirst yrow yends ylack yshortest (by simp only [ck_f, if_pos s0]))
    · refine br_f s0 (nm_r (nI_1 b) ?_)
      by_cases b0 : b = 0
      · exact br_t (by rw [b0]; rfl) (fin (b + 1) (nI x) yrowLength yfirst yrow yends ylack yshortest (by simp only [ck_f, if_neg s0, if_pos b0]))
      · exact br_f (nI_ne0 (by omega) (by omega)) (fin (b + 1) f yrowLength yfirst yrow yends ylack yshortest (by simp only [ck_f, if_neg s0, if_neg b0]))
  | cons y l ih =>
    intro x n b f yrowLength yfirst yrow yends ylack yshortest hu hck hb hn h
    rw [List.length_cons] at hb hn
    have ux := hu x List.mem_cons_self
    have x24 := hI.1.1 x ux
    obtain ⟨⟨d, r, rest, hR, hst⟩, hck'⟩ := hck
    have fin : ∀ (b' : Nat) (f' : Int32) (yrowLength yfirst : Int32) (yrow yends ylack yshortest : Nat → Int32), b' ≤ b + 1 → ck_f σ (x :: y :: l) b f = ck_f σ (y :: l) b' f' → wY_check_54 post (wY_check_23 post wh (l.length + 2)) wh (nI (n + 1)) (nI b') f' (nI x) latestPlace yroot yrowLength yfirst youts ytop ykind ywith ysize kindOfType listedCount attributeUse attributeType leastOf greatestOf listedValue typeOfName inUse hasValue hasAttribute nameOf yparent kids kidCount yrow valueOf attributeValue yends ylack yshortest youtKind youtWith ywork yworkWith yweight yfollow yfirsts ylasts ybare ymet ynameAt ytokenAt ytodo := by
      intro b' f' yrowLength yfirst yrow yends ylack yshortest hb' hf
      unfold wY_check_54
      refine sy_next hE ux hR (fun q => by rw [hst] at q; cases q) (fun y' l' q => ?_)
      rw [hst] at q
      rw [← (List.cons.inj q).1]
      refine ih y (n + 1) b' f' yrowLength yfirst yrow yends ylack yshortest (fun z hz => hu z (List.mem_cons_of_mem _ hz)) hck' (by omega) (by omega) (fun yrowLength yfirst yrow yends ylack yshortest => ?_)
      have h' := h yrowLength yfirst yrow yends ylack yshortest
      rw [hf, List.length_cons, show n + (l.length + 1) + 1 = n + 1 + l.length + 1 by omega] at h'
      exact h'
    refine br_f (nI_pos (by omega)) (nm_r (nI_1 n) ?_)
    refine hσ x ux yrowLength yfirst yrow yends ylack yshortest _ (fun yrowLength yfirst yrow yends ylack yshortest => ?_)
    by_cases s0 : σ x = 0
    · exact br_t s0 (fin b f yrowLength yfirst yrow yends ylack yshortest (by omega) (by simp only [ck_f, if_pos s0]))
    · refine br_f s0 (nm_r (nI_1 b) ?_)
      by_cases b0 : b = 0
      · exact br_t (by rw [b0]; rfl) (fin (b + 1) (nI x) yrowLength yfirst yrow yends ylack yshortest (by omega) (by simp only [ck_f, if_neg s0, if_pos b0]))
      · exact br_f (nI_ne0 (by omega) (by omega)) (fin (b + 1) f yrowLength yfirst yrow yends ylack yshortest (by omega) (by simp only [ck_f, if_neg s0, if_neg b0]))
end
theorem tr_walk {us : Nat → Prop} {po : Nat → Option Nat} {c : Nat → Nat} {ch : Nat → Nat → Nat} {rk : Nat → Nat} {top : Nat} {Inv : List Nat → List Nat → Prop} (hF : tr_F us po c ch rk) (hInv : ∀ ws e st, us e → Inv ws (e :: st) → Inv (ws ++ [e]) (tr_kf ch e (c e) 0 ++ st)) : ∀ (m : Nat) (ws st : List Nat), ws.length + m = 24 → tr_V us po c ch rk top ws st → Inv ws st → ∃ ws', tr_V us po c ch rk top ws' [] ∧ Inv ws' [] := by
  intro m
  induction m with
  | zero =>
    intro ws st hm hV hI
    have hl := tr_V_len hF hV
    have hs : st = [] := List.length_eq_zero_iff.mp (by omega)
    rw [hs] at hV hI
    exact ⟨ws, hV, hI⟩
  | succ m ih =>
    intro ws st hm hV hI
    cases st with
    | nil => exact ⟨ws, hV, hI⟩
    | cons e st =>
      have ue : us e := (hV.2.1 e (List.mem_append.mpr (Or.inr List.mem_cons_self))).1
      exact ih _ _ (by rw [List.length_append, List.length_singleton]; omega) (tr_V_s hF hV) (hInv ws e st ue hI)
def ck_I (us : Nat → Prop) (po : Nat → Option Nat) (c : Nat → Nat) (ch : Nat → Nat → Nat) (ws st : List Nat) : Prop := (∀ x, x ∈ ws → us x) ∧ ((ws = [] ∧ st = [0]) ∨ ((∃ l, ws = 0 :: l) ∧ ck_o po c ch ws st))
theorem ck_I_s {us : Nat → Prop} {po : Nat → Option Nat} {c : Nat → Nat} {ch : Nat → Nat → Nat} {rk : Nat → Nat} (hI : tr_I us po c ch rk) (ws : List Nat) (e : Nat) (st : List Nat) (he : us e) (h : ck_I us po c ch ws (e :: st)) : ck_I us po c ch (ws ++ [e]) (tr_kf ch e (c e) 0 ++ st) := by
  obtain ⟨h1, h2⟩ := h
  refine ⟨fun x hx => ?_, Or.inr ?_⟩
  · rcases List.mem_append.mp hx with hx | hx
    · exact h1 x hx
    · rw [List.mem_singleton.mp hx]; exact he
  · rcases h2 with ⟨q1, q2⟩ | ⟨⟨l, q1⟩, q2⟩
    · have q3 := List.cons.inj q2
      rw [q1, q3.1, q3.2]
      rw [q3.1] at he
      exact ⟨⟨[], rfl⟩, 0, [], ⟨hI.2.2.2 he, rfl⟩, rfl⟩
    · exact ⟨⟨l ++ [e], by rw [q1]; rfl⟩, ck_s hI ws h1 q2⟩
theorem ck_I_0 {us : Nat → Prop} {po : Nat → Option Nat} {c : Nat → Nat} {ch : Nat → Nat → Nat} : ck_I us po c ch [] [0] := ⟨(fun x hx => by cases hx), Or.inl ⟨rfl, rfl⟩⟩
end
section
/-! ===== check ===== -/
section
variable {drafted latestPlace positions fragments elementCount : Int32} {draftKind draftValue weights tokenAt fragmentBegin fragmentFirst fragmentLast fragmentEmpty reachedWith follow bearing accepting kindOfType leastOf greatestOf listedCount listedValue attributeUse attributeType typeOfName inUse nameOf parentOf kidCount kids hasValue valueOf hasAttribute attributeValue walked waiting : Nat → Int32} {yroot yrowLength yfirst youts ytop : Int32} {ykind ywith ysize yparent yrow yends ylack yshortest youtKind youtWith ywork yworkWith yweight yfollow yfirsts ylasts ybare ymet ynameAt ytokenAt ytodo : Nat → Int32}
theorem ck_sig {po : Nat → Option Nat} {c : Nat → Nat} {ch : Nat → Nat → Nat} {g rk : Nat → Nat} (hT : rl_T kindOfType listedCount attributeUse attributeType typeOfName) (hM : rl_M kindOfType follow bearing accepting ykind ywith ysize) (hE : rl_E1 inUse nameOf parentOf kidCount kids yparent po c ch g rk) : ∃ σ : Nat → Int32, ∀ x, inUse x ≠ 0 → (∀ post : Int32 → Prop, post (σ x) → wpX_statusOf post (drafted, latestPlace, positions, fragments, elementCount, draftKind, draftValue, weights, tokenAt, fragmentBegin, fragmentFirst, fragmentLast, fragmentEmpty, reachedWith, follow, bearing, accepting, kindOfType, leastOf, greatestOf, listedCount, listedValue, attributeUse, attributeType, typeOfName, inUse, nameOf, parentOf, kidCount, kids, hasValue, valueOf, hasAttribute, attributeValue, walked, waiting) (nI x)) ∧ ∀ (yrowLength yfirst : Int32) (yrow yends ylack yshortest : Nat → Int32) (post : Int32 → SY → Prop), (∀ (yrowLength yfirst : Int32) (yrow yends ylack yshortest : Nat → Int32), post (σ x) (latestPlace, yroot, yrowLength, yfirst, youts, ytop, ykind, ywith, ysize, kindOfType, listedCount, attributeUse, attributeType, leastOf, greatestOf, listedValue, typeOfName, inUse, hasValue, hasAttribute, nameOf, yparent, kids, kidCount, yrow, valueOf, attributeValue, yends, ylack, yshortest, youtKind, youtWith, ywork, yworkWith, yweight, yfollow, yfirsts, ylasts, ybare, ymet, ynameAt, ytokenAt, ytodo)) → wpY_status post (latestPlace, yroot, yrowLength, yfirst, youts, ytop, ykind, ywith, ysize, kindOfType, listedCount, attributeUse, attributeType, leastOf, greatestOf, listedValue, typeOfName, inUse, hasValue, hasAttribute, nameOf, yparent, kids, kidCount, yrow, valueOf, attributeValue, yends, ylack, yshortest, youtKind, youtWith, ywork, yworkWith, yweight, yfollow, yfirsts, ylasts, ybare, ymet, ynameAt, ytokenAt, ytodo) (nI x) := by
  refine Classical.axiomOfChoice (r := fun x (s : Int32) => inUse x ≠ 0 → (∀ post : Int32 → Prop, post s → wpX_statusOf post (drafted, latestPlace, positions, fragments, elementCount, draftKind, draftValue, weights, tokenAt, fragmentBegin, fragmentFirst, fragmentLast, fragmentEmpty, reachedWith, follow, bearing, accepting, kindOfType, leastOf, greatestOf, listedCount, listedValue, attributeUse, attributeType, typeOfName, inUse, nameOf, parentOf, kidCount, kids, hasValue, valueOf, hasAttribute, attributeValue, walked, waiting) (nI x)) ∧ ∀ (yrowLength yfirst : Int32) (yrow yends ylack yshortest : Nat → Int32) (post : Int32 → SY → Prop), (∀ (yrowLength yfirst : Int32) (yrow yends ylack yshortest : Nat → Int32), post s (latestPlace, yroot, yrowLength, yfirst, youts, ytop, ykind, ywith, ysize, kindOfType, listedCount, attributeUse, attributeType, leastOf, greatestOf, listedValue, typeOfName, inUse, hasValue, hasAttribute, nameOf, yparent, kids, kidCount, yrow, valueOf, attributeValue, yends, ylack, yshortest, youtKind, youtWith, ywork, yworkWith, yweight, yfollow, yfirsts, ylasts, ybare, ymet, ynameAt, ytokenAt, ytodo)) → wpY_status post (latestPlace, yroot, yrowLength, yfirst, youts, ytop, ykind, ywith, ysize, kindOfType, listedCount, attributeUse, attributeType, leastOf, greatestOf, listedValue, typeOfName, inUse, hasValue, hasAttribute, nameOf, yparent, kids, kidCount, yrow, valueOf, attributeValue, yends, ylack, yshortest, youtKind, youtWith, ywork, yworkWith, yweight, yfollow, yfirsts, ylasts, ybare, ymet, ynameAt, ytokenAt, ytodo) (nI x)) (fun x => ?_)
  by_cases hu : inUse x ≠ 0
  · obtain ⟨r, rX, rY⟩ := (st_both hT hM hE (hE.2.2.2.2.1.1 x hu) hu : ∃ r : Int32, (∀ post : Int32 → Prop, post r → wpX_statusOf post (drafted, latestPlace, positions, fragments, elementCount, draftKind, draftValue, weights, tokenAt, fragmentBegin, fragmentFirst, fragmentLast, fragmentEmpty, reachedWith, follow, bearing, accepting, kindOfType, leastOf, greatestOf, listedCount, listedValue, attributeUse, attributeType, typeOfName, inUse, nameOf, parentOf, kidCount, kids, hasValue, valueOf, hasAttribute, attributeValue, walked, waiting) (nI x)) ∧ ∀ (yrowLength yfirst : Int32) (yrow yends ylack yshortest : Nat → Int32) (post : Int32 → SY → Prop), (∀ (yrowLength yfirst : Int32) (yrow yends ylack yshortest : Nat → Int32), post r (latestPlace, yroot, yrowLength, yfirst, youts, ytop, ykind, ywith, ysize, kindOfType, listedCount, attributeUse, attributeType, leastOf, greatestOf, listedValue, typeOfName, inUse, hasValue, hasAttribute, nameOf, yparent, kids, kidCount, yrow, valueOf, attributeValue, yends, ylack, yshortest, youtKind, youtWith, ywork, yworkWith, yweight, yfollow, yfirsts, ylasts, ybare, ymet, ynameAt, ytokenAt, ytodo)) → wpY_status post (latestPlace, yroot, yrowLength, yfirst, youts, ytop, ykind, ywith, ysize, kindOfType, listedCount, attributeUse, attributeType, leastOf, greatestOf, listedValue, typeOfName, inUse, hasValue, hasAttribute, nameOf, yparent, kids, kidCount, yrow, valueOf, attributeValue, yends, ylack, yshortest, youtKind, youtWith, ywork, yworkWith, yweight, yfollow, yfirsts, ylasts, ybare, ymet, ynameAt, ytokenAt, ytodo) (nI x))
    exact ⟨r, fun _ => ⟨rX, rY⟩⟩
  · exact ⟨0, fun h => absurd h hu⟩
end
theorem ck_len {iu : Nat → Int32} {po : Nat → Option Nat} {c : Nat → Nat} {ch : Nat → Nat → Nat} {rk : Nat → Nat} {ws : List Nat} (hI : tr_I (fun x => iu x ≠ 0) po c ch rk) (hV : tr_V (fun x => iu x ≠ 0) po c ch rk 0 ws []) : ws.length = tr_cn iu 24 := by
  have huse : ∀ x, x ∈ ws → iu x ≠ 0 := fun x hx => (hV.2.1 x (by rw [List.append_nil]; exact hx)).1
  have hall : ∀ x, iu x ≠ 0 → x ∈ ws := by
    intro x hx
    obtain ⟨j, hj⟩ := tr_all hI (rk x) x (Nat.le_refl _) hx
    exact tr_V_out (fun x y h1 _ h3 => ⟨(tr_up hI h1 h3).1, fun _ => (tr_up hI h1 h3).2.2⟩) hV j x hx hj
  have hnd : ws.Nodup := by have := hV.1; rw [List.append_nil] at this; exact this
  have h1 := cb_mem 24 ws hnd (fun x hx => hI.1.1 x (huse x hx))
  have h2 := rm_cn (iu := iu) huse 24
  have h3 : tr_cn (rm_l iu ws) 24 = 0 := (tr_cn_none 24).mpr (fun i _ => by
    unfold rm_l
    by_cases q : i ∈ ws
    · rw [if_pos q]
    · rw [if_neg q]
      apply Classical.byContradiction
      intro hn
      exact q (hall i hn))
  omega
theorem i_vc_check {k : Nat} {u : SX} {v : SY} (I : i_Rel k u v) (hk : k + 5 ≤ 2560) (v1 : Int32) : wpX_check (fun r u' => wpY_check (fun r' v' => r' = r ∧ i_Rel (k + 5) u' v') v v1) u v1 := by
  refine i_el I (P := fun u v => wpX_check (fun r u' => wpY_check (fun r' v' => r' = r ∧ i_Rel (k + 5) u' v') v v1) u v1) ?_
  intro d latestPlace positions fragments elementCount draftKind draftValue weights tokenAt fragmentBegin fragmentFirst fragmentLast fragmentEmpty reachedWith follow bearing accepting kindOfType leastOf greatestOf listedCount listedValue attributeUse attributeType typeOfName inUse nameOf parentOf kidCount kids hasValue valueOf hasAttribute attributeValue walked waiting yroot yrowLength yfirst youts ytop ykind ywith ysize yparent yrow yends ylack yshortest youtKind youtWith ywork yworkWith yweight yfollow yfirsts ylasts ybare ymet ynameAt ytokenAt ytodo hD hT hM hE
  rcases nb_ix v1 3 (by omega) with hv | ⟨j, hj, rfl⟩
  · have n0 : ¬ v1 = 0 := by rintro rfl; exact absurd hv (by decide)
    have n1 : ¬ v1 = 1 := by rintro rfl; exact absurd hv (by decide)
    have n2 : ¬ v1 = 2 := by rintro rfl; exact absurd hv (by decide)
    refine br_f n2 (br_f n0 (br_f n1 ?_))
    unfold wpY_check
    refine sy_out1 (n := 3) (by omega) hv ?_
    refine br_f nb_10 ?_
    exact ⟨rfl, i_mk hD hT hM hE⟩
  · have hE' := hE
    obtain ⟨hec, hroot, hb, po, c, ch, g, rk, hE1⟩ := hE'
    have hI := hE1.2.2.2.2
    have Y0 : ∀ {post : Int32 → SY → Prop}, (∃ n23, wY_check_23 post (nI j) n23 (nI 0) (nI 0) (-1) yroot latestPlace yroot yrowLength yfirst youts ytop ykind ywith ysize kindOfType listedCount attributeUse attributeType leastOf greatestOf listedValue typeOfName inUse hasValue hasAttribute nameOf yparent kids kidCount yrow valueOf attributeValue yends ylack yshortest youtKind youtWith ywork yworkWith yweight yfollow yfirsts ylasts ybare ymet ynameAt ytokenAt ytodo) → wpY_check post (latestPlace, yroot, yrowLength, yfirst, youts, ytop, ykind, ywith, ysize, kindOfType, listedCount, attributeUse, attributeType, leastOf, greatestOf, listedValue, typeOfName, inUse, hasValue, hasAttribute, nameOf, yparent, kids, kidCount, yrow, valueOf, attributeValue, yends, ylack, yshortest, youtKind, youtWith, ywork, yworkWith, yweight, yfollow, yfirsts, ylasts, ybare, ymet, ynameAt, ytokenAt, ytodo) (nI j) := by
      intro post h
      unfold wpY_check
      refine sy_out0 (n := 3) (by omega) hj ?_
      exact br_t rfl h
    by_cases u0 : inUse 0 = 0
    · -- no document
      have z : ∀ i, i < 24 → inUse i = 0 := fun i _ => Classical.byContradiction (fun h => hI.2.2.1 i h u0)
      have c0 : tr_cn inUse 24 = 0 := (tr_cn_none 24).mpr z
      have hr : yroot = -1 := by rw [hroot, if_pos u0]
      subst hr
      have e0 : elementCount = 0 := by rw [hec, c0]; rfl
      have hc : j = 0 ∨ j = 1 ∨ j = 2 := by omega
      rcases hc with rfl | rfl | rfl
      · exact br_f (by decide) (br_t rfl (br_t e0 ⟨1, br_t (by decide) (br_t rfl (Y0 ⟨1, br_t (by decide) (br_t rfl ⟨rfl, i_mk hD hT hM hE⟩)⟩))⟩))
      · exact br_f (by decide) (br_f (by decide) (br_t rfl (br_t e0 ⟨1, br_t (by decide) (br_f (by decide) (Y0 ⟨1, br_t (by decide) (br_f (by decide) (br_t rfl ⟨rfl, i_mk hD hT hM hE⟩))⟩))⟩)))
      · exact br_t rfl (Y0 ⟨1, br_t (by decide) (br_f (by decide) (br_f (by decide) ⟨e0.symm, i_mk hD hT hM hE⟩))⟩)
    · have hr : yroot = 0 := by rw [hroot, if_neg u0]
      subst hr
      have hct : ∀ x, inUse x ≠ 0 → kidCount x = nI (c x) := fun x hx => (hE1.2.2.1 x (hI.1.1 x hx) hx).1
      have hkc : ∀ x i, inUse x ≠ 0 → i < c x → kids (24 * x + i) = nI (ch x i) := fun x i hx hi => hE1.2.2.2.1 x i (hI.1.1 x hx) hx hi
      -- the reference, once the order ws is known
      have Y1 : ∀ (σ : Nat → Int32) (ws : List Nat), (∀ x, inUse x ≠ 0 → ∀ (yrowLength yfirst : Int32) (yrow yends ylack yshortest : Nat → Int32) (post : Int32 → SY → Prop), (∀ (yrowLength yfirst : Int32) (yrow yends ylack yshortest : Nat → Int32), post (σ x) (latestPlace, 0, yrowLength, yfirst, youts, ytop, ykind, ywith, ysize, kindOfType, listedCount, attributeUse, attributeType, leastOf, greatestOf, listedValue, typeOfName, inUse, hasValue, hasAttribute, nameOf, yparent, kids, kidCount, yrow, valueOf, attributeValue, yends, ylack, yshortest, youtKind, youtWith, ywork, yworkWith, yweight, yfollow, yfirsts, ylasts, ybare, ymet, ynameAt, ytokenAt, ytodo)) → wpY_status post (latestPlace, 0, yrowLength, yfirst, youts, ytop, ykind, ywith, ysize, kindOfType, listedCount, attributeUse, attributeType, leastOf, greatestOf, listedValue, typeOfName, inUse, hasValue, hasAttribute, nameOf, yparent, kids, kidCount, yrow, valueOf, attributeValue, yends, ylack, yshortest, youtKind, youtWith, ywork, yworkWith, yweight, yfollow, yfirsts, ylasts, ybare, ymet, ynameAt, ytokenAt, ytodo) (nI x)) → tr_V (fun x => inUse x ≠ 0) po c ch rk 0 ws [] → ck_I (fun x => inUse x ≠ 0) po c ch ws [] → ∀ {post : Int32 → SY → Prop}, (∀ (yrowLength yfirst : Int32) (yrow yends ylack yshortest : Nat → Int32), (nI j = 0 → post (nI (ck_f σ ws 0 (-1)).1) (latestPlace, 0, yrowLength, yfirst, youts, ytop, ykind, ywith, ysize, kindOfType, listedCount, attributeUse, attributeType, leastOf, greatestOf, listedValue, typeOfName, inUse, hasValue, hasAttribute, nameOf, yparent, kids, kidCount, yrow, valueOf, attributeValue, yends, ylack, yshortest, youtKind, youtWith, ywork, yworkWith, yweight, yfollow, yfirsts, ylasts, ybare, ymet, ynameAt, ytokenAt, ytodo)) ∧ (¬ nI j = 0 → (nI j = 1 → post (ck_f σ ws 0 (-1)).2 (latestPlace, 0, yrowLength, yfirst, youts, ytop, ykind, ywith, ysize, kindOfType, listedCount, attributeUse, attributeType, leastOf, greatestOf, listedValue, typeOfName, inUse, hasValue, hasAttribute, nameOf, yparent, kids, kidCount, yrow, valueOf, attributeValue, yends, ylack, yshortest, youtKind, youtWith, ywork, yworkWith, yweight, yfollow, yfirsts, ylasts, ybare, ymet, ynameAt, ytokenAt, ytodo)) ∧ (¬ nI j = 1 → post (nI ws.length) (latestPlace, 0, yrowLength, yfirst, youts, ytop, ykind, ywith, ysize, kindOfType, listedCount, attributeUse, attributeType, leastOf, greatestOf, listedValue, typeOfName, inUse, hasValue, hasAttribute, nameOf, yparent, kids, kidCount, yrow, valueOf, attributeValue, yends, ylack, yshortest, youtKind, youtWith, ywork, yworkWith, yweight, yfollow, yfirsts, ylasts, ybare, ymet, ynameAt, ytokenAt, ytodo)))) → wpY_check post (latestPlace, 0, yrowLength, yfirst, youts, ytop, ykind, ywith, ysize, kindOfType, listedCount, attributeUse, attributeType, leastOf, greatestOf, listedValue, typeOfName, inUse, hasValue, hasAttribute, nameOf, yparent, kids, kidCount, yrow, valueOf, attributeValue, yends, ylack, yshortest, youtKind, youtWith, ywork, yworkWith, yweight, yfollow, yfirsts, ylasts, ybare, ymet, ynameAt, ytokenAt, ytodo) (nI j) := by
        intro σ ws hσ hV hck post h
        have hl := ck_len hI hV
        have hcn := tr_cn_le inUse 24
        rcases hck.2 with ⟨_, q⟩ | ⟨⟨l, q⟩, hck'⟩
        · cases q
        · subst q
          rw [List.length_cons] at hl
          refine Y0 ⟨l.length + 2, sy_chk23 hE1 hσ l 0 0 0 (-1) yrowLength yfirst yrow yends ylack yshortest hck.1 hck' (by omega) (by omega) (fun yrowLength yfirst yrow yends ylack yshortest => ?_)⟩
          have h' := h yrowLength yfirst yrow yends ylack yshortest
          rw [List.length_cons] at h'
          rw [Nat.zero_add]
          exact h'
      by_cases j2 : j = 2
      · subst j2
        obtain ⟨ws, hV, hck⟩ := tr_walk (Inv := ck_I (fun x => inUse x ≠ 0) po c ch) hI.1 (ck_I_s hI) 24 [] [0] rfl (tr_V_0 u0) ck_I_0
        have hl := ck_len hI hV
        obtain ⟨σ, hσ⟩ := (ck_sig hT hM hE1 : ∃ σ : Nat → Int32, ∀ x, inUse x ≠ 0 → (∀ post : Int32 → Prop, post (σ x) → wpX_statusOf post (nI d, latestPlace, positions, fragments, elementCount, draftKind, draftValue, weights, tokenAt, fragmentBegin, fragmentFirst, fragmentLast, fragmentEmpty, reachedWith, follow, bearing, accepting, kindOfType, leastOf, greatestOf, listedCount, listedValue, attributeUse, attributeType, typeOfName, inUse, nameOf, parentOf, kidCount, kids, hasValue, valueOf, hasAttribute, attributeValue, walked, waiting) (nI x)) ∧ ∀ (yrowLength yfirst : Int32) (yrow yends ylack yshortest : Nat → Int32) (post : Int32 → SY → Prop), (∀ (yrowLength yfirst : Int32) (yrow yends ylack yshortest : Nat → Int32), post (σ x) (latestPlace, 0, yrowLength, yfirst, youts, ytop, ykind, ywith, ysize, kindOfType, listedCount, attributeUse, attributeType, leastOf, greatestOf, listedValue, typeOfName, inUse, hasValue, hasAttribute, nameOf, yparent, kids, kidCount, yrow, valueOf, attributeValue, yends, ylack, yshortest, youtKind, youtWith, ywork, yworkWith, yweight, yfollow, yfirsts, ylasts, ybare, ymet, ynameAt, ytokenAt, ytodo)) → wpY_status post (latestPlace, 0, yrowLength, yfirst, youts, ytop, ykind, ywith, ysize, kindOfType, listedCount, attributeUse, attributeType, leastOf, greatestOf, listedValue, typeOfName, inUse, hasValue, hasAttribute, nameOf, yparent, kids, kidCount, yrow, valueOf, attributeValue, yends, ylack, yshortest, youtKind, youtWith, ywork, yworkWith, yweight, yfollow, yfirsts, ylasts, ybare, ymet, ynameAt, ytokenAt, ytodo) (nI x))
        refine br_t rfl (Y1 σ ws (fun x hx => (hσ x hx).2) hV hck (fun yrowLength yfirst yrow yends ylack yshortest => ?_))
        exact ⟨fun q => absurd q (by decide), fun _ => ⟨fun q => absurd q (by decide), fun _ => ⟨by rw [hl, hec], i_mk hD hT hM hE⟩⟩⟩
      · have n2 : ¬ nI j = 2 := fun q => j2 ((nI_eq (b := 2) (by omega) (by omega)).mp q)
        have ne : ¬ elementCount = 0 := by
          rw [hec]
          intro q
          have q' : tr_cn inUse 24 = 0 := (nI_eq (b := 0) (by have := tr_cn_le inUse 24; omega) (by omega)).mp q
          exact u0 ((tr_cn_none 24).mp q' 0 (by omega))
        have X1 : wX_check_21 (fun r u' => wpY_check (fun r' v' => r' = r ∧ i_Rel (k + 5) u' v') (latestPlace, 0, yrowLength, yfirst, youts, ytop, ykind, ywith, ysize, kindOfType, listedCount, attributeUse, attributeType, leastOf, greatestOf, listedValue, typeOfName, inUse, hasValue, hasAttribute, nameOf, yparent, kids, kidCount, yrow, valueOf, attributeValue, yends, ylack, yshortest, youtKind, youtWith, ywork, yworkWith, yweight, yfollow, yfirsts, ylasts, ybare, ymet, ynameAt, ytokenAt, ytodo) (nI j)) (nI j) (nI d) latestPlace positions fragments elementCount draftKind draftValue weights tokenAt fragmentBegin fragmentFirst fragmentLast fragmentEmpty reachedWith follow bearing accepting kindOfType leastOf greatestOf listedCount listedValue attributeUse attributeType typeOfName inUse nameOf parentOf kidCount kids hasValue valueOf hasAttribute attributeValue walked waiting := by
          refine br_f ne ?_
          refine sx_walk (top := 0) (Inv := ck_I (fun x => inUse x ≠ 0) po c ch) hI.1 u0 hct hkc (ck_I_s hI) ck_I_0 (fun ws wk wa hV hwk hck => ?_)
          have hl := ck_len hI hV
          have hcn := tr_cn_le inUse 24
          obtain ⟨σ, hσ⟩ := (ck_sig hT hM hE1 : ∃ σ : Nat → Int32, ∀ x, inUse x ≠ 0 → (∀ post : Int32 → Prop, post (σ x) → wpX_statusOf post (nI d, latestPlace, positions, fragments, elementCount, draftKind, draftValue, weights, tokenAt, fragmentBegin, fragmentFirst, fragmentLast, fragmentEmpty, reachedWith, follow, bearing, accepting, kindOfType, leastOf, greatestOf, listedCount, listedValue, attributeUse, attributeType, typeOfName, inUse, nameOf, parentOf, kidCount, kids, hasValue, valueOf, hasAttribute, attributeValue, wk, wa) (nI x)) ∧ ∀ (yrowLength yfirst : Int32) (yrow yends ylack yshortest : Nat → Int32) (post : Int32 → SY → Prop), (∀ (yrowLength yfirst : Int32) (yrow yends ylack yshortest : Nat → Int32), post (σ x) (latestPlace, 0, yrowLength, yfirst, youts, ytop, ykind, ywith, ysize, kindOfType, listedCount, attributeUse, attributeType, leastOf, greatestOf, listedValue, typeOfName, inUse, hasValue, hasAttribute, nameOf, yparent, kids, kidCount, yrow, valueOf, attributeValue, yends, ylack, yshortest, youtKind, youtWith, ywork, yworkWith, yweight, yfollow, yfirsts, ylasts, ybare, ymet, ynameAt, ytokenAt, ytodo)) → wpY_status post (latestPlace, 0, yrowLength, yfirst, youts, ytop, ykind, ywith, ysize, kindOfType, listedCount, attributeUse, attributeType, leastOf, greatestOf, listedValue, typeOfName, inUse, hasValue, hasAttribute, nameOf, yparent, kids, kidCount, yrow, valueOf, attributeValue, yends, ylack, yshortest, youtKind, youtWith, ywork, yworkWith, yweight, yfollow, yfirsts, ylasts, ybare, ymet, ynameAt, ytokenAt, ytodo) (nI x))
          refine ⟨ws.length + 1, sx_chk46 (σ := σ) (walked := wk) (waiting := wa) hwk (by omega) (fun x hx => ⟨hI.1.1 x (hck.1 x hx), (hσ x (hck.1 x hx)).1⟩) ws.length 0 0 (-1) (by omega) (by omega) ?_⟩
          rw [List.drop_zero]
          refine ⟨fun j0 => Y1 σ ws (fun x hx => (hσ x hx).2) hV hck (fun yrowLength yfirst yrow yends ylack yshortest => ⟨fun _ => ⟨rfl, i_mk hD hT hM hE⟩, fun q => absurd j0 q⟩), fun j0 => Y1 σ ws (fun x hx => (hσ x hx).2) hV hck (fun yrowLength yfirst yrow yends ylack yshortest => ⟨fun q => absurd q j0, fun _ => ⟨fun _ => ⟨rfl, i_mk hD hT hM hE⟩, fun q => ?_⟩⟩)⟩
          have hc : j = 0 ∨ j = 1 := by omega
          rcases hc with rfl | rfl
          · exact absurd rfl j0
          · exact absurd rfl q
        have hc : j = 0 ∨ j = 1 := by omega
        rcases hc with rfl | rfl
        · exact br_f n2 (br_t rfl X1)
        · exact br_f n2 (br_f (by decide) (br_t rfl X1))
end
section
/-! ===== may, fitting, missing ===== -/
theorem xa_fls_s (fo : Nat → Int32) : ∀ m S, xa_fls fo (m + 1) S = xa_fl fo (xa_fls fo m S) 31 := by
  intro m
  induction m with
  | zero => intro S; rfl
  | succ m ih => intro S; exact ih (xa_fl fo S 31)
theorem dp_N {w : Nat → Nat} {c : Nat} (h : ∀ i, i < c → w i < 6) : ∀ n a, a + n ≤ c → xa_N (dp_sl w n a) := by
  intro n
  induction n with
  | zero => intro a _ x hx; cases hx
  | succ n ih => intro a ha; exact xa_N_cons.mpr ⟨h a (by omega), ih (a + 1) (by omega)⟩
theorem dp_sl_cg {w w' : Nat → Nat} : ∀ n a, (∀ i, a ≤ i → i < a + n → w i = w' i) → dp_sl w n a = dp_sl w' n a := by
  intro n
  induction n with
  | zero => intro a _; rfl
  | succ n ih =>
    intro a h
    show w a :: dp_sl w n (a + 1) = w' a :: dp_sl w' n (a + 1)
    rw [h a (by omega) (by omega), ih (a + 1) (fun i h1 h2 => h i (by omega) (by omega))]
theorem dp_sl_sh {w w' : Nat → Nat} (s : Nat) : ∀ n a, (∀ i, a ≤ i → i < a + n → w' (i + s) = w i) → dp_sl w' n (a + s) = dp_sl w n a := by
  intro n
  induction n with
  | zero => intro a _; rfl
  | succ n ih =>
    intro a h
    show w' (a + s) :: dp_sl w' n (a + s + 1) = w a :: dp_sl w n (a + 1)
    rw [h a (by omega) (by omega), show a + s + 1 = a + 1 + s by omega, ih (a + 1) (fun i h1 h2 => h i (by omega) (by omega))]
/-- a name put in as number k -/
def my_w (w : Nat → Nat) (k n : Nat) : Nat → Nat := fun j => if j < k then w j else if j = k then n else w (j - 1)
theorem my_sl (w : Nat → Nat) (k n c : Nat) (h : k ≤ c) : dp_sl (my_w w k n) (c + 1) 0 = dp_sl w k 0 ++ n :: dp_sl w (c - k) k := by
  rw [show c + 1 = k + (1 + (c - k)) by omega, dp_sl_add, Nat.zero_add, dp_sl_add]
  congr 1
  · refine dp_sl_cg k 0 (fun i _ hi => ?_)
    unfold my_w
    rw [if_pos (by omega)]
  · have e1 : dp_sl (my_w w k n) 1 k = [n] := by
      show [my_w w k n k] = [n]
      unfold my_w
      rw [if_neg (by omega), if_pos rfl]
    rw [e1]
    show n :: dp_sl (my_w w k n) (c - k) (k + 1) = n :: _
    congr 1
    refine dp_sl_sh 1 (c - k) k (fun i h1 h2 => ?_)
    unfold my_w
    rw [if_neg (by omega), if_neg (by omega), Nat.add_sub_cancel]
noncomputable def my_s (P : Nat → Prop) : Nat → Int32
  | 0 => 0
  | m + 1 => @ite Int32 (P m) (Classical.propDecidable _) (my_s P m ||| ((1 : Int32) <<< (nI m &&& 31))) (my_s P m)
theorem my_t {P : Nat → Prop} {m : Nat} (h : P m) : my_s P (m + 1) = my_s P m ||| ((1 : Int32) <<< (nI m &&& 31)) := @if_pos _ (Classical.propDecidable _) h _ _ _
theorem my_f {P : Nat → Prop} {m : Nat} (h : ¬ P m) : my_s P (m + 1) = my_s P m := @if_neg _ (Classical.propDecidable _) h _ _ _
section
variable {drafted latestPlace positions fragments elementCount : Int32} {draftKind draftValue weights tokenAt fragmentBegin fragmentFirst fragmentLast fragmentEmpty reachedWith follow bearing accepting kindOfType leastOf greatestOf listedCount listedValue attributeUse attributeType typeOfName inUse nameOf parentOf kidCount kids hasValue valueOf hasAttribute attributeValue walked waiting : Nat → Int32} {yroot yrowLength yfirst youts ytop : Int32} {ykind ywith ysize yparent yrow yends ylack yshortest youtKind youtWith ywork yworkWith yweight yfollow yfirsts ylasts ybare ymet ynameAt ytokenAt ytodo : Nat → Int32}
/-- the complex type of an element -/
def cx_no (tn so iu : Nat → Int32) (g : Nat → Nat) (x : Int32) : Prop := ((x < 0 ∨ nI 24 ≤ x) ∨ ∃ j, j < 24 ∧ x = nI j ∧ iu j = 0) ∨ ∃ e, e < 24 ∧ x = nI e ∧ iu e ≠ 0 ∧ ∀ t, t < 6 → tn (g e) = nI t → so t ≠ nI 2
theorem cx_X0 {post : Int32 → Prop} {g : Nat → Nat} {x : Int32} (hT : rl_T kindOfType listedCount attributeUse attributeType typeOfName) (hg : ∀ x, x < 24 → nameOf x = nI (g x) ∧ g x < 6) (h : cx_no typeOfName kindOfType inUse g x) (p : post (-1)) : wpX_complexTypeOf post (drafted, latestPlace, positions, fragments, elementCount, draftKind, draftValue, weights, tokenAt, fragmentBegin, fragmentFirst, fragmentLast, fragmentEmpty, reachedWith, follow, bearing, accepting, kindOfType, leastOf, greatestOf, listedCount, listedValue, attributeUse, attributeType, typeOfName, inUse, nameOf, parentOf, kidCount, kids, hasValue, valueOf, hasAttribute, attributeValue, walked, waiting) x := by
  unfold wpX_complexTypeOf
  rcases h with h | ⟨e, he, rfl, hu, hn⟩
  · refine sx_elem0 h ?_
    exact br_t rfl p
  · refine sx_elem1 he hu ?_
    refine br_f nb_10 ?_
    obtain ⟨g1, g2⟩ := hg e he
    rw [nb_cl (by omega), g1, nb_cl (by omega)]
    refine ⟨vp_in_nI he (by omega), vp_in_nI g2 (by omega), nm_e ?_⟩
    rcases hT.2.2.2 (g e) g2 with tn | ⟨t, ht, tn⟩
    · rw [tn]
      exact sx_kind0 (Or.inl (Or.inl (by decide))) (br_t rfl p)
    · rw [tn]
      exact sx_kind0 (Or.inr ⟨t, ht, rfl, hn t ht tn⟩) (br_t rfl p)
theorem cx_Y0 {post : Int32 → Prop} {g : Nat → Nat} {x : Int32} (hT : rl_T kindOfType listedCount attributeUse attributeType typeOfName) (hg : ∀ x, x < 24 → nameOf x = nI (g x) ∧ g x < 6) (h : cx_no typeOfName kindOfType inUse g x) (p : post (-1)) : wpY_complex post (latestPlace, yroot, yrowLength, yfirst, youts, ytop, ykind, ywith, ysize, kindOfType, listedCount, attributeUse, attributeType, leastOf, greatestOf, listedValue, typeOfName, inUse, hasValue, hasAttribute, nameOf, yparent, kids, kidCount, yrow, valueOf, attributeValue, yends, ylack, yshortest, youtKind, youtWith, ywork, yworkWith, yweight, yfollow, yfirsts, ylasts, ybare, ymet, ynameAt, ytokenAt, ytodo) x := by
  unfold wpY_complex
  rcases h with h | ⟨e, he, rfl, hu, hn⟩
  · refine sy_no1 h ?_
    refine br_f nb_10 ?_
    exact br_t (by decide) p
  · refine sy_no0 he hu ?_
    refine br_t rfl ?_
    obtain ⟨g1, g2⟩ := hg e he
    unfold wpY_typeFor
    dsimp only
    rw [nb_cl (by omega), g1, nb_cl (by omega)]
    refine ⟨vp_in_nI he (by omega), vp_in_nI g2 (by omega), nm_e ?_⟩
    rcases hT.2.2.2 (g e) g2 with tn | ⟨t, ht, tn⟩
    · rw [tn]
      exact br_t (by decide) (br_t (by decide) p)
    · rw [tn, nb_cl (by omega)]
      refine br_f (nI_pos (by omega)) ⟨vp_in_nI ht (by omega), ?_⟩
      by_cases s0 : kindOfType t = 0
      · exact br_t s0 (br_t (by decide) p)
      · exact br_f s0 (br_f (nI_pos (by omega)) ⟨vp_in_nI ht (by omega), br_f (by rw [nb_cl (by omega)]; exact hn t ht tn) p⟩)
theorem cx_X1 {post : Int32 → Prop} {g : Nat → Nat} {e t : Nat} (hg : ∀ x, x < 24 → nameOf x = nI (g x) ∧ g x < 6) (he : e < 24) (hu : inUse e ≠ 0) (ht : t < 6) (tn : typeOfName (g e) = nI t) (hs : kindOfType t = nI 2) (p : post (nI t)) : wpX_complexTypeOf post (drafted, latestPlace, positions, fragments, elementCount, draftKind, draftValue, weights, tokenAt, fragmentBegin, fragmentFirst, fragmentLast, fragmentEmpty, reachedWith, follow, bearing, accepting, kindOfType, leastOf, greatestOf, listedCount, listedValue, attributeUse, attributeType, typeOfName, inUse, nameOf, parentOf, kidCount, kids, hasValue, valueOf, hasAttribute, attributeValue, walked, waiting) (nI e) := by
  unfold wpX_complexTypeOf
  refine sx_elem1 he hu ?_
  refine br_f nb_10 ?_
  obtain ⟨g1, g2⟩ := hg e he
  rw [nb_cl (by omega), g1, nb_cl (by omega), tn]
  refine ⟨vp_in_nI he (by omega), vp_in_nI g2 (by omega), nm_e ?_⟩
  exact sx_kind1 ht hs (br_f nb_10 p)
theorem cx_Y1 {post : Int32 → Prop} {g : Nat → Nat} {e t : Nat} (hg : ∀ x, x < 24 → nameOf x = nI (g x) ∧ g x < 6) (he : e < 24) (hu : inUse e ≠ 0) (ht : t < 6) (tn : typeOfName (g e) = nI t) (hs : kindOfType t = nI 2) (p : post (nI t)) : wpY_complex post (latestPlace, yroot, yrowLength, yfirst, youts, ytop, ykind, ywith, ysize, kindOfType, listedCount, attributeUse, attributeType, leastOf, greatestOf, listedValue, typeOfName, inUse, hasValue, hasAttribute, nameOf, yparent, kids, kidCount, yrow, valueOf, attributeValue, yends, ylack, yshortest, youtKind, youtWith, ywork, yworkWith, yweight, yfollow, yfirsts, ylasts, ybare, ymet, ynameAt, ytokenAt, ytodo) (nI e) := by
  unfold wpY_complex
  refine sy_no0 he hu ?_
  refine br_t rfl ?_
  obtain ⟨g1, g2⟩ := hg e he
  have et : (nI t).toNatClampNeg = t := nb_cl (by omega)
  unfold wpY_typeFor
  dsimp only
  rw [nb_cl (by omega), g1, nb_cl (by omega), tn]
  refine ⟨vp_in_nI he (by omega), vp_in_nI g2 (by omega), nm_e (br_f (nI_pos (by omega)) ⟨vp_in_nI ht (by omega), br_f ?_ (br_f (nI_pos (by omega)) ⟨vp_in_nI ht (by omega), br_t ?_ p⟩)⟩)⟩
  · rw [et, hs]; decide
  · rw [et]; exact hs
theorem cx_cs {iu so tn : Nat → Int32} {g : Nat → Nat} (x : Int32) : cx_no tn so iu g x ∨ ∃ e t, e < 24 ∧ x = nI e ∧ iu e ≠ 0 ∧ t < 6 ∧ tn (g e) = nI t ∧ so t = nI 2 := by
  rcases el_cs iu x with h | ⟨e, he, rfl, hu⟩
  · exact Or.inl (Or.inl h)
  · by_cases q : ∃ t, t < 6 ∧ tn (g e) = nI t ∧ so t = nI 2
    · obtain ⟨t, ht, h1, h2⟩ := q
      exact Or.inr ⟨e, t, he, rfl, hu, ht, h1, h2⟩
    · exact Or.inl (Or.inr ⟨e, he, rfl, hu, fun t ht h1 h2 => q ⟨t, ht, h1, h2⟩⟩)
end
section
variable {drafted latestPlace positions fragments elementCount : Int32} {draftKind draftValue weights tokenAt fragmentBegin fragmentFirst fragmentLast fragmentEmpty reachedWith follow bearing accepting kindOfType leastOf greatestOf listedCount listedValue attributeUse attributeType typeOfName inUse nameOf parentOf kidCount kids hasValue valueOf hasAttribute attributeValue walked waiting : Nat → Int32} {yplace yroot yrowLength yfirst youts ytop : Int32} {ykind ywith ysize ysort ymany yuse ytypeOf yleast ygreatest ylisted ytypeOfName yused yvalued ygiven yname yparent ychildren ycount yrow yvalue yattributes yends ylack yshortest youtKind youtWith ywork yworkWith yweight yfollow yfirsts ylasts ybare ymet ynameAt ytokenAt ytodo : Nat → Int32}
theorem sx_may45 {post : Int32 → Prop} {e k t c : Nat} {g : Nat → Nat} {ch : Nat → Nat → Nat} {L : List Nat → Prop} (he : e < 24) (ht : t < 6) (hkc : k ≤ c) (hc : c ≤ 23) (hct : kidCount e = nI c) (hk : ∀ i, i < c → kids (24 * e + i) = nI (ch e i) ∧ ch e i < 24) (hg : ∀ x, x < 24 → nameOf x = nI (g x) ∧ g x < 6) (hA : xa_OK (fun s => follow (31 * t + s)) (fun c => bearing (6 * t + c)) (accepting t) L) (h : post (my_s (fun n => L (dp_sl (kn_w g ch e) k 0 ++ n :: dp_sl (kn_w g ch e) (c - k) k)) 6)) : ∀ m n, n + m = 6 → wX_may_45 post (nI e) (nI k) (nI t) (xa_run (fun s => follow (31 * t + s)) (fun c => bearing (6 * t + c)) 1073741824 (dp_sl (kn_w g ch e) k 0)) drafted latestPlace positions fragments elementCount draftKind draftValue weights tokenAt fragmentBegin fragmentFirst fragmentLast fragmentEmpty reachedWith follow bearing accepting kindOfType leastOf greatestOf listedCount listedValue attributeUse attributeType typeOfName inUse nameOf parentOf kidCount kids hasValue valueOf hasAttribute attributeValue walked waiting (m + 1) (my_s (fun n => L (dp_sl (kn_w g ch e) k 0 ++ n :: dp_sl (kn_w g ch e) (c - k) k)) n) (nI n) := by
  have hrn : ∀ i, i < c → kn_w g ch e i < 6 := fun i hi => (hg _ (hk i hi).2).2
  have et : (nI t).toNatClampNeg = t := nb_cl (by omega)
  intro m
  induction m with
  | zero =>
    intro n hn
    obtain rfl : n = 6 := by omega
    exact br_t (by decide) h
  | succ m ih =>
    intro n hn
    have ih' := ih (n + 1) (by omega)
    refine br_f (nI_ge (b := 6) (by omega) (by omega)) ?_
    refine sx_step (by omega) (by omega) ⟨vp_in_nI he (by omega), ?_⟩
    rw [nb_cl (n := e) (by omega), hct]
    refine sx_afterKids (g := g) (ch := ch) (by omega) he (by omega) hkc hk hg ⟨vp_in_nI (by omega) (by omega), ?_⟩
    rw [et]
    have hN : xa_N (dp_sl (kn_w g ch e) k 0 ++ n :: dp_sl (kn_w g ch e) (c - k) k) := xa_N_app.mpr ⟨dp_N hrn k 0 (by omega), xa_N_cons.mpr ⟨by omega, dp_N hrn (c - k) k (by omega)⟩⟩
    have acc := xa_acc hA hN
    rw [xa_run_app] at acc
    by_cases hL : L (dp_sl (kn_w g ch e) k 0 ++ n :: dp_sl (kn_w g ch e) (c - k) k)
    · rw [my_t hL] at ih'
      exact br_f (acc.mpr hL) (nm_e (nm_r (nI_1 n) ih'))
    · rw [my_f hL] at ih'
      exact br_t (Classical.byContradiction (fun q => hL (acc.mp q))) (nm_r (nI_1 n) ih')
theorem sy_may50 {post : Int32 → SY → Prop} {J : Int32 → Int32 → Int32 → Int32 → Int32 → Int32 → Int32 → Int32 → (Nat → Int32) → (Nat → Int32) → (Nat → Int32) → (Nat → Int32) → (Nat → Int32) → (Nat → Int32) → (Nat → Int32) → (Nat → Int32) → (Nat → Int32) → (Nat → Int32) → (Nat → Int32) → (Nat → Int32) → (Nat → Int32) → (Nat → Int32) → (Nat → Int32) → (Nat → Int32) → (Nat → Int32) → (Nat → Int32) → (Nat → Int32) → (Nat → Int32) → (Nat → Int32) → (Nat → Int32) → (Nat → Int32) → (Nat → Int32) → (Nat → Int32) → (Nat → Int32) → (Nat → Int32) → (Nat → Int32) → (Nat → Int32) → (Nat → Int32) → (Nat → Int32) → (Nat → Int32) → (Nat → Int32) → (Nat → Int32) → (Nat → Int32) → (Nat → Int32) → (Nat → Int32) → Prop} {k t c n : Nat} {x1 S : Int32} {w kd vl : Nat → Nat} {R : ex_T} (ht : t < 6) (hkc : k ≤ c) (hc : c ≤ 23) (hn : n < 6) (hw6 : ∀ i, i < c → w i < 6) (hs : ysize t = nI (ex_n R)) (h16 : ex_n R ≤ 16) (hK : rl_K ykind ywith (16 * t) (ex_n R) kd vl) (hS : ex_S kd vl R 0) (hW : ex_W R) (hw : ex_w R ≤ 30)
    (h1 : ex_L vl R (dp_sl w k 0 ++ n :: dp_sl w (c - k) k) → ∀ (yrowLength yfirst : Int32) (yrow yends ylack yshortest : Nat → Int32), J (S ||| ((1 : Int32) <<< (nI n &&& 31))) (nI (n + 1)) yplace yroot yrowLength yfirst youts ytop ykind ywith ysize ysort ymany yuse ytypeOf yleast ygreatest ylisted ytypeOfName yused yvalued ygiven yname yparent ychildren ycount yrow yvalue yattributes yends ylack yshortest youtKind youtWith ywork yworkWith yweight yfollow yfirsts ylasts ybare ymet ynameAt ytokenAt ytodo) (h0 : ¬ ex_L vl R (dp_sl w k 0 ++ n :: dp_sl w (c - k) k) → ∀ (yrowLength yfirst : Int32) (yrow yends ylack yshortest : Nat → Int32), J S (nI (n + 1)) yplace yroot yrowLength yfirst youts ytop ykind ywith ysize ysort ymany yuse ytypeOf yleast ygreatest ylisted ytypeOfName yused yvalued ygiven yname yparent ychildren ycount yrow yvalue yattributes yends ylack yshortest youtKind youtWith ywork yworkWith yweight yfollow yfirsts ylasts ybare ymet ynameAt ytokenAt ytodo) : ∀ (m i : Nat) (row : Nat → Int32), i = k + m → i ≤ c → (∀ j, j < i → row j = nI (w j)) → (∀ j, i < j → j ≤ c → row j = nI (w (j - 1))) → wY_may_50 post J x1 (nI k) (nI t) S (nI n) yplace yroot (nI c) yfirst youts ytop (m + 1) (nI i) ykind ywith ysize ysort ymany yuse ytypeOf yleast ygreatest ylisted ytypeOfName yused yvalued ygiven yname yparent ychildren ycount row yvalue yattributes yends ylack yshortest youtKind youtWith ywork yworkWith yweight yfollow yfirsts ylasts ybare ymet ynameAt ytokenAt ytodo := by
  intro m
  induction m with
  | zero =>
    intro i row hi hic r1 r2
    obtain rfl : i = k := by omega
    refine br_t (nI_le (Nat.le_refl _) (by omega)) ⟨vp_in_nI (by omega) (by omega), nm_r (e' := upd row i (nI n)) (by rw [nb_cl (by omega), nb_v8 (by omega)]) (nm_r (nI_1 c) ?_)⟩
    refine sy_isWord (w := my_w w i n) ht (by omega) (fun j hj => ?_) hs h16 hK hS hW hw (fun hL f sh en lk => ?_) (fun hL f sh en lk => ?_)
    · unfold my_w
      by_cases q1 : j < i
      · rw [pk_un (by omega), if_pos q1]; exact ⟨r1 j q1, hw6 j (by omega)⟩
      · rw [if_neg q1]
        by_cases q2 : j = i
        · rw [q2, pk_us, if_pos rfl]; exact ⟨rfl, hn⟩
        · rw [pk_un q2, if_neg q2]; exact ⟨r2 j (by omega) (by omega), hw6 _ (by omega)⟩
    · rw [my_sl w i n c hic] at hL
      exact br_f nb_10 (nm_e (nm_r (nI_1 n) (h1 hL _ _ _ _ _ _)))
    · rw [my_sl w i n c hic] at hL
      exact br_t rfl (nm_r (nI_1 n) (h0 hL _ _ _ _ _ _))
  | succ m ih =>
    intro i row hi hic r1 r2
    obtain ⟨j, rfl⟩ : ∃ j, i = j + 1 := ⟨k + m, by omega⟩
    refine br_f (nI_ge (by omega) (by omega)) ?_
    rw [nb_s1 (by omega), show j + 1 - 1 = j by omega]
    refine ⟨vp_in_nI (by omega) (by omega), vp_in_nI (by omega) (by omega), nm_r (e' := upd row (j + 1) (nI (w j))) (by rw [nb_cl (by omega), nb_cl (by omega), r1 j (by omega), nb_vb (by have := hw6 j (by omega); omega)]) (nm_r (nb_a1 j) (ih j _ (by omega) (by omega) (fun x hx => ?_) (fun x hx hxc => ?_)))⟩
    · rw [pk_un (by omega)]; exact r1 x (by omega)
    · by_cases q : x = j + 1
      · rw [q, pk_us, Nat.add_sub_cancel]
      · rw [pk_un q]; exact r2 x (by omega) hxc
theorem sx_fit19 {post : Int32 → Prop} {e t c : Nat} {g : Nat → Nat} {ch : Nat → Nat → Nat} {L : List Nat → Prop} (he : e < 24) (ht : t < 6) (hc : c ≤ 23) (hct : kidCount e = nI c) (hk : ∀ i, i < c → kids (24 * e + i) = nI (ch e i) ∧ ch e i < 24) (hg : ∀ x, x < 24 → nameOf x = nI (g x) ∧ g x < 6) (hA : xa_OK (fun s => follow (31 * t + s)) (fun c => bearing (6 * t + c)) (accepting t) L) (hne : ∃ u, L u) (h : ∀ r, r ≤ c → (∃ v, L (dp_sl (kn_w g ch e) r 0 ++ v)) → (r < c → ¬ ∃ v, L (dp_sl (kn_w g ch e) (r + 1) 0 ++ v)) → post (nI r)) : ∀ m i, i + m = c → (∃ v, L (dp_sl (kn_w g ch e) i 0 ++ v)) → wX_fitting_19 post (nI e) (nI t) drafted latestPlace positions fragments elementCount draftKind draftValue weights tokenAt fragmentBegin fragmentFirst fragmentLast fragmentEmpty reachedWith follow bearing accepting kindOfType leastOf greatestOf listedCount listedValue attributeUse attributeType typeOfName inUse nameOf parentOf kidCount kids hasValue valueOf hasAttribute attributeValue walked waiting (m + 1) (xa_run (fun s => follow (31 * t + s)) (fun c => bearing (6 * t + c)) 1073741824 (dp_sl (kn_w g ch e) i 0)) (nI i) := by
  have hrn : ∀ i, i < c → kn_w g ch e i < 6 := fun i hi => (hg _ (hk i hi).2).2
  have ve : vp_in (nI e) 24 := vp_in_nI he (by omega)
  have ec : kidCount (nI e).toNatClampNeg = nI c := by rw [nb_cl (by omega), hct]
  intro m
  induction m with
  | zero =>
    intro i hi hv
    obtain rfl : i = c := by omega
    refine ⟨ve, br_t (by rw [ec]; exact nI_le (Nat.le_refl _) (by omega)) ⟨ve, ?_⟩⟩
    rw [ec]
    exact h i (Nat.le_refl _) hv (fun q => by omega)
  | succ m ih =>
    intro i hi hv
    obtain ⟨k1, k2⟩ := hk i (by omega)
    obtain ⟨g1, g2⟩ := hg _ k2
    refine ⟨ve, br_f (by rw [ec]; exact nI_ge (by omega) (by omega)) ?_⟩
    rw [nb_m24, nb_cl (n := 24 * e + i) (by omega), k1, nb_cl (n := ch e i) (by omega), g1]
    refine ⟨vp_in_nI (by omega) (by omega), vp_in_nI k2 (by omega), sx_step (by omega) g2 ?_⟩
    have e1 : xa_run (fun s => follow (31 * t + s)) (fun c => bearing (6 * t + c)) 1073741824 (dp_sl (kn_w g ch e) (i + 1) 0) = xa_step (fun s => follow (31 * t + s)) (fun c => bearing (6 * t + c)) (xa_run (fun s => follow (31 * t + s)) (fun c => bearing (6 * t + c)) 1073741824 (dp_sl (kn_w g ch e) i 0)) (g (ch e i)) := by
      rw [dp_sl_add, xa_run_app, Nat.zero_add]
      rfl
    have pre := xa_pre hA (dp_N hrn (i + 1) 0 (by omega)) hne
    have ih' := ih (i + 1) (by omega)
    rw [e1] at pre ih'
    by_cases q : ∃ v, L (dp_sl (kn_w g ch e) (i + 1) 0 ++ v)
    · exact br_f (pre.mpr q) (nm_r (nI_1 i) (ih' q))
    · exact br_t (Classical.byContradiction (fun q2 => q (pre.mp q2))) (h i (by omega) hv (fun _ => q))
theorem sy_fit28 {post : Int32 → SY → Prop} {t c : Nat} {w kd vl : Nat → Nat} {R : ex_T} (ht : t < 6) (hc : c ≤ 23) (hrow : ∀ i, i < c → yrow i = nI (w i) ∧ w i < 6) (hs : ysize t = nI (ex_n R)) (h16 : ex_n R ≤ 16) (hK : rl_K ykind ywith (16 * t) (ex_n R) kd vl) (hS : ex_S kd vl R 0) (hW : ex_W R) (hw : ex_w R ≤ 30)
    (h : ∀ (r : Nat) (yfirst : Int32) (yends ylack yshortest : Nat → Int32), r ≤ c → (∃ v, ex_L vl R (dp_sl w r 0 ++ v)) → (∀ r', r < r' → r' ≤ c → ¬ ∃ v, ex_L vl R (dp_sl w r' 0 ++ v)) → post (nI r) (yplace, yroot, yrowLength, yfirst, youts, ytop, ykind, ywith, ysize, ysort, ymany, yuse, ytypeOf, yleast, ygreatest, ylisted, ytypeOfName, yused, yvalued, ygiven, yname, yparent, ychildren, ycount, yrow, yvalue, yattributes, yends, ylack, yshortest, youtKind, youtWith, ywork, yworkWith, yweight, yfollow, yfirsts, ylasts, ybare, ymet, ynameAt, ytokenAt, ytodo)) : ∀ (n x : Nat) (yfirst : Int32) (yends ylack yshortest : Nat → Int32), n ≤ c → (∀ r', n < r' → r' ≤ c → ¬ ∃ v, ex_L vl R (dp_sl w r' 0 ++ v)) → ylack 0 = nI x → dp_M 30 (dp_K (ex_L vl R) w n 0) x → wY_fitting_28 post (nI t) (n + 1) (nI n) yplace yroot yrowLength yfirst youts ytop ykind ywith ysize ysort ymany yuse ytypeOf yleast ygreatest ylisted ytypeOfName yused yvalued ygiven yname yparent ychildren ycount yrow yvalue yattributes yends ylack yshortest youtKind youtWith ywork yworkWith yweight yfollow yfirsts ylasts ybare ymet ynameAt ytokenAt ytodo := by
  intro n
  induction n with
  | zero =>
    intro x yfirst yends ylack yshortest _ hr hx hm
    refine br_t (by decide) (h 0 _ _ _ _ (by omega) ?_ hr)
    obtain ⟨u, hu⟩ := ex_ne vl R hW
    exact ⟨u, hu⟩
  | succ n ih =>
    intro x yfirst yends ylack yshortest hnc hr hx hm
    refine br_f (by rw [nb_le0 (by omega)]; omega) ?_
    rw [hx]
    rcases hm with ⟨⟨v, lv, hv⟩, hx30, _⟩ | ⟨hx0, hn⟩
    · exact br_t (nI_lt (b := 100000) (by omega) (by omega)) (h (n + 1) _ _ _ _ hnc ⟨v, hv⟩ hr)
    · refine br_f (by rw [hx0]; decide) (nm_r (nb_a1 n) ?_)
      refine sy_examine (w := w) ht (by omega) (fun i hi => hrow i (by omega)) hs h16 hK hS hW hw (fun f sh en lk x' _ hx' hm' => ?_)
      refine ih x' f en lk sh (by omega) (fun r' h1 h2 => ?_) hx' hm'
      by_cases q : r' = n + 1
      · rw [q]
        rintro ⟨v, hv⟩
        exact hn v.length ⟨v, rfl, hv⟩
      · exact hr r' (by omega) h2
theorem sx_mis32 {post : Int32 → Prop} {t : Nat} {u : List Nat} {L : List Nat → Prop} (ht : t < 6) (hN : xa_N u) (hA : xa_OK (fun s => follow (31 * t + s)) (fun c => bearing (6 * t + c)) (accepting t) L) (h1 : ∀ m, m < 31 → (∃ v, v.length = m ∧ L (u ++ v)) → (∀ m', m' < m → ¬ ∃ v, v.length = m' ∧ L (u ++ v)) → post (nI m)) (h0 : (∀ m, m < 31 → ¬ ∃ v, v.length = m ∧ L (u ++ v)) → post (-1)) : ∀ m i, i + m = 31 → (∀ m', m' < i → ¬ ∃ v, v.length = m' ∧ L (u ++ v)) → wX_missing_32 post (nI t) drafted latestPlace positions fragments elementCount draftKind draftValue weights tokenAt fragmentBegin fragmentFirst fragmentLast fragmentEmpty reachedWith follow bearing accepting kindOfType leastOf greatestOf listedCount listedValue attributeUse attributeType typeOfName inUse nameOf parentOf kidCount kids hasValue valueOf hasAttribute attributeValue walked waiting (m + 1) (xa_fls (fun s => follow (31 * t + s)) i (xa_run (fun s => follow (31 * t + s)) (fun c => bearing (6 * t + c)) 1073741824 u)) (nI i) := by
  have et : (nI t).toNatClampNeg = t := nb_cl (by omega)
  intro m
  induction m with
  | zero =>
    intro i hi hn
    obtain rfl : i = 31 := by omega
    exact br_t (by decide) (h0 hn)
  | succ m ih =>
    intro i hi hn
    have la := xa_lack hA hN i
    refine br_f (nI_ge (b := 31) (by omega) (by omega)) ⟨vp_in_nI (by omega) (by omega), ?_⟩
    rw [et]
    by_cases q : ∃ v, v.length = i ∧ L (u ++ v)
    · exact br_f (la.mpr q) (h1 i (by omega) q hn)
    · refine br_t (Classical.byContradiction (fun q2 => q (la.mp q2))) ?_
      have ih' := ih (i + 1) (by omega) (fun m' hm' => by
        by_cases q3 : m' = i
        · rw [q3]; exact q
        · exact hn m' (by omega))
      rw [xa_fls_s] at ih'
      exact sx_followers (by omega) (nm_r (nI_1 i) ih')
end
end
section
/-! ===== may, fitting, missing: the owed ones ===== -/
section
variable {drafted latestPlace positions fragments elementCount : Int32} {draftKind draftValue weights tokenAt fragmentBegin fragmentFirst fragmentLast fragmentEmpty reachedWith follow bearing accepting kindOfType leastOf greatestOf listedCount listedValue attributeUse attributeType typeOfName inUse nameOf parentOf kidCount kids hasValue valueOf hasAttribute attributeValue walked waiting : Nat → Int32} {yroot yrowLength yfirst youts ytop : Int32} {ykind ywith ysize yparent yrow yends ylack yshortest youtKind youtWith ywork yworkWith yweight yfollow yfirsts ylasts ybare ymet ynameAt ytokenAt ytodo : Nat → Int32}
theorem sy_may32 {post : Int32 → SY → Prop} {e k t c : Nat} {g : Nat → Nat} {ch : Nat → Nat → Nat} {kd vl : Nat → Nat} {R : ex_T} (he : e < 24) (ht : t < 6) (hkc : k ≤ c) (hc : c ≤ 23) (hct : kidCount e = nI c) (hk : ∀ i, i < c → kids (24 * e + i) = nI (ch e i) ∧ ch e i < 24) (hg : ∀ x, x < 24 → nameOf x = nI (g x) ∧ g x < 6) (hs : ysize t = nI (ex_n R)) (h16 : ex_n R ≤ 16) (hK : rl_K ykind ywith (16 * t) (ex_n R) kd vl) (hS : ex_S kd vl R 0) (hW : ex_W R) (hw : ex_w R ≤ 30)
    (h : ∀ (yrowLength yfirst : Int32) (yrow yends ylack yshortest : Nat → Int32), post (my_s (fun n => ex_L vl R (dp_sl (kn_w g ch e) k 0 ++ n :: dp_sl (kn_w g ch e) (c - k) k)) 6) (latestPlace, yroot, yrowLength, yfirst, youts, ytop, ykind, ywith, ysize, kindOfType, listedCount, attributeUse, attributeType, leastOf, greatestOf, listedValue, typeOfName, inUse, hasValue, hasAttribute, nameOf, yparent, kids, kidCount, yrow, valueOf, attributeValue, yends, ylack, yshortest, youtKind, youtWith, ywork, yworkWith, yweight, yfollow, yfirsts, ylasts, ybare, ymet, ynameAt, ytokenAt, ytodo)) : ∀ (m n : Nat) (yrowLength yfirst : Int32) (yrow yends ylack yshortest : Nat → Int32), n + m = 6 → wY_may_32 post (nI e) (nI k) (nI t) (m + 1) (my_s (fun n => ex_L vl R (dp_sl (kn_w g ch e) k 0 ++ n :: dp_sl (kn_w g ch e) (c - k) k)) n) (nI n) latestPlace yroot yrowLength yfirst youts ytop ykind ywith ysize kindOfType listedCount attributeUse attributeType leastOf greatestOf listedValue typeOfName inUse hasValue hasAttribute nameOf yparent kids kidCount yrow valueOf attributeValue yends ylack yshortest youtKind youtWith ywork yworkWith yweight yfollow yfirsts ylasts ybare ymet ynameAt ytokenAt ytodo := by
  have hrn : ∀ i, i < c → kn_w g ch e i < 6 := fun i hi => (hg _ (hk i hi).2).2
  intro m
  induction m with
  | zero =>
    intro n yrowLength yfirst yrow yends ylack yshortest hn
    obtain rfl : n = 6 := by omega
    exact br_t (by decide) (h yrowLength yfirst yrow yends ylack yshortest)
  | succ m ih =>
    intro n yrowLength yfirst yrow yends ylack yshortest hn
    refine br_f (nI_ge (b := 6) (by omega) (by omega)) ?_
    refine sy_rowOf (g := g) (ch := ch) he (by omega) hct hk hg (fun row hr => ⟨c - k + 1, ?_⟩)
    refine sy_may50 (w := kn_w g ch e) (R := R) ht hkc hc (by omega) hrn hs h16 hK hS hW hw (fun hL yrowLength yfirst yrow yends ylack yshortest => ?_) (fun hL yrowLength yfirst yrow yends ylack yshortest => ?_) (c - k) c row (by omega) (Nat.le_refl _) hr (fun j h1 h2 => by omega)
    · have ih' := ih (n + 1) yrowLength yfirst yrow yends ylack yshortest (by omega)
      rw [my_t hL] at ih'
      exact ih'
    · have ih' := ih (n + 1) yrowLength yfirst yrow yends ylack yshortest (by omega)
      rw [my_f hL] at ih'
      exact ih'
end
theorem i_vc_may {k : Nat} {u : SX} {v : SY} (I : i_Rel k u v) (hk : k + 5 ≤ 2560) (v1 : Int32) (v2 : Int32) : wpX_may (fun r => wpY_may (fun r' v' => r' = r ∧ i_Rel (k + 5) u v') v v1 v2) u v1 v2 := by
  refine i_el I (P := fun u v => wpX_may (fun r => wpY_may (fun r' v' => r' = r ∧ i_Rel (k + 5) u v') v v1 v2) u v1 v2) ?_
  intro d latestPlace positions fragments elementCount draftKind draftValue weights tokenAt fragmentBegin fragmentFirst fragmentLast fragmentEmpty reachedWith follow bearing accepting kindOfType leastOf greatestOf listedCount listedValue attributeUse attributeType typeOfName inUse nameOf parentOf kidCount kids hasValue valueOf hasAttribute attributeValue walked waiting yroot yrowLength yfirst youts ytop ykind ywith ysize yparent yrow yends ylack yshortest youtKind youtWith ywork yworkWith yweight yfollow yfirsts ylasts ybare ymet ynameAt ytokenAt ytodo hD hT hM hE
  have hE' := hE
  obtain ⟨_, _, _, po, c, ch, g, rk, a1, a2, a3, a4, hI⟩ := hE'
  unfold wpX_may
  rcases cx_cs (iu := inUse) (so := kindOfType) (tn := typeOfName) (g := g) v1 with hno | ⟨e, t, he, rfl, hu, ht, tn, hs⟩
  · refine cx_X0 hT a2 hno ?_
    refine br_t rfl ?_
    unfold wpY_may
    refine cx_Y0 hT a2 hno ?_
    exact br_t (by decide) ⟨rfl, i_mk hD hT hM hE⟩
  · refine cx_X1 a2 he hu ht tn hs ?_
    refine br_f (nb_nm (by omega)) ?_
    have Y0 : ∀ {post : Int32 → SY → Prop}, ((v2 < 0 → post 0 (latestPlace, yroot, yrowLength, yfirst, youts, ytop, ykind, ywith, ysize, kindOfType, listedCount, attributeUse, attributeType, leastOf, greatestOf, listedValue, typeOfName, inUse, hasValue, hasAttribute, nameOf, yparent, kids, kidCount, yrow, valueOf, attributeValue, yends, ylack, yshortest, youtKind, youtWith, ywork, yworkWith, yweight, yfollow, yfirsts, ylasts, ybare, ymet, ynameAt, ytokenAt, ytodo)) ∧ (¬ v2 < 0 → (vp_in (nI e) 24 ∧ (v2 ≤ kidCount (nI e).toNatClampNeg → ∃ n32 : Nat, wY_may_32 post (nI e) v2 (nI t) n32 0 0 latestPlace yroot yrowLength yfirst youts ytop ykind ywith ysize kindOfType listedCount attributeUse attributeType leastOf greatestOf listedValue typeOfName inUse hasValue hasAttribute nameOf yparent kids kidCount yrow valueOf attributeValue yends ylack yshortest youtKind youtWith ywork yworkWith yweight yfollow yfirsts ylasts ybare ymet ynameAt ytokenAt ytodo) ∧ (¬ v2 ≤ kidCount (nI e).toNatClampNeg → post 0 (latestPlace, yroot, yrowLength, yfirst, youts, ytop, ykind, ywith, ysize, kindOfType, listedCount, attributeUse, attributeType, leastOf, greatestOf, listedValue, typeOfName, inUse, hasValue, hasAttribute, nameOf, yparent, kids, kidCount, yrow, valueOf, attributeValue, yends, ylack, yshortest, youtKind, youtWith, ywork, yworkWith, yweight, yfollow, yfirsts, ylasts, ybare, ymet, ynameAt, ytokenAt, ytodo))))) → wpY_may post (latestPlace, yroot, yrowLength, yfirst, youts, ytop, ykind, ywith, ysize, kindOfType, listedCount, attributeUse, attributeType, leastOf, greatestOf, listedValue, typeOfName, inUse, hasValue, hasAttribute, nameOf, yparent, kids, kidCount, yrow, valueOf, attributeValue, yends, ylack, yshortest, youtKind, youtWith, ywork, yworkWith, yweight, yfollow, yfirsts, ylasts, ybare, ymet, ynameAt, ytokenAt, ytodo) (nI e) v2 := by
      intro post h
      unfold wpY_may
      refine cx_Y1 a2 he hu ht tn hs ?_
      exact br_f (nI_pos (by omega)) h
    have ve : vp_in (nI e) 24 := vp_in_nI he (by omega)
    have h23 := tr_F_c hI.1 hu
    have hct : kidCount e = nI (c e) := (a3 e he hu).1
    have ec : kidCount (nI e).toNatClampNeg = nI (c e) := by rw [nb_cl (by omega), hct]
    have hkk : ∀ i, i < c e → kids (24 * e + i) = nI (ch e i) ∧ ch e i < 24 := fun i hi => ⟨a4 e i he hu hi, hI.1.1 _ (hI.1.2.1 e i hu hi).1⟩
    obtain ⟨kd, vl, R, m1, m2, m3, m4, m5, m6, m7⟩ := hM t ht hs
    by_cases h0 : v2 < 0
    · exact br_t h0 (Y0 (br_t h0 ⟨rfl, i_mk hD hT hM hE⟩))
    · obtain ⟨i, hi, rfl⟩ := nI_of h0
      refine br_f h0 ⟨ve, ?_⟩
      rw [ec]
      by_cases hle : i ≤ c e
      · refine br_t (nI_le hle (by omega)) ?_
        refine sx_afterKids (fr := 0) (to := i) (g := g) (ch := ch) (by omega) he (by omega) (by omega) (fun j hj => hkk j (by omega)) a2 ⟨7, ?_⟩
        refine sx_may45 (c := c e) he ht hle h23 hct hkk a2 m7 ?_ 6 0 (by omega)
        refine Y0 (br_f h0 ⟨ve, br_t (by rw [ec]; exact nI_le hle (by omega)) ⟨7, ?_⟩⟩)
        exact sy_may32 (c := c e) he ht hle h23 hct hkk a2 m2 m1 m3 m4 m5 m6 (fun yrowLength yfirst yrow yends ylack yshortest => ⟨rfl, i_mk hD hT hM hE⟩) 6 0 yrowLength yfirst yrow yends ylack yshortest (by omega)
      · have nle : ¬ nI i ≤ nI (c e) := nI_ge (by omega) hi
        exact br_f nle (Y0 (br_f h0 ⟨ve, br_f (by rw [ec]; exact nle) ⟨rfl, i_mk hD hT hM hE⟩⟩))
theorem i_vc_fitting {k : Nat} {u : SX} {v : SY} (I : i_Rel k u v) (hk : k + 5 ≤ 2560) (v1 : Int32) : wpX_fitting (fun r => wpY_fitting (fun r' v' => r' = r ∧ i_Rel (k + 5) u v') v v1) u v1 := by
  refine i_el I (P := fun u v => wpX_fitting (fun r => wpY_fitting (fun r' v' => r' = r ∧ i_Rel (k + 5) u v') v v1) u v1) ?_
  intro d latestPlace positions fragments elementCount draftKind draftValue weights tokenAt fragmentBegin fragmentFirst fragmentLast fragmentEmpty reachedWith follow bearing accepting kindOfType leastOf greatestOf listedCount listedValue attributeUse attributeType typeOfName inUse nameOf parentOf kidCount kids hasValue valueOf hasAttribute attributeValue walked waiting yroot yrowLength yfirst youts ytop ykind ywith ysize yparent yrow yends ylack yshortest youtKind youtWith ywork yworkWith yweight yfollow yfirsts ylasts ybare ymet ynameAt ytokenAt ytodo hD hT hM hE
  have hE' := hE
  obtain ⟨_, _, _, po, c, ch, g, rk, a1, a2, a3, a4, hI⟩ := hE'
  unfold wpX_fitting
  rcases cx_cs (iu := inUse) (so := kindOfType) (tn := typeOfName) (g := g) v1 with hno | ⟨e, t, he, rfl, hu, ht, tn, hs⟩
  · refine cx_X0 hT a2 hno ?_
    refine br_t rfl ?_
    unfold wpY_fitting
    refine cx_Y0 hT a2 hno ?_
    exact br_f (by decide) ⟨rfl, i_mk hD hT hM hE⟩
  · refine cx_X1 a2 he hu ht tn hs ?_
    refine br_f (nb_nm (by omega)) ?_
    have h23 := tr_F_c hI.1 hu
    have hct : kidCount e = nI (c e) := (a3 e he hu).1
    have hkk : ∀ i, i < c e → kids (24 * e + i) = nI (ch e i) ∧ ch e i < 24 := fun i hi => ⟨a4 e i he hu hi, hI.1.1 _ (hI.1.2.1 e i hu hi).1⟩
    have hrn : ∀ i, i < c e → kn_w g ch e i < 6 := fun i hi => (a2 _ (hkk i hi).2).2
    obtain ⟨kd, vl, R, m1, m2, m3, m4, m5, m6, m7⟩ := hM t ht hs
    have hne := ex_ne vl R m5
    have pc : ∀ n m, n ≤ m → (∃ v, ex_L vl R (dp_sl (kn_w g ch e) m 0 ++ v)) → ∃ v, ex_L vl R (dp_sl (kn_w g ch e) n 0 ++ v) := by
      rintro n m hnm ⟨v, hv⟩
      rw [show m = n + (m - n) by omega, dp_sl_add, List.append_assoc] at hv
      exact ⟨_, hv⟩
    refine ⟨c e + 1, sx_fit19 (c := c e) he ht h23 hct hkk a2 m7 hne (fun r hr hv hn => ?_) (c e) 0 (by omega) (by obtain ⟨u, hu⟩ := hne; exact ⟨u, hu⟩)⟩
    unfold wpY_fitting
    refine cx_Y1 a2 he hu ht tn hs ?_
    refine br_t (nb_pos (by omega)) ?_
    refine sy_rowOf (g := g) (ch := ch) he (by omega) hct hkk a2 (fun row hrow => ?_)
    refine sy_examine (w := kn_w g ch e) ht (by omega) (fun i hi => ⟨hrow i hi, hrn i hi⟩) m2 m1 m3 m4 m5 m6 (fun f sh en lk x _ hx hm => ⟨c e + 1, ?_⟩)
    refine sy_fit28 (c := c e) (w := kn_w g ch e) ht h23 (fun i hi => ⟨hrow i hi, hrn i hi⟩) m2 m1 m3 m4 m5 m6 (fun r' yfirst yends ylack yshortest hr' hv' hn' => ⟨?_, i_mk hD hT hM hE⟩) (c e) x f en lk sh (Nat.le_refl _) (fun r' h1 h2 => by omega) hx hm
    have e1 : r' = r := by
      rcases Nat.lt_trichotomy r r' with q | q | q
      · exact absurd (pc (r + 1) r' (by omega) hv') (hn (by omega))
      · exact q.symm
      · exact absurd hv (hn' r q hr)
    rw [e1]
theorem i_vc_missing {k : Nat} {u : SX} {v : SY} (I : i_Rel k u v) (hk : k + 5 ≤ 2560) (v1 : Int32) : wpX_missing (fun r => wpY_missing (fun r' v' => r' = r ∧ i_Rel (k + 5) u v') v v1) u v1 := by
  refine i_el I (P := fun u v => wpX_missing (fun r => wpY_missing (fun r' v' => r' = r ∧ i_Rel (k + 5) u v') v v1) u v1) ?_
  intro d latestPlace positions fragments elementCount draftKind draftValue weights tokenAt fragmentBegin fragmentFirst fragmentLast fragmentEmpty reachedWith follow bearing accepting kindOfType leastOf greatestOf listedCount listedValue attributeUse attributeType typeOfName inUse nameOf parentOf kidCount kids hasValue valueOf hasAttribute attributeValue walked waiting yroot yrowLength yfirst youts ytop ykind ywith ysize yparent yrow yends ylack yshortest youtKind youtWith ywork yworkWith yweight yfollow yfirsts ylasts ybare ymet ynameAt ytokenAt ytodo hD hT hM hE
  have hE' := hE
  obtain ⟨_, _, _, po, c, ch, g, rk, a1, a2, a3, a4, hI⟩ := hE'
  unfold wpX_missing
  rcases cx_cs (iu := inUse) (so := kindOfType) (tn := typeOfName) (g := g) v1 with hno | ⟨e, t, he, rfl, hu, ht, tn, hs⟩
  · refine cx_X0 hT a2 hno ?_
    refine br_t rfl ?_
    unfold wpY_missing
    refine cx_Y0 hT a2 hno ?_
    exact br_f (by decide) ⟨rfl, i_mk hD hT hM hE⟩
  · refine cx_X1 a2 he hu ht tn hs ?_
    refine br_f (nb_nm (by omega)) ?_
    have ve : vp_in (nI e) 24 := vp_in_nI he (by omega)
    have h23 := tr_F_c hI.1 hu
    have hct : kidCount e = nI (c e) := (a3 e he hu).1
    have hkk : ∀ i, i < c e → kids (24 * e + i) = nI (ch e i) ∧ ch e i < 24 := fun i hi => ⟨a4 e i he hu hi, hI.1.1 _ (hI.1.2.1 e i hu hi).1⟩
    have hrn : ∀ i, i < c e → kn_w g ch e i < 6 := fun i hi => (a2 _ (hkk i hi).2).2
    obtain ⟨kd, vl, R, m1, m2, m3, m4, m5, m6, m7⟩ := hM t ht hs
    have Y0 : ∀ {post : Int32 → SY → Prop}, (∀ x, dp_M 30 (dp_K (ex_L vl R) (kn_w g ch e) (c e) 0) x → ∀ (yrowLength yfirst : Int32) (yrow yends ylack yshortest : Nat → Int32), (nI x < 100000 → post (nI x) (latestPlace, yroot, yrowLength, yfirst, youts, ytop, ykind, ywith, ysize, kindOfType, listedCount, attributeUse, attributeType, leastOf, greatestOf, listedValue, typeOfName, inUse, hasValue, hasAttribute, nameOf, yparent, kids, kidCount, yrow, valueOf, attributeValue, yends, ylack, yshortest, youtKind, youtWith, ywork, yworkWith, yweight, yfollow, yfirsts, ylasts, ybare, ymet, ynameAt, ytokenAt, ytodo)) ∧ (¬ nI x < 100000 → post (-1) (latestPlace, yroot, yrowLength, yfirst, youts, ytop, ykind, ywith, ysize, kindOfType, listedCount, attributeUse, attributeType, leastOf, greatestOf, listedValue, typeOfName, inUse, hasValue, hasAttribute, nameOf, yparent, kids, kidCount, yrow, valueOf, attributeValue, yends, ylack, yshortest, youtKind, youtWith, ywork, yworkWith, yweight, yfollow, yfirsts, ylasts, ybare, ymet, ynameAt, ytokenAt, ytodo))) → wpY_missing post (latestPlace, yroot, yrowLength, yfirst, youts, ytop, ykind, ywith, ysize, kindOfType, listedCount, attributeUse, attributeType, leastOf, greatestOf, listedValue, typeOfName, inUse, hasValue, hasAttribute, nameOf, yparent, kids, kidCount, yrow, valueOf, attributeValue, yends, ylack, yshortest, youtKind, youtWith, ywork, yworkWith, yweight, yfollow, yfirsts, ylasts, ybare, ymet, ynameAt, ytokenAt, ytodo) (nI e) := by
      intro post h
      unfold wpY_missing
      refine cx_Y1 a2 he hu ht tn hs ?_
      refine br_t (nb_pos (by omega)) ?_
      refine sy_rowOf (g := g) (ch := ch) he (by omega) hct hkk a2 (fun row hrow => ?_)
      refine sy_examine (w := kn_w g ch e) ht (by omega) (fun i hi => ⟨hrow i hi, hrn i hi⟩) m2 m1 m3 m4 m5 m6 (fun f sh en lk x _ hx hm => ?_)
      have h' := h x hm (nI (c e)) f row en lk sh
      show (lk 0 < 100000 → _) ∧ _
      rw [hx]
      exact h'
    refine ⟨ve, ?_⟩
    rw [nb_cl (by omega), hct]
    refine sx_afterKids (fr := 0) (to := c e) (g := g) (ch := ch) (by omega) he (by omega) (by omega) hkk a2 ⟨32, ?_⟩
    refine sx_mis32 (u := dp_sl (kn_w g ch e) (c e - 0) 0) ht (dp_N hrn _ 0 (by omega)) m7 (fun m hm hv hn => ?_) (fun hn => ?_) 31 0 (by omega) (fun m' hm' => by omega)
    · refine Y0 (fun x hx yrowLength yfirst yrow yends ylack yshortest => ?_)
      rcases hx with ⟨⟨v, lv, hv'⟩, h30, hmin⟩ | ⟨_, hno⟩
      · have e1 : x = m := by
          have q1 := hmin m (by obtain ⟨v, lv, hv⟩ := hv; exact ⟨v, lv, hv⟩)
          rcases Nat.lt_or_ge x m with q | q
          · exact absurd ⟨v, lv, hv'⟩ (hn x q)
          · omega
        exact br_t (nI_lt (b := 100000) (by omega) (by omega)) ⟨by rw [e1], i_mk hD hT hM hE⟩
      · obtain ⟨v, lv, hv⟩ := hv
        exact absurd ⟨v, lv, hv⟩ (hno m)
    · refine Y0 (fun x hx yrowLength yfirst yrow yends ylack yshortest => ?_)
      rcases hx with ⟨⟨v, lv, hv'⟩, h30, hmin⟩ | ⟨hx0, hno⟩
      · exact absurd ⟨v, lv, hv'⟩ (hn x (by omega))
      · exact br_f (by rw [hx0]; decide) ⟨rfl, i_mk hD hT hM hE⟩
end
section
/-! ===== one expression or not; the weight, on both sides ===== -/
theorem ex_w4 : ∀ R : ex_T, ex_W R → 4 * ex_w R ≤ 4 ^ ex_n R := by
  have p1 : ∀ n, 1 ≤ 4 ^ n := fun n => Nat.pow_pos (by omega)
  have two : ∀ a b x y : Nat, 4 * x ≤ 4 ^ a → 4 * y ≤ 4 ^ b → 4 * (2 * (x + y)) ≤ 4 ^ (1 + a + b) := by
    intro a b x y h1 h2
    have e : 4 ^ (1 + a + b) = 4 * (4 ^ a * 4 ^ b) := by rw [Nat.pow_add, Nat.pow_add, Nat.pow_one, Nat.mul_assoc]
    have m1 : 4 ^ a * 1 ≤ 4 ^ a * 4 ^ b := Nat.mul_le_mul_left _ (p1 b)
    have m2 : 1 * 4 ^ b ≤ 4 ^ a * 4 ^ b := Nat.mul_le_mul_right _ (p1 a)
    omega
  intro R
  induction R with
  | num k => intro _; simp only [ex_w, ex_n]; omega
  | natCast k => intro _; simp only [ex_w, ex_n]; omega
  | intCast k => intro _; simp only [ex_w, ex_n]; omega
  | var i => intro _; simp only [ex_w, ex_n]; omega
  | neg a ih =>
    intro h
    have := ih h
    simp only [ex_w, ex_n]
    rw [Nat.pow_add, Nat.pow_one]
    omega
  | add a b iha ihb =>
    intro h
    have := two _ _ _ _ (iha h.1) (ihb h.2)
    simp only [ex_w, ex_n]
    omega
  | mul a b iha ihb =>
    intro h
    have := two _ _ _ _ (iha h.1) (ihb h.2)
    simp only [ex_w, ex_n]
    omega
  | sub a b iha ihb =>
    intro h
    exact two _ _ _ _ (iha h.1) (ihb h.2)
  | pow a k ih =>
    intro h
    have h1 := ih h.1
    have h2 : ex_m k ≤ 4 := by
      unfold ex_m
      split <;> omega
    simp only [ex_w, ex_n]
    rw [Nat.pow_add, Nat.pow_one]
    have h3 : ex_m k * ex_w a ≤ 4 * ex_w a := Nat.mul_le_mul_right _ h2
    omega
theorem ex_w_lt {R : ex_T} (hW : ex_W R) (hn : ex_n R ≤ 16) : ex_w R ≤ 2 ^ 30 := by
  have h1 := ex_w4 R hW
  have h2 : 4 ^ ex_n R ≤ 4 ^ 16 := Nat.pow_le_pow_right (by omega) hn
  have h3 : (4 : Nat) ^ 16 = 4 * 2 ^ 30 := by decide
  omega
def wc_n (w : Nat) : Nat := if w ≤ 1000 then w else 1000
/-- the reference's weights of a tree and of all its parts -/
def wg_P (wt : Nat → Int32) : ex_T → Nat → Prop
  | .var i => fun b => wt b = nI (wc_n (ex_w (.var i)))
  | .num i => fun b => wt b = nI (wc_n (ex_w (.num i)))
  | .natCast _ => fun _ => False
  | .intCast _ => fun _ => False
  | .neg x => fun b => wt b = nI (wc_n (ex_w (.neg x))) ∧ wg_P wt x (b + 1)
  | .add x y => fun b => wt b = nI (wc_n (ex_w (.add x y))) ∧ wg_P wt x (b + 1) ∧ wg_P wt y (b + 1 + ex_n x)
  | .mul x y => fun b => wt b = nI (wc_n (ex_w (.mul x y))) ∧ wg_P wt x (b + 1) ∧ wg_P wt y (b + 1 + ex_n x)
  | .sub x y => fun b => wt b = nI (wc_n (ex_w (.sub x y))) ∧ wg_P wt x (b + 1) ∧ wg_P wt y (b + 1 + ex_n x)
  | .pow x k => fun b => wt b = nI (wc_n (ex_w (.pow x k))) ∧ wg_P wt x (b + 1)
theorem wg_b {wt : Nat → Int32} : ∀ {R : ex_T} {b : Nat}, wg_P wt R b → wt b = nI (wc_n (ex_w R)) := by
  intro R b h
  cases R with
  | var i => exact h
  | num i => exact h
  | natCast i => exact h.elim
  | intCast i => exact h.elim
  | neg x => exact h.1
  | add x y => exact h.1
  | mul x y => exact h.1
  | sub x y => exact h.1
  | pow x k => exact h.1
theorem wg_cg {wt wt' : Nat → Int32} : ∀ (R : ex_T) (b : Nat), (∀ j, b ≤ j → wt' j = wt j) → wg_P wt R b → wg_P wt' R b := by
  intro R
  induction R with
  | var i => intro b h hP; exact (h b (Nat.le_refl _)).trans hP
  | num i => intro b h hP; exact (h b (Nat.le_refl _)).trans hP
  | natCast i => intro b h hP; exact hP.elim
  | intCast i => intro b h hP; exact hP.elim
  | neg x ih => intro b h hP; exact ⟨(h b (Nat.le_refl _)).trans hP.1, ih _ (fun j hj => h j (by omega)) hP.2⟩
  | add x y ihx ihy => intro b h hP; exact ⟨(h b (Nat.le_refl _)).trans hP.1, ihx _ (fun j hj => h j (by omega)) hP.2.1, ihy _ (fun j hj => h j (by omega)) hP.2.2⟩
  | mul x y ihx ihy => intro b h hP; exact ⟨(h b (Nat.le_refl _)).trans hP.1, ihx _ (fun j hj => h j (by omega)) hP.2.1, ihy _ (fun j hj => h j (by omega)) hP.2.2⟩
  | sub x y ihx ihy => intro b h hP; exact ⟨(h b (Nat.le_refl _)).trans hP.1, ihx _ (fun j hj => h j (by omega)) hP.2.1, ihy _ (fun j hj => h j (by omega)) hP.2.2⟩
  | pow x k ih => intro b h hP; exact ⟨(h b (Nat.le_refl _)).trans hP.1, ih _ (fun j hj => h j (by omega)) hP.2⟩
section
variable {drafted latestPlace positions fragments elementCount : Int32} {draftKind draftValue weights tokenAt fragmentBegin fragmentFirst fragmentLast fragmentEmpty reachedWith follow bearing accepting kindOfType leastOf greatestOf listedCount listedValue attributeUse attributeType typeOfName inUse nameOf parentOf kidCount kids hasValue valueOf hasAttribute attributeValue walked waiting : Nat → Int32} {yplace yroot yrowLength yfirst youts ytop : Int32} {ykind ywith ysize ysort ymany yuse ytypeOf yleast ygreatest ylisted ytypeOfName yused yvalued ygiven yname yparent ychildren ycount yrow yvalue yattributes yends ylack yshortest youtKind youtWith ywork yworkWith yweight yfollow yfirsts ylasts ybare ymet ynameAt ytokenAt ytodo : Nat → Int32}
theorem sx_one4 {post : Int32 → Prop} {d : Nat} {kd : Nat → Nat} (hd : d ≤ 16) (hk : ∀ i, i < d → draftKind i = nI (kd i) ∧ kd i < 9) : ∀ m i c, i + m = d → c + m ≤ 40 → (ex_sc kd m i c → post 1) → (¬ ex_sc kd m i c → post 0) → wX_isOneExpression_4 post (nI d) latestPlace positions fragments elementCount draftKind draftValue weights tokenAt fragmentBegin fragmentFirst fragmentLast fragmentEmpty reachedWith follow bearing accepting kindOfType leastOf greatestOf listedCount listedValue attributeUse attributeType typeOfName inUse nameOf parentOf kidCount kids hasValue valueOf hasAttribute attributeValue walked waiting (m + 1) (nI c) (nI i) := by
  intro m
  induction m with
  | zero =>
    intro i c hi hc h1 h0
    exact br_t (nI_le (by omega) (by omega)) (pk_eq c 0 (fun q => h1 q) (fun q => h0 q))
  | succ m ih =>
    intro i c hi hc h1 h0
    refine br_f (nI_ge (by omega) (by omega)) (pk_eq c 0 (fun q => h0 (fun q2 => q2.1 q)) (fun q => ⟨vp_in_nI (by omega) (by omega), ?_⟩))
    obtain ⟨k1, k2⟩ := hk i (by omega)
    rw [nb_cl (by omega), k1]
    obtain ⟨c, rfl⟩ : ∃ c', c = c' + 1 := ⟨c - 1, by omega⟩
    have hp : ex_pt (kd i) ≤ 2 := by unfold ex_pt; split; omega; split <;> omega
    refine sx_parts k2 (nm_r (nb_pt c _) (nm_r (nI_1 i) (ih (i + 1) _ (by omega) (by omega) (fun q2 => h1 ⟨by omega, ?_⟩) (fun q2 => h0 (fun q3 => q2 ?_)))))
    · rw [show c + 1 + ex_pt (kd i) - 1 = c + ex_pt (kd i) by omega]; exact q2
    · have := q3.2
      rw [show c + 1 + ex_pt (kd i) - 1 = c + ex_pt (kd i) by omega] at this
      exact this
theorem sx_isOne {post : Int32 → Prop} {d : Nat} {kd : Nat → Nat} (hd : d ≤ 16) (hk : ∀ i, i < d → draftKind i = nI (kd i) ∧ kd i < 9) (h1 : ex_sc kd d 0 1 → post 1) (h0 : ¬ ex_sc kd d 0 1 → post 0) : wpX_isOneExpression post (nI d, latestPlace, positions, fragments, elementCount, draftKind, draftValue, weights, tokenAt, fragmentBegin, fragmentFirst, fragmentLast, fragmentEmpty, reachedWith, follow, bearing, accepting, kindOfType, leastOf, greatestOf, listedCount, listedValue, attributeUse, attributeType, typeOfName, inUse, nameOf, parentOf, kidCount, kids, hasValue, valueOf, hasAttribute, attributeValue, walked, waiting) :=
  ⟨d + 1, sx_one4 hd hk d 0 1 (by omega) (by omega) h1 h0⟩
theorem sy_one5 {post : Int32 → Prop} {d : Nat} {kd : Nat → Nat} (hd : d ≤ 16) (hk : ∀ i, i < d → ykind (96 + i) = nI (kd i) ∧ kd i < 9) : ∀ m i c, i + m = d → c + m ≤ 40 → (ex_sc kd m i c → post (nI (96 + d))) → (¬ ex_sc kd m i c → ∀ r : Int32, r ≠ nI (96 + d) → post r) → wY_endOf_5 post (nI (96 + d)) yplace yroot yrowLength yfirst youts ytop ykind ywith ysize ysort ymany yuse ytypeOf yleast ygreatest ylisted ytypeOfName yused yvalued ygiven yname yparent ychildren ycount yrow yvalue yattributes yends ylack yshortest youtKind youtWith ywork yworkWith yweight yfollow yfirsts ylasts ybare ymet ynameAt ytokenAt ytodo (m + 1) (nI c) (nI (96 + i)) := by
  intro m
  induction m with
  | zero =>
    intro i c hi hc h1 h0
    by_cases c0 : c = 0
    · subst c0
      refine br_t (by decide) (br_t (by decide) ?_)
      rw [show i = d by omega]
      exact h1 rfl
    · have nc : ¬ nI c ≤ 0 := by rw [nb_le0 (by omega)]; exact c0
      refine br_f nc (br_t (nI_le (by omega) (by omega)) (br_f nc (h0 c0 _ ?_)))
      rw [nI_1]
      exact fun q => absurd ((nI_eq (by omega) (by omega)).mp q) (by omega)
  | succ m ih =>
    intro i c hi hc h1 h0
    by_cases c0 : c = 0
    · subst c0
      refine br_t (by decide) (br_t (by decide) (h0 (fun q => q.1 rfl) _ ?_))
      exact fun q => absurd ((nI_eq (by omega) (by omega)).mp q) (by omega)
    · have nc : ¬ nI c ≤ 0 := by rw [nb_le0 (by omega)]; exact c0
      refine br_f nc (br_f (nI_ge (by omega) (by omega)) ⟨vp_in_nI (by omega) (by omega), ?_⟩)
      obtain ⟨k1, k2⟩ := hk i (by omega)
      rw [nb_cl (by omega), k1]
      obtain ⟨c, rfl⟩ : ∃ c', c = c' + 1 := ⟨c - 1, by omega⟩
      have hp : ex_pt (kd i) ≤ 2 := by unfold ex_pt; split; omega; split <;> omega
      refine sy_parts k2 (nm_r (nb_pt c _) (nm_r (nI_1 _) (ih (i + 1) _ (by omega) (by omega) (fun q2 => h1 ⟨by omega, ?_⟩) (fun q2 => h0 (fun q3 => q2 ?_)))))
      · rw [show c + 1 + ex_pt (kd i) - 1 = c + ex_pt (kd i) by omega]; exact q2
      · have := q3.2
        rw [show c + 1 + ex_pt (kd i) - 1 = c + ex_pt (kd i) by omega] at this
        exact this
theorem sy_one {post : Int32 → Prop} {d : Nat} {kd : Nat → Nat} (hd : d ≤ 16) (hk : ∀ i, i < d → ykind (96 + i) = nI (kd i) ∧ kd i < 9) (h1 : ex_sc kd d 0 1 → post (nI (96 + d))) (h0 : ¬ ex_sc kd d 0 1 → ∀ r : Int32, r ≠ nI (96 + d) → post r) : wpY_endOf post (yplace, yroot, yrowLength, yfirst, youts, ytop, ykind, ywith, ysize, ysort, ymany, yuse, ytypeOf, yleast, ygreatest, ylisted, ytypeOfName, yused, yvalued, ygiven, yname, yparent, ychildren, ycount, yrow, yvalue, yattributes, yends, ylack, yshortest, youtKind, youtWith, ywork, yworkWith, yweight, yfollow, yfirsts, ylasts, ybare, ymet, ynameAt, ytokenAt, ytodo) (nI 96) (nI (96 + d)) :=
  ⟨d + 1, sy_one5 hd hk d 0 1 (by omega) (by omega) h1 h0⟩
/-- the component's weight of a tree, on a pile of s weights -/
theorem sx_dwT {post : Int32 → SX → Prop} {d : Nat} {kd vl : Nat → Nat} (hd : d ≤ 16) (hk : ∀ i, i < d → draftKind i = nI (kd i) ∧ kd i < 9 ∧ (kd i = 8 → draftValue i = nI (vl i) ∧ vl i < 16)) : ∀ (R : ex_T) (b s fu : Nat) (wt : Nat → Int32), ex_S kd vl R b → b + ex_n R ≤ d → s + b + ex_n R ≤ 16 → (∀ wt' : Nat → Int32, wt' s = nI (ex_w R) → (∀ j, j < s → wt' j = wt j) → wX_draftWeight_9 post (nI d) latestPlace positions fragments elementCount fu (nI s) (nI b + (-1)) draftKind draftValue wt' tokenAt fragmentBegin fragmentFirst fragmentLast fragmentEmpty reachedWith follow bearing accepting kindOfType leastOf greatestOf listedCount listedValue attributeUse attributeType typeOfName inUse nameOf parentOf kidCount kids hasValue valueOf hasAttribute attributeValue walked waiting) → wX_draftWeight_9 post (nI d) latestPlace positions fragments elementCount (fu + ex_n R) (nI s + (-1)) (nI (b + ex_n R) + (-1)) draftKind draftValue wt tokenAt fragmentBegin fragmentFirst fragmentLast fragmentEmpty reachedWith follow bearing accepting kindOfType leastOf greatestOf listedCount listedValue attributeUse attributeType typeOfName inUse nameOf parentOf kidCount kids hasValue valueOf hasAttribute attributeValue walked waiting := by
  have head : ∀ (b kk s fu : Nat) (x1 : Int32) (wt : Nat → Int32), b < d → kd b = kk → ((nI (ex_pt kk) = 0 → ∀ y : Int32, y = x1 + 1 → ((nI kk = 0 → (vp_in y 16 ∧ ∀ a : Nat → Int32, a = upd wt y.toNatClampNeg 1 → ∀ z : Int32, z = nI b + (-1) → wX_draftWeight_9 post (nI d) latestPlace positions fragments elementCount fu y z draftKind draftValue a tokenAt fragmentBegin fragmentFirst fragmentLast fragmentEmpty reachedWith follow bearing accepting kindOfType leastOf greatestOf listedCount listedValue attributeUse attributeType typeOfName inUse nameOf parentOf kidCount kids hasValue valueOf hasAttribute attributeValue walked waiting)) ∧ (¬ nI kk = 0 → (vp_in y 16 ∧ ∀ a : Nat → Int32, a = upd wt y.toNatClampNeg 0 → ∀ z : Int32, z = nI b + (-1) → wX_draftWeight_9 post (nI d) latestPlace positions fragments elementCount fu y z draftKind draftValue a tokenAt fragmentBegin fragmentFirst fragmentLast fragmentEmpty reachedWith follow bearing accepting kindOfType leastOf greatestOf listedCount listedValue attributeUse attributeType typeOfName inUse nameOf parentOf kidCount kids hasValue valueOf hasAttribute attributeValue walked waiting)))) ∧ (¬ nI (ex_pt kk) = 0 → wpX_partsOf (fun r_7 => ((r_7 = 2 → ∀ y : Int32, y = x1 + (-1) → (vp_in y 16 ∧ (vp_in (y + 1) 16 ∧ ∀ x4 : Int32, x4 = wt y.toNatClampNeg + wt (y + 1).toNatClampNeg → ((nI kk = 7 → (vp_in y 16 ∧ ∀ a : Nat → Int32, a = upd wt y.toNatClampNeg (2 * x4) → ∀ z : Int32, z = nI b + (-1) → wX_draftWeight_9 post (nI d) latestPlace positions fragments elementCount fu y z draftKind draftValue a tokenAt fragmentBegin fragmentFirst fragmentLast fragmentEmpty reachedWith follow bearing accepting kindOfType leastOf greatestOf listedCount listedValue attributeUse attributeType typeOfName inUse nameOf parentOf kidCount kids hasValue valueOf hasAttribute attributeValue walked waiting)) ∧ (¬ nI kk = 7 → (vp_in y 16 ∧ ∀ a : Nat → Int32, a = upd wt y.toNatClampNeg x4 → ∀ z : Int32, z = nI b + (-1) → wX_draftWeight_9 post (nI d) latestPlace positions fragments elementCount fu y z draftKind draftValue a tokenAt fragmentBegin fragmentFirst fragmentLast fragmentEmpty reachedWith follow bearing accepting kindOfType leastOf greatestOf listedCount listedValue attributeUse attributeType typeOfName inUse nameOf parentOf kidCount kids hasValue valueOf hasAttribute attributeValue walked waiting)))))) ∧ (¬ r_7 = 2 → ((nI kk = 8 → (vp_in (nI b) 16 ∧ wpX_mostTimes (fun r_12 => (vp_in x1 16 ∧ (vp_in x1 16 ∧ ∀ a : Nat → Int32, a = upd wt x1.toNatClampNeg (r_12 * wt x1.toNatClampNeg) → ∀ z : Int32, z = nI b + (-1) → wX_draftWeight_9 post (nI d) latestPlace positions fragments elementCount fu x1 z draftKind draftValue a tokenAt fragmentBegin fragmentFirst fragmentLast fragmentEmpty reachedWith follow bearing accepting kindOfType leastOf greatestOf listedCount listedValue attributeUse attributeType typeOfName inUse nameOf parentOf kidCount kids hasValue valueOf hasAttribute attributeValue walked waiting))) (draftValue b))) ∧ (¬ nI kk = 8 → ∀ z : Int32, z = nI b + (-1) → wX_draftWeight_9 post (nI d) latestPlace positions fragments elementCount fu x1 z draftKind draftValue wt tokenAt fragmentBegin fragmentFirst fragmentLast fragmentEmpty reachedWith follow bearing accepting kindOfType leastOf greatestOf listedCount listedValue attributeUse attributeType typeOfName inUse nameOf parentOf kidCount kids hasValue valueOf hasAttribute attributeValue walked waiting))))) (nI kk))) → wX_draftWeight_9 post (nI d) latestPlace positions fragments elementCount (fu + 1) x1 (nI (b + 1) + (-1)) draftKind draftValue wt tokenAt fragmentBegin fragmentFirst fragmentLast fragmentEmpty reachedWith follow bearing accepting kindOfType leastOf greatestOf listedCount listedValue attributeUse attributeType typeOfName inUse nameOf parentOf kidCount kids hasValue valueOf hasAttribute attributeValue walked waiting := by
    intro b kk s fu x1 wt hb hkk h
    obtain ⟨k1, k2, _⟩ := hk b hb
    rw [nb_a1]
    show (nI b < 0 → _) ∧ _
    refine br_f (nI_pos (by omega)) ⟨vp_in_nI (by omega) (by omega), nm_r (e' := nI kk) (by rw [nb_cl (by omega), k1, hkk]) ?_⟩
    rw [nb_cl (n := b) (by omega)]
    exact sx_parts (by omega) h
  have two : ∀ (P Q : ex_T) (kk W : Nat), (kk = 1 ∨ kk = 2 ∨ kk = 7) → W = (if kk = 7 then 2 * (ex_w P + ex_w Q) else ex_w P + ex_w Q) →
      (∀ (b s fu : Nat) (wt : Nat → Int32), ex_S kd vl P b → b + ex_n P ≤ d → s + b + ex_n P ≤ 16 → (∀ wt' : Nat → Int32, wt' s = nI (ex_w P) → (∀ j, j < s → wt' j = wt j) → wX_draftWeight_9 post (nI d) latestPlace positions fragments elementCount fu (nI s) (nI b + (-1)) draftKind draftValue wt' tokenAt fragmentBegin fragmentFirst fragmentLast fragmentEmpty reachedWith follow bearing accepting kindOfType leastOf greatestOf listedCount listedValue attributeUse attributeType typeOfName inUse nameOf parentOf kidCount kids hasValue valueOf hasAttribute attributeValue walked waiting) → wX_draftWeight_9 post (nI d) latestPlace positions fragments elementCount (fu + ex_n P) (nI s + (-1)) (nI (b + ex_n P) + (-1)) draftKind draftValue wt tokenAt fragmentBegin fragmentFirst fragmentLast fragmentEmpty reachedWith follow bearing accepting kindOfType leastOf greatestOf listedCount listedValue attributeUse attributeType typeOfName inUse nameOf parentOf kidCount kids hasValue valueOf hasAttribute attributeValue walked waiting) →
      (∀ (b s fu : Nat) (wt : Nat → Int32), ex_S kd vl Q b → b + ex_n Q ≤ d → s + b + ex_n Q ≤ 16 → (∀ wt' : Nat → Int32, wt' s = nI (ex_w Q) → (∀ j, j < s → wt' j = wt j) → wX_draftWeight_9 post (nI d) latestPlace positions fragments elementCount fu (nI s) (nI b + (-1)) draftKind draftValue wt' tokenAt fragmentBegin fragmentFirst fragmentLast fragmentEmpty reachedWith follow bearing accepting kindOfType leastOf greatestOf listedCount listedValue attributeUse attributeType typeOfName inUse nameOf parentOf kidCount kids hasValue valueOf hasAttribute attributeValue walked waiting) → wX_draftWeight_9 post (nI d) latestPlace positions fragments elementCount (fu + ex_n Q) (nI s + (-1)) (nI (b + ex_n Q) + (-1)) draftKind draftValue wt tokenAt fragmentBegin fragmentFirst fragmentLast fragmentEmpty reachedWith follow bearing accepting kindOfType leastOf greatestOf listedCount listedValue attributeUse attributeType typeOfName inUse nameOf parentOf kidCount kids hasValue valueOf hasAttribute attributeValue walked waiting) →
      ∀ (b s fu : Nat) (wt : Nat → Int32), kd b = kk → ex_S kd vl P (b + 1) → ex_S kd vl Q (b + 1 + ex_n P) → b + (1 + ex_n P + ex_n Q) ≤ d → s + b + (1 + ex_n P + ex_n Q) ≤ 16 → (∀ wt' : Nat → Int32, wt' s = nI W → (∀ j, j < s → wt' j = wt j) → wX_draftWeight_9 post (nI d) latestPlace positions fragments elementCount fu (nI s) (nI b + (-1)) draftKind draftValue wt' tokenAt fragmentBegin fragmentFirst fragmentLast fragmentEmpty reachedWith follow bearing accepting kindOfType leastOf greatestOf listedCount listedValue attributeUse attributeType typeOfName inUse nameOf parentOf kidCount kids hasValue valueOf hasAttribute attributeValue walked waiting) → wX_draftWeight_9 post (nI d) latestPlace positions fragments elementCount (fu + (1 + ex_n P + ex_n Q)) (nI s + (-1)) (nI (b + (1 + ex_n P + ex_n Q)) + (-1)) draftKind draftValue wt tokenAt fragmentBegin fragmentFirst fragmentLast fragmentEmpty reachedWith follow bearing accepting kindOfType leastOf greatestOf listedCount listedValue attributeUse attributeType typeOfName inUse nameOf parentOf kidCount kids hasValue valueOf hasAttribute attributeValue walked waiting := by
    intro P Q kk W hkk hW ihP ihQ b s fu wt hkb hSP hSQ hbd hs h
    have pP := ex_n_pos P
    have pQ := ex_n_pos Q
    rw [show fu + (1 + ex_n P + ex_n Q) = fu + 1 + ex_n P + ex_n Q by omega, show b + (1 + ex_n P + ex_n Q) = b + 1 + ex_n P + ex_n Q by omega]
    refine ihQ (b + 1 + ex_n P) s (fu + 1 + ex_n P) wt hSQ (by omega) (by omega) (fun w1 e1 f1 => ?_)
    rw [show nI s = nI (s + 1) + (-1) from (nb_a1 s).symm]
    refine ihP (b + 1) (s + 1) (fu + 1) w1 hSP (by omega) (by omega) (fun w2 e2 f2 => ?_)
    have v1 : vp_in (nI s) 16 := vp_in_nI (by omega) (by omega)
    have cs : (nI s).toNatClampNeg = s := nb_cl (by omega)
    have n0 : ¬ nI (ex_pt kk) = 0 := by rcases hkk with rfl | rfl | rfl <;> decide
    refine head b kk s fu _ w2 (by omega) hkb (br_f n0 (sx_parts (by omega) (br_t (by rcases hkk with rfl | rfl | rfl <;> rfl) (nm_r (nb_a1 s) ?_))))
    rw [nI_1, cs, nb_cl (n := s + 1) (by omega), e2, f2 s (by omega), e1, nI_add]
    refine ⟨v1, vp_in_nI (by omega) (by omega), nm_e ?_⟩
    have fin : ∀ v : Int32, v = nI W → wX_draftWeight_9 post (nI d) latestPlace positions fragments elementCount fu (nI s) (nI b + (-1)) draftKind draftValue (upd w2 s v) tokenAt fragmentBegin fragmentFirst fragmentLast fragmentEmpty reachedWith follow bearing accepting kindOfType leastOf greatestOf listedCount listedValue attributeUse attributeType typeOfName inUse nameOf parentOf kidCount kids hasValue valueOf hasAttribute attributeValue walked waiting := by
      intro v hv
      refine h _ (by rw [pk_us, hv]) (fun j hj => ?_)
      rw [pk_un (by omega), f2 j (by omega), f1 j (by omega)]
    by_cases q : kk = 7
    · refine br_t (by rw [q]; rfl) ⟨v1, nm_e (nm_e (fin _ ?_))⟩
      rw [hW, if_pos q, show ex_w Q + ex_w P = ex_w P + ex_w Q by omega]
      exact pk_mul 2 _
    · refine br_f (fun e => q ((nI_eq (b := 7) (by omega) (by omega)).mp e)) ⟨v1, nm_e (nm_e (fin _ ?_))⟩
      rw [hW, if_neg q, show ex_w Q + ex_w P = ex_w P + ex_w Q by omega]
  intro R
  induction R with
  | natCast k => intro b s fu wt hS; exact hS.elim
  | intCast k => intro b s fu wt hS; exact hS.elim
  | num k =>
    intro b s fu wt hS hbd hs h
    simp only [ex_n] at hbd hs h ⊢
    refine head b 6 s fu _ wt (by omega) hS (br_t rfl (nm_r (e' := nI s) (by grind) (br_f (by decide) ⟨vp_in_nI (by omega) (by omega), nm_r (e' := upd wt s (nI 0)) (by rw [nb_cl (by omega)]; rfl) (nm_e (h _ pk_us (fun j hj => pk_un (by omega))))⟩)))
  | var i =>
    intro b s fu wt hS hbd hs h
    simp only [ex_n] at hbd hs h ⊢
    refine head b 0 s fu _ wt (by omega) hS.1 (br_t rfl (nm_r (e' := nI s) (by grind) (br_t rfl ⟨vp_in_nI (by omega) (by omega), nm_r (e' := upd wt s (nI 1)) (by rw [nb_cl (by omega)]; rfl) (nm_e (h _ pk_us (fun j hj => pk_un (by omega))))⟩)))
  | neg P ih =>
    intro b s fu wt hS hbd hs h
    simp only [ex_n] at hbd hs h ⊢
    rw [show fu + (1 + ex_n P) = fu + 1 + ex_n P by omega, show b + (1 + ex_n P) = b + 1 + ex_n P by omega]
    refine ih (b + 1) s (fu + 1) wt hS.2 (by omega) (by omega) (fun w1 e1 f1 => ?_)
    exact head b 3 s fu _ w1 (by omega) hS.1 (br_f (by decide) (sx_parts (by omega) (br_f (by decide) (br_f (by decide) (nm_e (h w1 e1 f1))))))
  | pow P k ih =>
    intro b s fu wt hS hbd hs h
    simp only [ex_n] at hbd hs h ⊢
    obtain ⟨s1, s2⟩ := hS
    rw [show fu + (1 + ex_n P) = fu + 1 + ex_n P by omega, show b + (1 + ex_n P) = b + 1 + ex_n P by omega]
    refine ih (b + 1) s (fu + 1) wt s2 (by omega) (by omega) (fun w1 e1 f1 => ?_)
    rcases s1 with ⟨r1, r2, r3⟩ | ⟨r1, r2⟩ | ⟨r1, r2⟩
    · obtain ⟨_, _, k3⟩ := hk b (by omega)
      obtain ⟨k4, k5⟩ := k3 r2
      have v1 : vp_in (nI s) 16 := vp_in_nI (by omega) (by omega)
      refine head b 8 s fu _ w1 (by omega) r2 (br_f (by decide) (sx_parts (by omega) (br_f (by decide) (br_t rfl ⟨vp_in_nI (by omega) (by omega), ?_⟩))))
      rw [k4]
      refine ⟨v1, v1, nm_r (e' := upd w1 s (nI (vl b % 4 * ex_w P))) (by rw [nb_cl (n := s) (by omega), e1, tk_an (by omega), pk_mul]) (nm_e (h _ ?_ (fun j hj => ?_)))⟩
      · rw [pk_us, r3]
        show nI (k % 4 * ex_w P) = nI (ex_m k * ex_w P)
        unfold ex_m
        rw [if_pos r1]
      · rw [pk_un (by omega), f1 j hj]
    · refine head b 4 s fu _ w1 (by omega) r2 (br_f (by decide) (sx_parts (by omega) (br_f (by decide) (br_f (by decide) (nm_e (h w1 ?_ f1))))))
      rw [e1, r1]
      show nI (ex_w P) = nI (ex_m 16 * ex_w P)
      rw [show ex_m 16 = 1 from rfl, Nat.one_mul]
    · refine head b 5 s fu _ w1 (by omega) r2 (br_f (by decide) (sx_parts (by omega) (br_f (by decide) (br_f (by decide) (nm_e (h w1 ?_ f1))))))
      rw [e1, r1]
      show nI (ex_w P) = nI (ex_m 17 * ex_w P)
      rw [show ex_m 17 = 1 from rfl, Nat.one_mul]
  | add P Q ihP ihQ =>
    intro b s fu wt hS hbd hs h
    simp only [ex_n] at hbd hs h ⊢
    exact two P Q 2 _ (by omega) rfl ihP ihQ b s fu wt hS.1 hS.2.1 hS.2.2 hbd hs h
  | mul P Q ihP ihQ =>
    intro b s fu wt hS hbd hs h
    simp only [ex_n] at hbd hs h ⊢
    exact two P Q 1 _ (by omega) rfl ihP ihQ b s fu wt hS.1 hS.2.1 hS.2.2 hbd hs h
  | sub P Q ihP ihQ =>
    intro b s fu wt hS hbd hs h
    simp only [ex_n] at hbd hs h ⊢
    exact two P Q 7 _ (by omega) rfl ihP ihQ b s fu wt hS.1 hS.2.1 hS.2.2 hbd hs h
theorem sx_draftWeight {post : Int32 → SX → Prop} {kd vl : Nat → Nat} {R : ex_T} (hd : ex_n R ≤ 16) (hk : ∀ i, i < ex_n R → draftKind i = nI (kd i) ∧ kd i < 9 ∧ (kd i = 8 → draftValue i = nI (vl i) ∧ vl i < 16)) (hS : ex_S kd vl R 0) (h : ∀ wt : Nat → Int32, post (nI (ex_w R)) (nI (ex_n R), latestPlace, positions, fragments, elementCount, draftKind, draftValue, wt, tokenAt, fragmentBegin, fragmentFirst, fragmentLast, fragmentEmpty, reachedWith, follow, bearing, accepting, kindOfType, leastOf, greatestOf, listedCount, listedValue, attributeUse, attributeType, typeOfName, inUse, nameOf, parentOf, kidCount, kids, hasValue, valueOf, hasAttribute, attributeValue, walked, waiting)) : wpX_draftWeight post (nI (ex_n R), latestPlace, positions, fragments, elementCount, draftKind, draftValue, weights, tokenAt, fragmentBegin, fragmentFirst, fragmentLast, fragmentEmpty, reachedWith, follow, bearing, accepting, kindOfType, leastOf, greatestOf, listedCount, listedValue, attributeUse, attributeType, typeOfName, inUse, nameOf, parentOf, kidCount, kids, hasValue, valueOf, hasAttribute, attributeValue, walked, waiting) := by
  refine nm_r (e' := nI (0 + ex_n R) + (-1)) (by rw [nb_dec, Nat.zero_add]) ⟨1 + ex_n R, ?_⟩
  refine sx_dwT (d := ex_n R) (kd := kd) (vl := vl) hd hk R 0 0 1 weights hS (by omega) (by omega) (fun wt e _ => br_t nb_d0 ?_)
  rw [e]
  exact h wt
end
end
section
/-! ===== the reference's weights ===== -/
theorem wc_le (w : Nat) : wc_n w ≤ 1000 := by unfold wc_n; split <;> omega
theorem wc_0 (w : Nat) : wc_n w = 0 ↔ w = 0 := by unfold wc_n; split <;> omega
theorem wc_30 (w : Nat) : wc_n w ≤ 30 ↔ w ≤ 30 := by unfold wc_n; split <;> omega
theorem wc_cs (w : Nat) : (w ≤ 1000 ∧ wc_n w = w) ∨ (1000 < w ∧ wc_n w = 1000) := by
  by_cases q : w ≤ 1000
  · exact Or.inl ⟨q, if_pos q⟩
  · exact Or.inr ⟨by omega, if_neg q⟩
theorem wc_add (a b : Nat) : wc_n (wc_n a + wc_n b) = wc_n (a + b) := by
  rcases wc_cs a with h1 | h1 <;> rcases wc_cs b with h2 | h2 <;> rcases wc_cs (wc_n a + wc_n b) with h3 | h3 <;> rcases wc_cs (a + b) with h4 | h4 <;> omega
theorem wc_2 (a b : Nat) : wc_n (2 * (wc_n a + wc_n b)) = wc_n (2 * (a + b)) := by
  rcases wc_cs a with h1 | h1 <;> rcases wc_cs b with h2 | h2 <;> rcases wc_cs (2 * (wc_n a + wc_n b)) with h3 | h3 <;> rcases wc_cs (2 * (a + b)) with h4 | h4 <;> omega
theorem wc_m (m a : Nat) (h : 1 ≤ m) : wc_n (m * wc_n a) = wc_n (m * a) := by
  by_cases q : a ≤ 1000
  · rw [show wc_n a = a from if_pos q]
  · have e : wc_n a = 1000 := if_neg q
    have h1 : 1 * 1000 ≤ m * 1000 := Nat.mul_le_mul_right _ h
    have h2 : m * 1000 ≤ m * a := Nat.mul_le_mul_left _ (by omega)
    rw [e]
    unfold wc_n
    by_cases q2 : m * 1000 ≤ 1000
    · rw [if_pos q2]
      by_cases q3 : m * a ≤ 1000
      · rw [if_pos q3]; omega
      · rw [if_neg q3]; omega
    · rw [if_neg q2, if_neg (by omega)]
section
variable {yplace yroot yrowLength yfirst youts ytop : Int32} {ykind ywith ysize ysort ymany yuse ytypeOf yleast ygreatest ylisted ytypeOfName yused yvalued ygiven yname yparent ychildren ycount yrow yvalue yattributes yends ylack yshortest youtKind youtWith ywork yworkWith yweight yfollow yfirsts ylasts ybare ymet ynameAt ytokenAt ytodo : Nat → Int32}
theorem sy_w141 {post : SY → Prop} {J : Int32 → (Nat → Int32) → (Nat → Int32) → (Nat → Int32) → (Nat → Int32) → (Nat → Int32) → (Nat → Int32) → (Nat → Int32) → (Nat → Int32) → (Nat → Int32) → (Nat → Int32) → (Nat → Int32) → (Nat → Int32) → (Nat → Int32) → (Nat → Int32) → (Nat → Int32) → (Nat → Int32) → (Nat → Int32) → (Nat → Int32) → (Nat → Int32) → (Nat → Int32) → (Nat → Int32) → (Nat → Int32) → (Nat → Int32) → (Nat → Int32) → (Nat → Int32) → (Nat → Int32) → (Nat → Int32) → (Nat → Int32) → (Nat → Int32) → (Nat → Int32) → (Nat → Int32) → (Nat → Int32) → (Nat → Int32) → (Nat → Int32) → (Nat → Int32) → (Nat → Int32) → (Nat → Int32) → Prop} {b z : Nat} {x1 : Int32} (hb : b < 16) (hz : z < 2 ^ 31) (h : J (nI b + (-1)) ykind ywith ysize ysort ymany yuse ytypeOf yleast ygreatest ylisted ytypeOfName yused yvalued ygiven yname yparent ychildren ycount yrow yvalue yattributes yends ylack yshortest youtKind youtWith ywork yworkWith (upd yweight b (nI (wc_n z))) yfollow yfirsts ylasts ybare ymet ynameAt ytokenAt ytodo) : wY_weigh_141 post J x1 (nI b) (nI z) yplace yroot yrowLength yfirst youts ytop ykind ywith ysize ysort ymany yuse ytypeOf yleast ygreatest ylisted ytypeOfName yused yvalued ygiven yname yparent ychildren ycount yrow yvalue yattributes yends ylack yshortest youtKind youtWith ywork yworkWith yweight yfollow yfirsts ylasts ybare ymet ynameAt ytokenAt ytodo := by
  have v : vp_in (nI b) 16 := vp_in_nI hb (by omega)
  have c : (nI b).toNatClampNeg = b := nb_cl (by omega)
  refine pk_le z 1000 (fun q => ⟨v, nm_r (e' := upd yweight b (nI (wc_n z))) (by rw [c, show wc_n z = z from if_pos q]) (nm_e h)⟩) (fun q => ⟨v, nm_r (e' := upd yweight b (nI (wc_n z))) (by rw [c, show wc_n z = 1000 from if_neg (by omega)]; rfl) (nm_e h)⟩)
theorem sy_wgT {post : SY → Prop} {d : Nat} {kd vl : Nat → Nat} (hd : d ≤ 16) (hK : rl_K ykind ywith 96 d kd vl) : ∀ (R : ex_T) (b fu : Nat) (wt : Nat → Int32), ex_S kd vl R b → ex_W R → b + ex_n R ≤ d → (∀ wt' : Nat → Int32, wg_P wt' R b → (∀ j, b + ex_n R ≤ j → wt' j = wt j) → wY_weigh_4 post (nI d) yplace yroot yrowLength yfirst youts ytop fu (nI b + (-1)) ykind ywith ysize ysort ymany yuse ytypeOf yleast ygreatest ylisted ytypeOfName yused yvalued ygiven yname yparent ychildren ycount yrow yvalue yattributes yends ylack yshortest youtKind youtWith ywork yworkWith wt' yfollow yfirsts ylasts ybare ymet ynameAt ytokenAt ytodo) → wY_weigh_4 post (nI d) yplace yroot yrowLength yfirst youts ytop (fu + ex_n R) (nI (b + ex_n R) + (-1)) ykind ywith ysize ysort ymany yuse ytypeOf yleast ygreatest ylisted ytypeOfName yused yvalued ygiven yname yparent ychildren ycount yrow yvalue yattributes yends ylack yshortest youtKind youtWith ywork yworkWith wt yfollow yfirsts ylasts ybare ymet ynameAt ytokenAt ytodo := by
  have e96 : ∀ b, (96 : Int32) + nI b = nI (96 + b) := fun b => nI_add 96 b
  have e97 : ∀ b, (97 : Int32) + nI b = nI (96 + (b + 1)) := fun b => by rw [show 96 + (b + 1) = 97 + b by omega]; exact nI_add 97 b
  have kind : ∀ b kk, b < d → kd b = kk → ykind (96 + b) = nI kk := fun b kk hb q => by rw [(hK b hb).1, q]
  -- leaves and unary tokens
  have head1 : ∀ (b kk fu x : Nat) (wt : Nat → Int32), b < d → kd b = kk → kk < 9 → (ex_pt kk = 0 ∧ x = 0) ∨ (ex_pt kk = 1 ∧ b + 1 < 16 ∧ wt (b + 1) = nI x) → wY_weigh_87 post (wY_weigh_4 post (nI d) yplace yroot yrowLength yfirst youts ytop fu) (nI d) (nI b) (nI kk) (nI x) 0 yplace yroot yrowLength yfirst youts ytop ykind ywith ysize ysort ymany yuse ytypeOf yleast ygreatest ylisted ytypeOfName yused yvalued ygiven yname yparent ychildren ycount yrow yvalue yattributes yends ylack yshortest youtKind youtWith ywork yworkWith wt yfollow yfirsts ylasts ybare ymet ynameAt ytokenAt ytodo → wY_weigh_4 post (nI d) yplace yroot yrowLength yfirst youts ytop (fu + 1) (nI (b + 1) + (-1)) ykind ywith ysize ysort ymany yuse ytypeOf yleast ygreatest ylisted ytypeOfName yused yvalued ygiven yname yparent ychildren ycount yrow yvalue yattributes yends ylack yshortest youtKind youtWith ywork yworkWith wt yfollow yfirsts ylasts ybare ymet ynameAt ytokenAt ytodo := by
    intro b kk fu x wt hb hkk h9 hx h
    rw [nb_a1]
    show (nI b < 0 → _) ∧ _
    rw [e96, nb_cl (n := 96 + b) (by omega), kind b kk hb hkk]
    refine br_f (nI_pos (by omega)) ⟨vp_in_nI (by omega) (by omega), nm_e (sy_parts h9 ?_)⟩
    have t37 : ex_pt kk ≤ 1 → wY_weigh_37 post (wY_weigh_4 post (nI d) yplace yroot yrowLength yfirst youts ytop fu) (nI d) (nI b) (nI kk) (nI x) yplace yroot yrowLength yfirst youts ytop ykind ywith ysize ysort ymany yuse ytypeOf yleast ygreatest ylisted ytypeOfName yused yvalued ygiven yname yparent ychildren ycount yrow yvalue yattributes yends ylack yshortest youtKind youtWith ywork yworkWith wt yfollow yfirsts ylasts ybare ymet ynameAt ytokenAt ytodo := by
      intro hp
      unfold wY_weigh_37
      refine sy_parts h9 (br_t (nI_le (b := 1) hp (by omega)) ?_)
      unfold wY_weigh_66
      exact sy_parts h9 (br_t (nI_le (b := 1) hp (by omega)) h)
    rcases hx with ⟨hp, hx⟩ | ⟨hp, hb1, hx⟩
    · subst hx
      exact br_t (by rw [hp]; decide) (t37 (by omega))
    · refine br_f (by rw [hp]; decide) ?_
      rw [nI_1, nb_cl (n := b + 1) (by omega), hx]
      exact ⟨vp_in_nI hb1 (by omega), t37 (by omega)⟩
  have head2 : ∀ (P : ex_T) (b kk fu x z : Nat) (wt : Nat → Int32), kd b = kk → (kk = 1 ∨ kk = 2 ∨ kk = 7) → ex_S kd vl P (b + 1) → b + 1 + ex_n P < d → wt (b + 1) = nI x → wt (b + 1 + ex_n P) = nI z → wY_weigh_87 post (wY_weigh_4 post (nI d) yplace yroot yrowLength yfirst youts ytop fu) (nI d) (nI b) (nI kk) (nI x) (nI z) yplace yroot yrowLength yfirst youts ytop ykind ywith ysize ysort ymany yuse ytypeOf yleast ygreatest ylisted ytypeOfName yused yvalued ygiven yname yparent ychildren ycount yrow yvalue yattributes yends ylack yshortest youtKind youtWith ywork yworkWith wt yfollow yfirsts ylasts ybare ymet ynameAt ytokenAt ytodo → wY_weigh_4 post (nI d) yplace yroot yrowLength yfirst youts ytop (fu + 1) (nI (b + 1) + (-1)) ykind ywith ysize ysort ymany yuse ytypeOf yleast ygreatest ylisted ytypeOfName yused yvalued ygiven yname yparent ychildren ycount yrow yvalue yattributes yends ylack yshortest youtKind youtWith ywork yworkWith wt yfollow yfirsts ylasts ybare ymet ynameAt ytokenAt ytodo := by
    intro P b kk fu x z wt hkk hk3 hSP hb hx hz h
    have hp : ex_pt kk = 2 := by rcases hk3 with rfl | rfl | rfl <;> rfl
    have h9 : kk < 9 := by omega
    rw [nb_a1]
    show (nI b < 0 → _) ∧ _
    rw [e96, nb_cl (n := 96 + b) (by omega), kind b kk (by omega) hkk]
    refine br_f (nI_pos (by omega)) ⟨vp_in_nI (by omega) (by omega), nm_e (sy_parts h9 (br_f (by rw [hp]; decide) ?_))⟩
    rw [nI_1, nb_cl (n := b + 1) (by omega), hx]
    refine ⟨vp_in_nI (by omega) (by omega), ?_⟩
    unfold wY_weigh_37
    refine sy_parts h9 (br_f (by rw [hp]; decide) ?_)
    rw [e97, e96]
    refine sy_endOf (o := 96) (j := b + 1) (N := d) hK (by omega) (by omega) (by omega) hSP (by omega) ?_
    rw [show (96 : Int32) = nI 96 from rfl, pk_sub (by omega), show 96 + (b + 1 + ex_n P) - 96 = b + 1 + ex_n P by omega]
    unfold wY_weigh_66
    refine sy_parts h9 (br_f (by rw [hp]; decide) ?_)
    rw [nb_cl (n := b + 1 + ex_n P) (by omega), hz]
    exact ⟨vp_in_nI (by omega) (by omega), h⟩
  have two : ∀ (P Q R : ex_T) (kk : Nat), (kk = 1 ∨ kk = 2 ∨ kk = 7) → ex_w R = (if kk = 7 then 2 * (ex_w P + ex_w Q) else ex_w P + ex_w Q) → (∀ (wt : Nat → Int32) b, wt b = nI (wc_n (ex_w R)) → wg_P wt P (b + 1) → wg_P wt Q (b + 1 + ex_n P) → wg_P wt R b) →
      (∀ (b fu : Nat) (wt : Nat → Int32), ex_S kd vl P b → ex_W P → b + ex_n P ≤ d → (∀ wt' : Nat → Int32, wg_P wt' P b → (∀ j, b + ex_n P ≤ j → wt' j = wt j) → wY_weigh_4 post (nI d) yplace yroot yrowLength yfirst youts ytop fu (nI b + (-1)) ykind ywith ysize ysort ymany yuse ytypeOf yleast ygreatest ylisted ytypeOfName yused yvalued ygiven yname yparent ychildren ycount yrow yvalue yattributes yends ylack yshortest youtKind youtWith ywork yworkWith wt' yfollow yfirsts ylasts ybare ymet ynameAt ytokenAt ytodo) → wY_weigh_4 post (nI d) yplace yroot yrowLength yfirst youts ytop (fu + ex_n P) (nI (b + ex_n P) + (-1)) ykind ywith ysize ysort ymany yuse ytypeOf yleast ygreatest ylisted ytypeOfName yused yvalued ygiven yname yparent ychildren ycount yrow yvalue yattributes yends ylack yshortest youtKind youtWith ywork yworkWith wt yfollow yfirsts ylasts ybare ymet ynameAt ytokenAt ytodo) →
      (∀ (b fu : Nat) (wt : Nat → Int32), ex_S kd vl Q b → ex_W Q → b + ex_n Q ≤ d → (∀ wt' : Nat → Int32, wg_P wt' Q b → (∀ j, b + ex_n Q ≤ j → wt' j = wt j) → wY_weigh_4 post (nI d) yplace yroot yrowLength yfirst youts ytop fu (nI b + (-1)) ykind ywith ysize ysort ymany yuse ytypeOf yleast ygreatest ylisted ytypeOfName yused yvalued ygiven yname yparent ychildren ycount yrow yvalue yattributes yends ylack yshortest youtKind youtWith ywork yworkWith wt' yfollow yfirsts ylasts ybare ymet ynameAt ytokenAt ytodo) → wY_weigh_4 post (nI d) yplace yroot yrowLength yfirst youts ytop (fu + ex_n Q) (nI (b + ex_n Q) + (-1)) ykind ywith ysize ysort ymany yuse ytypeOf yleast ygreatest ylisted ytypeOfName yused yvalued ygiven yname yparent ychildren ycount yrow yvalue yattributes yends ylack yshortest youtKind youtWith ywork yworkWith wt yfollow yfirsts ylasts ybare ymet ynameAt ytokenAt ytodo) →
      ∀ (b fu : Nat) (wt : Nat → Int32), kd b = kk → ex_S kd vl P (b + 1) → ex_S kd vl Q (b + 1 + ex_n P) → ex_W P → ex_W Q → b + (1 + ex_n P + ex_n Q) ≤ d → (∀ wt' : Nat → Int32, wg_P wt' R b → (∀ j, b + (1 + ex_n P + ex_n Q) ≤ j → wt' j = wt j) → wY_weigh_4 post (nI d) yplace yroot yrowLength yfirst youts ytop fu (nI b + (-1)) ykind ywith ysize ysort ymany yuse ytypeOf yleast ygreatest ylisted ytypeOfName yused yvalued ygiven yname yparent ychildren ycount yrow yvalue yattributes yends ylack yshortest youtKind youtWith ywork yworkWith wt' yfollow yfirsts ylasts ybare ymet ynameAt ytokenAt ytodo) → wY_weigh_4 post (nI d) yplace yroot yrowLength yfirst youts ytop (fu + (1 + ex_n P + ex_n Q)) (nI (b + (1 + ex_n P + ex_n Q)) + (-1)) ykind ywith ysize ysort ymany yuse ytypeOf yleast ygreatest ylisted ytypeOfName yused yvalued ygiven yname yparent ychildren ycount yrow yvalue yattributes yends ylack yshortest youtKind youtWith ywork yworkWith wt yfollow yfirsts ylasts ybare ymet ynameAt ytokenAt ytodo := by
    intro P Q R kk hk3 hW hR ihP ihQ b fu wt hkb hSP hSQ hWP hWQ hbd h
    have pP := ex_n_pos P
    have pQ := ex_n_pos Q
    have l1 := wc_le (ex_w P)
    have l2 := wc_le (ex_w Q)
    rw [show fu + (1 + ex_n P + ex_n Q) = fu + 1 + ex_n P + ex_n Q by omega, show b + (1 + ex_n P + ex_n Q) = b + 1 + ex_n P + ex_n Q by omega]
    refine ihQ (b + 1 + ex_n P) (fu + 1 + ex_n P) wt hSQ hWQ (by omega) (fun w1 g1 f1 => ?_)
    refine ihP (b + 1) (fu + 1) w1 hSP hWP (by omega) (fun w2 g2 f2 => ?_)
    have g1' : wg_P w2 Q (b + 1 + ex_n P) := wg_cg Q _ f2 g1
    refine head2 P b kk fu (wc_n (ex_w P)) (wc_n (ex_w Q)) w2 hkb hk3 hSP (by omega) (wg_b g2) (wg_b g1') ?_
    have fin : wY_weigh_4 post (nI d) yplace yroot yrowLength yfirst youts ytop fu (nI b + (-1)) ykind ywith ysize ysort ymany yuse ytypeOf yleast ygreatest ylisted ytypeOfName yused yvalued ygiven yname yparent ychildren ycount yrow yvalue yattributes yends ylack yshortest youtKind youtWith ywork yworkWith (upd w2 b (nI (wc_n (ex_w R)))) yfollow yfirsts ylasts ybare ymet ynameAt ytokenAt ytodo := by
      refine h _ (hR _ b pk_us (wg_cg P _ (fun j hj => pk_un (by omega)) g2) (wg_cg Q _ (fun j hj => pk_un (by omega)) g1')) (fun j hj => ?_)
      rw [pk_un (by omega), f2 j (by omega), f1 j (by omega)]
    have k0 : ¬ nI kk = 0 := nI_ne0 (by omega) (by omega)
    refine br_f k0 ?_
    by_cases q : kk = 7
    · refine br_t (by rw [q]; rfl) ?_
      rw [nI_add, show (2 : Int32) = nI 2 from rfl, pk_mul]
      refine sy_w141 (by omega) (by omega) ?_
      rw [wc_2]
      rw [hW, if_pos q] at fin
      exact fin
    · refine br_f (fun e => q ((nI_eq (b := 7) (by omega) (by omega)).mp e)) (br_f (fun e => absurd ((nI_eq (b := 8) (by omega) (by omega)).mp e) (by omega)) ?_)
      rw [nI_add]
      refine sy_w141 (by omega) (by omega) ?_
      rw [wc_add]
      rw [hW, if_neg q] at fin
      exact fin
  intro R
  induction R with
  | natCast k => intro b fu wt hS; exact hS.elim
  | intCast k => intro b fu wt hS; exact hS.elim
  | num k =>
    intro b fu wt hS hW hbd h
    simp only [ex_n] at hbd h ⊢
    refine head1 b 6 fu 0 wt (by omega) hS (by omega) (Or.inl ⟨rfl, rfl⟩) (br_f (by decide) (br_f (by decide) (br_f (by decide) (sy_w141 (z := 0) (by omega) (by omega) (h _ pk_us (fun j hj => pk_un (by omega)))))))
  | var i =>
    intro b fu wt hS hW hbd h
    simp only [ex_n] at hbd h ⊢
    refine head1 b 0 fu 0 wt (by omega) hS.1 (by omega) (Or.inl ⟨rfl, rfl⟩) (br_t rfl (sy_w141 (z := 1) (by omega) (by omega) (h _ pk_us (fun j hj => pk_un (by omega)))))
  | neg P ih =>
    intro b fu wt hS hW hbd h
    simp only [ex_n] at hbd h ⊢
    have pP := ex_n_pos P
    have l1 := wc_le (ex_w P)
    rw [show fu + (1 + ex_n P) = fu + 1 + ex_n P by omega, show b + (1 + ex_n P) = b + 1 + ex_n P by omega]
    refine ih (b + 1) (fu + 1) wt hS.2 hW (by omega) (fun w1 g1 f1 => ?_)
    refine head1 b 3 fu (wc_n (ex_w P)) w1 (by omega) hS.1 (by omega) (Or.inr ⟨rfl, by omega, wg_b g1⟩) (br_f (by decide) (br_f (by decide) (br_f (by decide) ?_)))
    rw [show (0 : Int32) = nI 0 from rfl, nI_add]
    refine sy_w141 (by omega) (by omega) (h _ ⟨?_, wg_cg P _ (fun j hj => pk_un (by omega)) g1⟩ (fun j hj => ?_))
    · rw [pk_us, Nat.add_zero]
      show nI (wc_n (wc_n (ex_w P))) = nI (wc_n (ex_w P))
      have := wc_m 1 (ex_w P) (Nat.le_refl _)
      rw [Nat.one_mul, Nat.one_mul] at this
      rw [this]
    · rw [pk_un (by omega), f1 j (by omega)]
  | pow P k ih =>
    intro b fu wt hS hW hbd h
    simp only [ex_n] at hbd h ⊢
    obtain ⟨s1, s2⟩ := hS
    have pP := ex_n_pos P
    have l1 := wc_le (ex_w P)
    have hm1 := ex_m_pos hW.2.2
    rw [show fu + (1 + ex_n P) = fu + 1 + ex_n P by omega, show b + (1 + ex_n P) = b + 1 + ex_n P by omega]
    refine ih (b + 1) (fu + 1) wt s2 hW.1 (by omega) (fun w1 g1 f1 => ?_)
    have fin : wY_weigh_4 post (nI d) yplace yroot yrowLength yfirst youts ytop fu (nI b + (-1)) ykind ywith ysize ysort ymany yuse ytypeOf yleast ygreatest ylisted ytypeOfName yused yvalued ygiven yname yparent ychildren ycount yrow yvalue yattributes yends ylack yshortest youtKind youtWith ywork yworkWith (upd w1 b (nI (wc_n (ex_m k * wc_n (ex_w P))))) yfollow yfirsts ylasts ybare ymet ynameAt ytokenAt ytodo := by
      refine h _ ⟨?_, wg_cg P _ (fun j hj => pk_un (by omega)) g1⟩ (fun j hj => ?_)
      · rw [pk_us, wc_m _ _ hm1]; rfl
      · rw [pk_un (by omega), f1 j (by omega)]
    rcases s1 with ⟨r1, r2, r3⟩ | ⟨r1, r2⟩ | ⟨r1, r2⟩
    · obtain ⟨_, _, _, _, q5⟩ := hK b (by omega)
      have wv := q5 (Or.inr r2)
      refine head1 b 8 fu (wc_n (ex_w P)) w1 (by omega) r2 (by omega) (Or.inr ⟨rfl, by omega, wg_b g1⟩) (br_f (by decide) (br_f (by decide) (br_t rfl ?_)))
      rw [e96, nb_cl (n := 96 + b) (by omega), wv, r3, tk_an (by omega), pk_mul]
      have hmk : ex_m k = k % 4 := if_pos r1
      rw [hmk] at fin
      have hle : k % 4 * wc_n (ex_w P) ≤ 3 * 1000 := Nat.mul_le_mul (by omega) l1
      exact ⟨vp_in_nI (by omega) (by omega), sy_w141 (by omega) (by omega) fin⟩
    · subst r1
      refine head1 b 4 fu (wc_n (ex_w P)) w1 (by omega) r2 (by omega) (Or.inr ⟨rfl, by omega, wg_b g1⟩) (br_f (by decide) (br_f (by decide) (br_f (by decide) ?_)))
      rw [show (0 : Int32) = nI 0 from rfl, nI_add]
      rw [show ex_m 16 = 1 from rfl, Nat.one_mul] at fin
      exact sy_w141 (by omega) (by omega) fin
    · subst r1
      refine head1 b 5 fu (wc_n (ex_w P)) w1 (by omega) r2 (by omega) (Or.inr ⟨rfl, by omega, wg_b g1⟩) (br_f (by decide) (br_f (by decide) (br_f (by decide) ?_)))
      rw [show (0 : Int32) = nI 0 from rfl, nI_add]
      rw [show ex_m 17 = 1 from rfl, Nat.one_mul] at fin
      exact sy_w141 (by omega) (by omega) fin
  | add P Q ihP ihQ =>
    intro b fu wt hS hW hbd h
    simp only [ex_n] at hbd h ⊢
    exact two P Q (.add P Q) 2 (by omega) rfl (fun wt b h1 h2 h3 => ⟨h1, h2, h3⟩) ihP ihQ b fu wt hS.1 hS.2.1 hS.2.2 hW.1 hW.2 hbd h
  | mul P Q ihP ihQ =>
    intro b fu wt hS hW hbd h
    simp only [ex_n] at hbd h ⊢
    exact two P Q (.mul P Q) 1 (by omega) rfl (fun wt b h1 h2 h3 => ⟨h1, h2, h3⟩) ihP ihQ b fu wt hS.1 hS.2.1 hS.2.2 hW.1 hW.2 hbd h
  | sub P Q ihP ihQ =>
    intro b fu wt hS hW hbd h
    simp only [ex_n] at hbd h ⊢
    exact two P Q (.sub P Q) 7 (by omega) rfl (fun wt b h1 h2 h3 => ⟨h1, h2, h3⟩) ihP ihQ b fu wt hS.1 hS.2.1 hS.2.2 hW.1 hW.2 hbd h
theorem sy_weigh {post : SY → Prop} {kd vl : Nat → Nat} {R : ex_T} (hd : ex_n R ≤ 16) (hK : rl_K ykind ywith 96 (ex_n R) kd vl) (hS : ex_S kd vl R 0) (hW : ex_W R) (h : ∀ wt : Nat → Int32, wg_P wt R 0 → post (yplace, yroot, yrowLength, yfirst, youts, ytop, ykind, ywith, ysize, ysort, ymany, yuse, ytypeOf, yleast, ygreatest, ylisted, ytypeOfName, yused, yvalued, ygiven, yname, yparent, ychildren, ycount, yrow, yvalue, yattributes, yends, ylack, yshortest, youtKind, youtWith, ywork, yworkWith, wt, yfollow, yfirsts, ylasts, ybare, ymet, ynameAt, ytokenAt, ytodo)) : wpY_weigh post (yplace, yroot, yrowLength, yfirst, youts, ytop, ykind, ywith, ysize, ysort, ymany, yuse, ytypeOf, yleast, ygreatest, ylisted, ytypeOfName, yused, yvalued, ygiven, yname, yparent, ychildren, ycount, yrow, yvalue, yattributes, yends, ylack, yshortest, youtKind, youtWith, ywork, yworkWith, yweight, yfollow, yfirsts, ylasts, ybare, ymet, ynameAt, ytokenAt, ytodo) (nI (ex_n R)) := by
  refine nm_r (e' := nI (0 + ex_n R) + (-1)) (by rw [nb_dec, Nat.zero_add]) ⟨1 + ex_n R, ?_⟩
  exact sy_wgT (d := ex_n R) (kd := kd) (vl := vl) hd hK R 0 1 yweight hS hW (by omega) (fun wt hg _ => br_t nb_d0 (h wt hg))
end
end
section
/-! ===== the component's fragments: link, chain, unite, a copy ===== -/
def xb_g (ta fo : Nat → Int32) (lo hi : Nat) (F Λ E : Int32) (L : List Nat → Prop) : Prop := gl_F (fun p q => bt (fo (186 + p)) q = true) (fun p => (ta p).toNatClampNeg) (fun p => lo ≤ p ∧ p < hi) (fun q => bt F q = true) (fun q => bt Λ q = true) (E ≠ 0) L
theorem xb_cg {ta fo ta' fo' : Nat → Int32} {lo hi : Nat} {F Λ E : Int32} {L : List Nat → Prop} (h : xb_g ta fo lo hi F Λ E L) (h1 : ∀ p, lo ≤ p → p < hi → ta' p = ta p ∧ fo' (186 + p) = fo (186 + p)) : xb_g ta' fo' lo hi F Λ E L := by
  refine gl_F_cg h (fun p q hp => ?_) (fun p hp => ?_)
  · show bt (fo' (186 + p)) q = true ↔ bt (fo (186 + p)) q = true
    rw [(h1 p hp.1 hp.2).2]
  · show (ta' p).toNatClampNeg = (ta p).toNatClampNeg
    rw [(h1 p hp.1 hp.2).1]
theorem xb_L {ta fo : Nat → Int32} {lo hi : Nat} {F Λ E : Int32} {L L' : List Nat → Prop} (h : xb_g ta fo lo hi F Λ E L) (hL : ∀ u, L' u ↔ L u) : xb_g ta fo lo hi F Λ E L' := gl_F_eq h (fun _ => Iff.rfl) (fun _ => Iff.rfl) (fun _ => Iff.rfl) Iff.rfl hL
def lk_f (fo : Nat → Int32) (A B : Int32) (m : Nat) : Nat → Int32 := fun j => if 186 ≤ j ∧ j < 186 + m ∧ bt A (j - 186) = true then fo j ||| B else fo j
theorem lk_0 (fo : Nat → Int32) (A B : Int32) : lk_f fo A B 0 = fo := by
  funext j
  unfold lk_f
  rw [if_neg (by omega)]
theorem lk_t {fo : Nat → Int32} {A B : Int32} {m : Nat} (h : bt A m = true) : upd (lk_f fo A B m) (186 + m) (lk_f fo A B m (186 + m) ||| B) = lk_f fo A B (m + 1) := by
  funext j
  unfold upd
  by_cases e : j = 186 + m
  · rw [if_pos e, e]
    unfold lk_f
    rw [if_neg (by omega), if_pos ⟨by omega, by omega, by rw [show 186 + m - 186 = m by omega]; exact h⟩]
  · rw [if_neg e]
    unfold lk_f
    by_cases q : 186 ≤ j ∧ j < 186 + m ∧ bt A (j - 186) = true
    · rw [if_pos q, if_pos ⟨q.1, by omega, q.2.2⟩]
    · rw [if_neg q, if_neg (fun q' => q ⟨q'.1, by omega, q'.2.2⟩)]
theorem lk_n {fo : Nat → Int32} {A B : Int32} {m : Nat} (h : bt A m = false) : lk_f fo A B m = lk_f fo A B (m + 1) := by
  funext j
  unfold lk_f
  by_cases q : 186 ≤ j ∧ j < 186 + m ∧ bt A (j - 186) = true
  · rw [if_pos q, if_pos ⟨q.1, by omega, q.2.2⟩]
  · rw [if_neg q, if_neg (fun q' => by
      by_cases e : j = 186 + m
      · rw [e, show 186 + m - 186 = m by omega, h] at q'
        exact absurd q'.2.2 Bool.false_ne_true
      · exact q ⟨q'.1, by omega, q'.2.2⟩)]
theorem lk_I {fo : Nat → Int32} {A B : Int32} {p q : Nat} (hA : ∀ i, bt A i = true → i < 30) : bt (lk_f fo A B 30 (186 + p)) q = true ↔ bt (fo (186 + p)) q = true ∨ (bt A p = true ∧ bt B q = true) := by
  unfold lk_f
  by_cases h : 186 ≤ 186 + p ∧ 186 + p < 186 + 30 ∧ bt A (186 + p - 186) = true
  · rw [if_pos h, bb_orI]
    rw [show 186 + p - 186 = p by omega] at h
    constructor
    · rintro (r | r)
      · exact Or.inl r
      · exact Or.inr ⟨h.2.2, r⟩
    · rintro (r | r)
      · exact Or.inl r
      · exact Or.inr r.2
  · rw [if_neg h]
    constructor
    · exact Or.inl
    · rintro (r | r)
      · exact r
      · exfalso
        apply h
        rw [show 186 + p - 186 = p by omega]
        have := hA p r.1
        exact ⟨by omega, by omega, r.1⟩
theorem lk_out {fo : Nat → Int32} {A B : Int32} {j : Nat} (h : j < 186 ∨ bt A (j - 186) = false) : lk_f fo A B 30 j = fo j := by
  unfold lk_f
  rw [if_neg (fun q => by
    rcases h with h | h
    · omega
    · rw [h] at q; exact absurd q.2.2 Bool.false_ne_true)]
/-- a or, if e is not 0, a and b -/
def or_e (a b e : Int32) : Int32 := a ||| (if e = 0 then 0 else b)
theorem or_eI {a b e : Int32} {q : Nat} : bt (or_e a b e) q = true ↔ bt a q = true ∨ (e ≠ 0 ∧ bt b q = true) := by
  unfold or_e
  by_cases h : e = 0
  · rw [if_pos h, bb_orI, b_0]
    exact ⟨fun r => r.elim Or.inl (fun r => absurd r Bool.false_ne_true), fun r => r.elim Or.inl (fun r => absurd h r.1)⟩
  · rw [if_neg h, bb_orI]
    exact ⟨fun r => r.elim Or.inl (fun r => Or.inr ⟨h, r⟩), fun r => r.elim Or.inl (fun r => Or.inr r.2)⟩
def an_e (a b : Int32) : Int32 := if a = 0 then 0 else if b = 0 then 0 else 1
theorem an_eI (a b : Int32) : an_e a b ≠ 0 ↔ a ≠ 0 ∧ b ≠ 0 := by
  unfold an_e
  by_cases h : a = 0
  · rw [if_pos h]; exact ⟨fun r => absurd rfl r, fun r => absurd h r.1⟩
  · rw [if_neg h]
    by_cases h2 : b = 0
    · rw [if_pos h2]; exact ⟨fun r => absurd rfl r, fun r => absurd h2 r.2⟩
    · rw [if_neg h2]; exact ⟨fun _ => ⟨h, h2⟩, fun _ => nb_10⟩
theorem an_01 (a b : Int32) : an_e a b = 0 ∨ an_e a b = 1 := by unfold an_e; split; exact Or.inl rfl; split; exact Or.inl rfl; exact Or.inr rfl
def ow_e (a b : Int32) : Int32 := if a = 0 then (if b = 0 then 0 else 1) else 1
theorem ow_eI (a b : Int32) : ow_e a b ≠ 0 ↔ a ≠ 0 ∨ b ≠ 0 := by
  unfold ow_e
  by_cases h : a = 0
  · rw [if_pos h]
    by_cases h2 : b = 0
    · rw [if_pos h2]; exact ⟨fun r => absurd rfl r, fun r => r.elim (fun r => absurd h r) (fun r => absurd h2 r)⟩
    · rw [if_neg h2]; exact ⟨fun _ => Or.inr h2, fun _ => nb_10⟩
  · rw [if_neg h]; exact ⟨fun _ => Or.inl h, fun _ => nb_10⟩
theorem ow_01 (a b : Int32) : ow_e a b = 0 ∨ ow_e a b = 1 := by unfold ow_e; split; split; exact Or.inl rfl; exact Or.inr rfl; exact Or.inr rfl
/-- a row moved up by s -/
def cp_a (g : Nat → Int32) (o b m s : Nat) (h : Int32 → Int32) : Nat → Int32 := fun j => if o + b + s ≤ j ∧ j < o + b + m + s then h (g (j - s)) else g j
theorem cp_0 (g : Nat → Int32) (o b s : Nat) (h : Int32 → Int32) : cp_a g o b 0 s h = g := by
  funext j
  unfold cp_a
  rw [if_neg (by omega)]
theorem cp_s {g : Nat → Int32} {o b m s : Nat} {h : Int32 → Int32} : upd (cp_a g o b m s h) (o + b + m + s) (h (g (o + b + m))) = cp_a g o b (m + 1) s h := by
  funext j
  unfold upd
  by_cases e : j = o + b + m + s
  · rw [if_pos e]
    unfold cp_a
    rw [if_pos (by omega), e, Nat.add_sub_cancel]
  · rw [if_neg e]
    unfold cp_a
    by_cases q : o + b + s ≤ j ∧ j < o + b + m + s
    · rw [if_pos q, if_pos (by omega)]
    · rw [if_neg q, if_neg (by omega)]
theorem cp_out {g : Nat → Int32} {o b m s : Nat} {h : Int32 → Int32} {j : Nat} (q : j < o + b + s ∨ o + b + m + s ≤ j) : cp_a g o b m s h j = g j := by
  unfold cp_a
  rw [if_neg (by omega)]
theorem cp_in {g : Nat → Int32} {o b m s : Nat} {h : Int32 → Int32} {j : Nat} (q1 : o + b ≤ j) (q2 : j < o + b + m) : cp_a g o b m s h (j + s) = h (g j) := by
  unfold cp_a
  rw [if_pos (by omega), Nat.add_sub_cancel]
section
variable {drafted latestPlace positions fragments elementCount : Int32} {draftKind draftValue weights tokenAt fragmentBegin fragmentFirst fragmentLast fragmentEmpty reachedWith follow bearing accepting kindOfType leastOf greatestOf listedCount listedValue attributeUse attributeType typeOfName inUse nameOf parentOf kidCount kids hasValue valueOf hasAttribute attributeValue walked waiting : Nat → Int32}
theorem sx_lnk2 {post : SX → Prop} {A B : Int32} (h : post (drafted, latestPlace, positions, fragments, elementCount, draftKind, draftValue, weights, tokenAt, fragmentBegin, fragmentFirst, fragmentLast, fragmentEmpty, reachedWith, lk_f follow A B 30, bearing, accepting, kindOfType, leastOf, greatestOf, listedCount, listedValue, attributeUse, attributeType, typeOfName, inUse, nameOf, parentOf, kidCount, kids, hasValue, valueOf, hasAttribute, attributeValue, walked, waiting)) : ∀ m i, i + m = 30 → wX_link_2 post A B drafted latestPlace positions fragments elementCount (m + 1) (nI i) draftKind draftValue weights tokenAt fragmentBegin fragmentFirst fragmentLast fragmentEmpty reachedWith (lk_f follow A B i) bearing accepting kindOfType leastOf greatestOf listedCount listedValue attributeUse attributeType typeOfName inUse nameOf parentOf kidCount kids hasValue valueOf hasAttribute attributeValue walked waiting := by
  intro m
  induction m with
  | zero =>
    intro i hi
    obtain rfl : i = 30 := by omega
    exact br_t (by decide) h
  | succ m ih =>
    intro i hi
    have ih' := ih (i + 1) (by omega)
    refine br_f (nI_ge (b := 30) (by omega) (by omega)) ?_
    cases hb : bt A i with
    | false =>
      rw [← lk_n hb] at ih'
      exact br_t ((bb_t A (by omega)).mpr hb) (nm_r (nI_1 i) ih')
    | true =>
      rw [← lk_t hb] at ih'
      refine br_f ((bb_t' A (by omega)).mpr hb) ?_
      rw [show (186 : Int32) + nI i = nI (186 + i) from nI_add 186 i, nb_cl (by omega)]
      exact ⟨vp_in_nI (by omega) (by omega), vp_in_nI (by omega) (by omega), nm_e (nm_r (nI_1 i) ih')⟩
theorem sx_link {post : SX → Prop} {A B : Int32} (h : post (drafted, latestPlace, positions, fragments, elementCount, draftKind, draftValue, weights, tokenAt, fragmentBegin, fragmentFirst, fragmentLast, fragmentEmpty, reachedWith, lk_f follow A B 30, bearing, accepting, kindOfType, leastOf, greatestOf, listedCount, listedValue, attributeUse, attributeType, typeOfName, inUse, nameOf, parentOf, kidCount, kids, hasValue, valueOf, hasAttribute, attributeValue, walked, waiting)) : wpX_link post (drafted, latestPlace, positions, fragments, elementCount, draftKind, draftValue, weights, tokenAt, fragmentBegin, fragmentFirst, fragmentLast, fragmentEmpty, reachedWith, follow, bearing, accepting, kindOfType, leastOf, greatestOf, listedCount, listedValue, attributeUse, attributeType, typeOfName, inUse, nameOf, parentOf, kidCount, kids, hasValue, valueOf, hasAttribute, attributeValue, walked, waiting) A B := by
  refine ⟨31, ?_⟩
  have := sx_lnk2 h 30 0 (by omega)
  rw [lk_0] at this
  exact this
theorem sx_chain {post : SX → Prop} {hd tl into : Nat} (h1 : hd < 18) (h2 : tl < 18) (h3 : into < 18) (h : post (drafted, latestPlace, positions, fragments, elementCount, draftKind, draftValue, weights, tokenAt, fragmentBegin, upd fragmentFirst into (or_e (fragmentFirst hd) (fragmentFirst tl) (fragmentEmpty hd)), upd fragmentLast into (or_e (fragmentLast tl) (fragmentLast hd) (fragmentEmpty tl)), upd fragmentEmpty into (an_e (fragmentEmpty hd) (fragmentEmpty tl)), reachedWith, lk_f follow (fragmentLast hd) (fragmentFirst tl) 30, bearing, accepting, kindOfType, leastOf, greatestOf, listedCount, listedValue, attributeUse, attributeType, typeOfName, inUse, nameOf, parentOf, kidCount, kids, hasValue, valueOf, hasAttribute, attributeValue, walked, waiting)) : wpX_chain post (drafted, latestPlace, positions, fragments, elementCount, draftKind, draftValue, weights, tokenAt, fragmentBegin, fragmentFirst, fragmentLast, fragmentEmpty, reachedWith, follow, bearing, accepting, kindOfType, leastOf, greatestOf, listedCount, listedValue, attributeUse, attributeType, typeOfName, inUse, nameOf, parentOf, kidCount, kids, hasValue, valueOf, hasAttribute, attributeValue, walked, waiting) (nI hd) (nI tl) (nI into) := by
  have v1 : vp_in (nI hd) 18 := vp_in_nI h1 (by omega)
  have v2 : vp_in (nI tl) 18 := vp_in_nI h2 (by omega)
  have v3 : vp_in (nI into) 18 := vp_in_nI h3 (by omega)
  have c1 : (nI hd).toNatClampNeg = hd := nb_cl (by omega)
  have c2 : (nI tl).toNatClampNeg = tl := nb_cl (by omega)
  have c3 : (nI into).toNatClampNeg = into := nb_cl (by omega)
  unfold wpX_chain
  dsimp only
  rw [c1, c2]
  refine ⟨v1, v2, sx_link ⟨v1, v1, ?_⟩⟩
  have t69 : ∀ (x4 z0 z1 : Int32), x4 = or_e (fragmentFirst hd) (fragmentFirst tl) (fragmentEmpty hd) → z1 ||| z0 = or_e (fragmentLast tl) (fragmentLast hd) (fragmentEmpty tl) → wX_chain_69 post (nI hd) (nI tl) (nI into) x4 z0 z1 drafted latestPlace positions fragments elementCount draftKind draftValue weights tokenAt fragmentBegin fragmentFirst fragmentLast fragmentEmpty reachedWith (lk_f follow (fragmentLast hd) (fragmentFirst tl) 30) bearing accepting kindOfType leastOf greatestOf listedCount listedValue attributeUse attributeType typeOfName inUse nameOf parentOf kidCount kids hasValue valueOf hasAttribute attributeValue walked waiting := by
    intro x4 z0 z1 e1 e2
    refine nm_r e2 ⟨v3, nm_r (e' := upd fragmentFirst into (or_e (fragmentFirst hd) (fragmentFirst tl) (fragmentEmpty hd))) (by rw [c3, e1]) ⟨v3, nm_r (e' := upd fragmentLast into (or_e (fragmentLast tl) (fragmentLast hd) (fragmentEmpty tl))) (by rw [c3]) ⟨v1, ?_⟩⟩⟩
    rw [c1, c2, c3]
    by_cases q1 : fragmentEmpty hd = 0
    · refine br_t q1 ⟨v3, nm_r (e' := upd fragmentEmpty into (an_e (fragmentEmpty hd) (fragmentEmpty tl))) (by rw [nb_b0, show an_e (fragmentEmpty hd) (fragmentEmpty tl) = 0 from if_pos q1]) h⟩
    · by_cases q2 : fragmentEmpty tl = 0
      · exact br_f q1 ⟨v2, br_t q2 ⟨v3, nm_r (e' := upd fragmentEmpty into (an_e (fragmentEmpty hd) (fragmentEmpty tl))) (by rw [nb_b0]; unfold an_e; rw [if_neg q1, if_pos q2]) h⟩⟩
      · exact br_f q1 ⟨v2, br_f q2 ⟨v3, nm_r (e' := upd fragmentEmpty into (an_e (fragmentEmpty hd) (fragmentEmpty tl))) (by rw [nb_b1]; unfold an_e; rw [if_neg q1, if_neg q2]) h⟩⟩
  have t41 : ∀ (z0 z1 : Int32), z1 ||| z0 = or_e (fragmentFirst hd) (fragmentFirst tl) (fragmentEmpty hd) → wX_chain_41 post (nI hd) (nI tl) (nI into) z0 z1 drafted latestPlace positions fragments elementCount draftKind draftValue weights tokenAt fragmentBegin fragmentFirst fragmentLast fragmentEmpty reachedWith (lk_f follow (fragmentLast hd) (fragmentFirst tl) 30) bearing accepting kindOfType leastOf greatestOf listedCount listedValue attributeUse attributeType typeOfName inUse nameOf parentOf kidCount kids hasValue valueOf hasAttribute attributeValue walked waiting := by
    intro z0 z1 e1
    refine nm_r e1 ⟨v2, v2, ?_⟩
    rw [c1, c2]
    by_cases q2 : fragmentEmpty tl = 0
    · exact br_t q2 (t69 _ _ _ rfl (by unfold or_e; rw [if_pos q2]))
    · exact br_f q2 ⟨v1, t69 _ _ _ rfl (by unfold or_e; rw [if_neg q2])⟩
  by_cases q1 : fragmentEmpty hd = 0
  · exact br_t q1 (t41 _ _ (by unfold or_e; rw [if_pos q1]))
  · exact br_f q1 ⟨v2, t41 _ _ (by unfold or_e; rw [if_neg q1])⟩
theorem sx_unite {post : SX → Prop} {into oth : Nat} (h1 : into < 18) (h2 : oth < 18) (h : post (drafted, latestPlace, positions, fragments, elementCount, draftKind, draftValue, weights, tokenAt, fragmentBegin, upd fragmentFirst into (fragmentFirst into ||| fragmentFirst oth), upd fragmentLast into (fragmentLast into ||| fragmentLast oth), upd fragmentEmpty into (ow_e (fragmentEmpty into) (fragmentEmpty oth)), reachedWith, follow, bearing, accepting, kindOfType, leastOf, greatestOf, listedCount, listedValue, attributeUse, attributeType, typeOfName, inUse, nameOf, parentOf, kidCount, kids, hasValue, valueOf, hasAttribute, attributeValue, walked, waiting)) : wpX_unite post (drafted, latestPlace, positions, fragments, elementCount, draftKind, draftValue, weights, tokenAt, fragmentBegin, fragmentFirst, fragmentLast, fragmentEmpty, reachedWith, follow, bearing, accepting, kindOfType, leastOf, greatestOf, listedCount, listedValue, attributeUse, attributeType, typeOfName, inUse, nameOf, parentOf, kidCount, kids, hasValue, valueOf, hasAttribute, attributeValue, walked, waiting) (nI into) (nI oth) := by
  have v1 : vp_in (nI into) 18 := vp_in_nI h1 (by omega)
  have v2 : vp_in (nI oth) 18 := vp_in_nI h2 (by omega)
  have c1 : (nI into).toNatClampNeg = into := nb_cl (by omega)
  have c2 : (nI oth).toNatClampNeg = oth := nb_cl (by omega)
  unfold wpX_unite
  dsimp only
  rw [c1, c2]
  refine ⟨v1, v2, v1, nm_e ⟨v1, v2, v1, nm_e ⟨v1, ?_⟩⟩⟩
  by_cases q1 : fragmentEmpty into = 0
  · by_cases q2 : fragmentEmpty oth = 0
    · exact br_t q1 ⟨v2, br_t q2 ⟨v1, nm_r (by rw [nb_b0, show (0 : Int32) = ow_e (fragmentEmpty into) (fragmentEmpty oth) by unfold ow_e; rw [if_pos q1, if_pos q2]]) h⟩⟩
    · exact br_t q1 ⟨v2, br_f q2 ⟨v1, nm_r (by rw [nb_b1, show (1 : Int32) = ow_e (fragmentEmpty into) (fragmentEmpty oth) by unfold ow_e; rw [if_pos q1, if_neg q2]]) h⟩⟩
  · exact br_f q1 ⟨v1, nm_r (by rw [nb_b1, show (1 : Int32) = ow_e (fragmentEmpty into) (fragmentEmpty oth) by unfold ow_e; rw [if_neg q1]]) h⟩
theorem sx_pc118 {post : SX → Prop} {lo hi s P : Nat} (hlo : lo ≤ hi) (hs : hi ≤ lo + s) (h30 : hi + s ≤ 30) (h : post (drafted, latestPlace, nI (P + (hi - lo)), fragments, elementCount, draftKind, draftValue, weights, cp_a tokenAt 0 lo (hi - lo) s (fun z => z), fragmentBegin, fragmentFirst, fragmentLast, fragmentEmpty, reachedWith, cp_a follow 186 lo (hi - lo) s (fun z => z <<< (nI s &&& 31)), bearing, accepting, kindOfType, leastOf, greatestOf, listedCount, listedValue, attributeUse, attributeType, typeOfName, inUse, nameOf, parentOf, kidCount, kids, hasValue, valueOf, hasAttribute, attributeValue, walked, waiting)) : ∀ m c, c + m = hi - lo → wX_pushCopy_118 post (nI lo) (nI hi) (nI s) drafted latestPlace (nI P) fragments elementCount (m + 1) (nI (lo + c)) draftKind draftValue weights (cp_a tokenAt 0 lo c s (fun z => z)) fragmentBegin fragmentFirst fragmentLast fragmentEmpty reachedWith (cp_a follow 186 lo c s (fun z => z <<< (nI s &&& 31))) bearing accepting kindOfType leastOf greatestOf listedCount listedValue attributeUse attributeType typeOfName inUse nameOf parentOf kidCount kids hasValue valueOf hasAttribute attributeValue walked waiting := by
  intro m
  induction m with
  | zero =>
    intro c hc
    obtain rfl : c = hi - lo := by omega
    refine br_t (nI_le (by omega) (by omega)) (nm_r (e' := nI (P + (hi - lo))) ?_ h)
    rw [pk_sub hlo, nI_add]
  | succ m ih =>
    intro c hc
    refine br_f (nI_ge (by omega) (by omega)) ?_
    have e1 : nI (lo + c) + nI s = nI (lo + c + s) := nI_add _ _
    have e2 : (186 : Int32) + nI (lo + c) = nI (186 + (lo + c)) := nI_add 186 _
    have e3 : nI (186 + (lo + c)) + nI s = nI (186 + (lo + c) + s) := nI_add _ _
    rw [e1, e2, e3, nb_cl (n := lo + c) (by omega), nb_cl (n := lo + c + s) (by omega), nb_cl (n := 186 + (lo + c)) (by omega), nb_cl (n := 186 + (lo + c) + s) (by omega)]
    have o1 : cp_a tokenAt 0 lo c s (fun z => z) (lo + c) = tokenAt (lo + c) := cp_out (by omega)
    have o2 : cp_a follow 186 lo c s (fun z => z <<< (nI s &&& 31)) (186 + (lo + c)) = follow (186 + (lo + c)) := cp_out (by omega)
    rw [o1, o2]
    refine ⟨vp_in_nI (by omega) (by omega), vp_in_nI (by omega) (by omega), nm_r (e' := cp_a tokenAt 0 lo (c + 1) s (fun z => z)) ?_ ⟨vp_in_nI (by omega) (by omega), vp_in_nI (by omega) (by omega), nm_r (e' := cp_a follow 186 lo (c + 1) s (fun z => z <<< (nI s &&& 31))) ?_ (nm_r (nI_1 _) (ih (c + 1) (by omega)))⟩⟩
    · have := cp_s (g := tokenAt) (o := 0) (b := lo) (m := c) (s := s) (h := fun z => z)
      rw [show 0 + lo + c = lo + c by omega] at this
      exact this
    · have := cp_s (g := follow) (o := 186) (b := lo) (m := c) (s := s) (h := fun z => z <<< (nI s &&& 31))
      rw [show 186 + lo + c = 186 + (lo + c) by omega] at this
      exact this
theorem sx_pushCopy {post : SX → Prop} {j F lo hi P : Nat} (hj : j < F) (hF : F < 18) (hlo : lo ≤ hi) (hP : hi ≤ P) (h30 : P + (hi - lo) ≤ 30) (hb : fragmentBegin j = nI lo) (he : (F ≤ j + 1 ∧ P = hi) ∨ (j + 1 < F ∧ fragmentBegin (j + 1) = nI hi)) (hfe : fragmentEmpty j = 0 ∨ fragmentEmpty j = 1) (h : post (drafted, latestPlace, nI (P + (hi - lo)), nI (F + 1), elementCount, draftKind, draftValue, weights, cp_a tokenAt 0 lo (hi - lo) (P - lo) (fun z => z), upd fragmentBegin F (nI P), upd fragmentFirst F (fragmentFirst j <<< (nI (P - lo) &&& 31)), upd fragmentLast F (fragmentLast j <<< (nI (P - lo) &&& 31)), upd fragmentEmpty F (fragmentEmpty j), reachedWith, cp_a follow 186 lo (hi - lo) (P - lo) (fun z => z <<< (nI (P - lo) &&& 31)), bearing, accepting, kindOfType, leastOf, greatestOf, listedCount, listedValue, attributeUse, attributeType, typeOfName, inUse, nameOf, parentOf, kidCount, kids, hasValue, valueOf, hasAttribute, attributeValue, walked, waiting)) : wpX_pushCopy post (drafted, latestPlace, nI P, nI F, elementCount, draftKind, draftValue, weights, tokenAt, fragmentBegin, fragmentFirst, fragmentLast, fragmentEmpty, reachedWith, follow, bearing, accepting, kindOfType, leastOf, greatestOf, listedCount, listedValue, attributeUse, attributeType, typeOfName, inUse, nameOf, parentOf, kidCount, kids, hasValue, valueOf, hasAttribute, attributeValue, walked, waiting) (nI j) := by
  have vj : vp_in (nI j) 18 := vp_in_nI (by omega) (by omega)
  have vF : vp_in (nI F) 18 := vp_in_nI hF (by omega)
  have cj : (nI j).toNatClampNeg = j := nb_cl (by omega)
  have cF : (nI F).toNatClampNeg = F := nb_cl (by omega)
  have eb : vp_nar .boolean (fragmentEmpty j) = fragmentEmpty j := by rcases hfe with q | q <;> rw [q] <;> decide
  have t32 : wX_pushCopy_32 post (nI j) (nI lo) (nI hi) drafted latestPlace (nI P) (nI F) elementCount draftKind draftValue weights tokenAt fragmentBegin fragmentFirst fragmentLast fragmentEmpty reachedWith follow bearing accepting kindOfType leastOf greatestOf listedCount listedValue attributeUse attributeType typeOfName inUse nameOf parentOf kidCount kids hasValue valueOf hasAttribute attributeValue walked waiting := by
    refine nm_r (e' := nI (P - lo)) (pk_sub (by omega)) ⟨vF, nm_r (e' := upd fragmentBegin F (nI P)) (by rw [cF]) ⟨vj, vF, nm_r (e' := upd fragmentFirst F (fragmentFirst j <<< (nI (P - lo) &&& 31))) (by rw [cF, cj]) ⟨vj, vF, nm_r (e' := upd fragmentLast F (fragmentLast j <<< (nI (P - lo) &&& 31))) (by rw [cF, cj]) ⟨vj, vF, nm_r (e' := upd fragmentEmpty F (fragmentEmpty j)) (by rw [cF, cj, eb]) (nm_r (nI_1 F) ⟨hi - lo + 1, ?_⟩)⟩⟩⟩⟩
    have := sx_pc118 (lo := lo) (hi := hi) (s := P - lo) (P := P) hlo (by omega) (by omega) h (hi - lo) 0 (by omega)
    rw [cp_0, cp_0, Nat.add_zero] at this
    exact this
  refine ⟨vj, nm_r (e' := nI lo) (by rw [cj, hb]) ?_⟩
  rw [nI_1, nb_cl (n := j + 1) (by omega)]
  rcases he with ⟨q1, q2⟩ | ⟨q1, q2⟩
  · refine br_t (nI_le q1 (by omega)) ?_
    rw [q2]
    rw [q2] at t32
    exact t32
  · refine br_f (nI_ge q1 (by omega)) ⟨vp_in_nI (by omega) (by omega), ?_⟩
    rw [q2]
    exact t32
end
/-- the copy of a fragment is one -/
theorem xb_copy {ta fo : Nat → Int32} {lo hi s : Nat} {F Λ E : Int32} {L : List Nat → Prop} (h : xb_g ta fo lo hi F Λ E L) (hlo : lo ≤ hi) (hs : hi ≤ lo + s) (h30 : hi + s ≤ 30) : xb_g (cp_a ta 0 lo (hi - lo) s (fun z => z)) (cp_a fo 186 lo (hi - lo) s (fun z => z <<< (nI s &&& 31))) (lo + s) (hi + s) (F <<< (nI s &&& 31)) (Λ <<< (nI s &&& 31)) E L := by
  have sh : ∀ (X : Int32), (∀ q, bt X q = true → q < hi) → ∀ q, bt (X <<< (nI s &&& 31)) q = true ↔ ∃ p, q = p + s ∧ bt X p = true := by
    intro X hX q
    by_cases q32 : q < 32
    · exact bb_shlI (by omega) q32
    · rw [b_big (by omega)]
      constructor
      · intro r; cases r
      · rintro ⟨p, e, r⟩
        have := hX p r
        omega
  refine gl_shift s h (fun q => ?_) (sh F (fun q r => (h.1 q r).2)) (sh Λ (fun q r => (h.2.1 q r).2)) (fun p hp => ?_) (fun p q hp => ?_)
  · constructor
    · rintro ⟨r1, r2⟩; exact ⟨q - s, by omega, by omega, by omega⟩
    · rintro ⟨p, e, r1, r2⟩; exact ⟨by omega, by omega⟩
  · show (cp_a ta 0 lo (hi - lo) s (fun z => z) (p + s)).toNatClampNeg = (ta p).toNatClampNeg
    rw [cp_in (by omega) (by omega)]
  · show bt (cp_a fo 186 lo (hi - lo) s (fun z => z <<< (nI s &&& 31)) (186 + (p + s))) q = true ↔ _
    rw [show 186 + (p + s) = 186 + p + s by omega, cp_in (by omega) (by omega)]
    exact sh (fo (186 + p)) (fun q r => (h.2.2.1 p q hp r).2) q
/-- one after the other -/
theorem xb_seq {ta fo : Nat → Int32} {l1 h1 l2 h2 lo hi : Nat} {F1 A1 E1 F2 A2 E2 : Int32} {L1 L2 : List Nat → Prop} (g1 : xb_g ta fo l1 h1 F1 A1 E1 L1) (g2 : xb_g ta fo l2 h2 F2 A2 E2 L2) (hd : (h1 ≤ l2 ∧ lo = l1 ∧ hi = h2 ∧ h1 = l2) ∨ (h2 ≤ l1 ∧ lo = l2 ∧ hi = h1 ∧ h2 = l1)) (o1 : l1 ≤ h1) (o2 : l2 ≤ h2) (h30 : h1 ≤ 30) (hne : ∃ u, L2 u) : xb_g ta (lk_f fo A1 F2 30) lo hi (or_e F1 F2 E1) (or_e A2 A1 E2) (an_e E1 E2) (ex_cat L1 L2) := by
  refine gl_F_eq (gl_seq g1 g2 (fun p r1 r2 => by omega) hne (φ' := fun p q => bt (lk_f fo A1 F2 30 (186 + p)) q = true) (fun p q => lk_I (fun i r => by have := (g1.2.1 i r).2; omega))) (fun p => by omega) (fun q => or_eI) (fun q => or_eI) (an_eI E1 E2) (fun u => Iff.rfl)
theorem xb_alt {ta fo : Nat → Int32} {l1 h1 l2 h2 lo hi : Nat} {F1 A1 E1 F2 A2 E2 : Int32} {L1 L2 : List Nat → Prop} (g1 : xb_g ta fo l1 h1 F1 A1 E1 L1) (g2 : xb_g ta fo l2 h2 F2 A2 E2 L2) (hd : (lo = l1 ∧ hi = h2 ∧ h1 = l2) ∨ (lo = l2 ∧ hi = h1 ∧ h2 = l1)) (o1 : l1 ≤ h1) (o2 : l2 ≤ h2) : xb_g ta fo lo hi (F1 ||| F2) (A1 ||| A2) (ow_e E1 E2) (fun u => L1 u ∨ L2 u) :=
  gl_F_eq (gl_alt g1 g2 (fun p r1 r2 => by omega)) (fun p => by omega) (fun q => bb_orI) (fun q => bb_orI) (ow_eI E1 E2) (fun u => Iff.rfl)
end
section
/-! ===== TIMES in the component ===== -/
theorem ex_tm_ne {L : List Nat → Prop} (hL : ∃ u, L u) : ∀ h lo, ∃ u, ex_tm L h lo u := by
  intro h
  induction h with
  | zero => intro lo; exact ⟨[], rfl⟩
  | succ h ih =>
    intro lo
    obtain ⟨a, ha⟩ := hL
    obtain ⟨b, hb⟩ := ih (lo - 1)
    exact ⟨a ++ b, a, b, rfl, Or.inr ha, hb⟩
/-- what is not touched: below f, below P, below 186; zeros from T on; NAME tokens from P to T -/
def xf_R (d : Nat) (kd : Nat → Nat) (f P T : Nat) (ta fb ff fl fe fo ta' fb' ff' fl' fe' fo' : Nat → Int32) : Prop :=
  (∀ j, j < f → fb' j = fb j ∧ ff' j = ff j ∧ fl' j = fl j ∧ fe' j = fe j) ∧ (∀ p, p < P → ta' p = ta p ∧ fo' (186 + p) = fo (186 + p)) ∧ (∀ j, j < 186 → fo' j = fo j) ∧ (∀ p, T ≤ p → p < 30 → fo' (186 + p) = 0) ∧ (∀ p, P ≤ p → p < T → ∃ i, ta' p = nI i ∧ i < d ∧ kd i = 0)
section
variable {drafted latestPlace positions fragments elementCount : Int32} {draftKind draftValue weights tokenAt fragmentBegin fragmentFirst fragmentLast fragmentEmpty reachedWith follow bearing accepting kindOfType leastOf greatestOf listedCount listedValue attributeUse attributeType typeOfName inUse nameOf parentOf kidCount kids hasValue valueOf hasAttribute attributeValue walked waiting : Nat → Int32}
/-- the chaining, from the right -/
theorem sx_row71 {post : SX → Prop} {d f P W m l : Nat} {kd : Nat → Nat} {L : List Nat → Prop} {ta0 fb0 ff0 fl0 fe0 fo0 : Nat → Int32} (hm : m ≤ 3) (hm1 : 1 ≤ m) (hf : f + m ≤ 18) (h30 : P + m * W ≤ 30) (hL : ∃ u, L u)
    (h : ∀ ta fb ff fl fe fo : Nat → Int32, fb f = nI P → (fe f = 0 ∨ fe f = 1) → xb_g ta fo P (P + m * W) (ff f) (fl f) (fe f) (ex_tm L m l) → xf_R d kd f P (P + m * W) ta0 fb0 ff0 fl0 fe0 fo0 ta fb ff fl fe fo → post (drafted, latestPlace, positions, nI (f + 1), elementCount, draftKind, draftValue, weights, ta, fb, ff, fl, fe, reachedWith, fo, bearing, accepting, kindOfType, leastOf, greatestOf, listedCount, listedValue, attributeUse, attributeType, typeOfName, inUse, nameOf, parentOf, kidCount, kids, hasValue, valueOf, hasAttribute, attributeValue, walked, waiting)) :
    ∀ (c : Nat) (ta fb ff fl fe fo : Nat → Int32), c < m → fb f = nI P → (∀ j, j ≤ c → fe (f + j) = 0 ∨ fe (f + j) = 1) → (∀ j, j < c → xb_g ta fo (P + j * W) (P + j * W + W) (ff (f + j)) (fl (f + j)) (fe (f + j)) (fun u => (l ≤ j ∧ u = []) ∨ L u)) → xb_g ta fo (P + c * W) (P + m * W) (ff (f + c)) (fl (f + c)) (fe (f + c)) (ex_tm L (m - c) (l - c)) → xf_R d kd f P (P + m * W) ta0 fb0 ff0 fl0 fe0 fo0 ta fb ff fl fe fo → wX_copyInARow_71 post (nI f) (c + 1) (nI c) drafted latestPlace positions fragments elementCount draftKind draftValue weights ta fb ff fl fe reachedWith fo bearing accepting kindOfType leastOf greatestOf listedCount listedValue attributeUse attributeType typeOfName inUse nameOf parentOf kidCount kids hasValue valueOf hasAttribute attributeValue walked waiting := by
  intro c
  induction c with
  | zero =>
    intro ta fb ff fl fe fo hc hfb hfe hj hT hR
    refine br_t (by decide) (nm_r (nI_1 f) (h ta fb ff fl fe fo hfb (hfe 0 (by omega)) ?_ hR))
    rw [Nat.zero_mul, Nat.add_zero, Nat.add_zero, Nat.sub_zero, Nat.sub_zero] at hT
    exact hT
  | succ c ih =>
    intro ta fb ff fl fe fo hc hfb hfe hj hT hR
    have g1 := hj c (by omega)
    have e1 : (c + 1) * W = c * W + W := Nat.succ_mul c W
    have le : ∀ j, j + 1 ≤ m → j * W + W ≤ m * W := fun j hjm => by rw [← Nat.succ_mul]; exact Nat.mul_le_mul_right _ hjm
    have l1 := le c (by omega)
    have lm := le (c + 1) (by omega)
    refine br_f (nI_nlt (b := 1) (by omega) (by omega)) ?_
    rw [nI_add, nb_s1 (by omega), show f + (c + 1) - 1 = f + c by omega]
    refine sx_chain (hd := f + c) (tl := f + (c + 1)) (into := f + c) (fragmentFirst := ff) (fragmentLast := fl) (fragmentEmpty := fe) (follow := fo) (by omega) (by omega) (by omega) (nm_r (nb_a1 c) (ih ta fb _ _ _ _ (by omega) hfb (fun j hj' => ?_) (fun j hj' => ?_) ?_ ?_))
    · by_cases q : j = c
      · rw [q, pk_us]; exact an_01 _ _
      · rw [pk_un (by omega)]; exact hfe j (by omega)
    · rw [pk_un (by omega), pk_un (by omega), pk_un (by omega)]
      have le2 : j * W + W ≤ c * W := by rw [← Nat.succ_mul]; exact Nat.mul_le_mul_right _ hj'
      refine xb_cg (hj j (by omega)) (fun p p1 p2 => ⟨rfl, lk_out (Or.inr ?_)⟩)
      rw [show 186 + p - 186 = p by omega]
      cases hv : bt (fl (f + c)) p with
      | false => rfl
      | true => have := (g1.2.1 p hv).1; omega
    · rw [pk_us, pk_us, pk_us]
      have g2 := hT
      rw [e1] at g2
      have gs := xb_seq (lo := P + c * W) (hi := P + m * W) g1 g2 (Or.inl ⟨by omega, rfl, rfl, by omega⟩) (by omega) (by omega) (by omega) (ex_tm_ne hL _ _)
      refine xb_L gs (fun u => ?_)
      rw [show m - c = (m - (c + 1)) + 1 by omega]
      refine ex_cat_congr (fun v => ?_) (fun v => ?_) u
      · constructor
        · rintro (⟨q1, q2⟩ | q)
          · exact Or.inl ⟨by omega, q2⟩
          · exact Or.inr q
        · rintro (⟨q1, q2⟩ | q)
          · exact Or.inl ⟨by omega, q2⟩
          · exact Or.inr q
      · rw [show l - c - 1 = l - (c + 1) by omega]
    · obtain ⟨r1, r2, r3, r4, r5⟩ := hR
      have hout : ∀ p, (p < P ∨ P + m * W ≤ p) → lk_f fo (fl (f + c)) (ff (f + (c + 1))) 30 (186 + p) = fo (186 + p) := by
        intro p hp
        refine lk_out (Or.inr ?_)
        rw [show 186 + p - 186 = p by omega]
        cases hv : bt (fl (f + c)) p with
        | false => rfl
        | true => have := g1.2.1 p hv; omega
      refine ⟨fun j hj' => ?_, fun p hp => ?_, fun j hj' => ?_, fun p p1 p2 => ?_, r5⟩
      · rw [pk_un (by omega), pk_un (by omega), pk_un (by omega)]; exact r1 j hj'
      · rw [hout p (Or.inl hp)]; exact r2 p hp
      · rw [lk_out (Or.inl hj')]; exact r3 j hj'
      · rw [hout p (Or.inr p1)]; exact r4 p p1 p2
/-- those beyond the least number may be empty -/
theorem sx_row42 {post : SX → Prop} {d f P W m l : Nat} {kd : Nat → Nat} {L : List Nat → Prop} {ta0 fb0 ff0 fl0 fe0 fo0 : Nat → Int32} (hm : m ≤ 3) (hm1 : 1 ≤ m) (hlm : l ≤ m) (hf : f + m ≤ 18) (h30 : P + m * W ≤ 30) (hL : ∃ u, L u)
    (h : ∀ ta fb ff fl fe fo : Nat → Int32, fb f = nI P → (fe f = 0 ∨ fe f = 1) → xb_g ta fo P (P + m * W) (ff f) (fl f) (fe f) (ex_tm L m l) → xf_R d kd f P (P + m * W) ta0 fb0 ff0 fl0 fe0 fo0 ta fb ff fl fe fo → post (drafted, latestPlace, positions, nI (f + 1), elementCount, draftKind, draftValue, weights, ta, fb, ff, fl, fe, reachedWith, fo, bearing, accepting, kindOfType, leastOf, greatestOf, listedCount, listedValue, attributeUse, attributeType, typeOfName, inUse, nameOf, parentOf, kidCount, kids, hasValue, valueOf, hasAttribute, attributeValue, walked, waiting)) (ta fb ff fl fo : Nat → Int32) (hfb : fb f = nI P) :
    ∀ (n c : Nat) (fe : Nat → Int32), c + n = m → l ≤ c → (∀ j, j < m → fe (f + j) = 0 ∨ fe (f + j) = 1) → (∀ j, j < m → xb_g ta fo (P + j * W) (P + j * W + W) (ff (f + j)) (fl (f + j)) (fe (f + j)) (fun u => ((l ≤ j ∧ j < c) ∧ u = []) ∨ L u)) → xf_R d kd f P (P + m * W) ta0 fb0 ff0 fl0 fe0 fo0 ta fb ff fl fe fo → wX_copyInARow_42 post (nI f) (nI m) drafted latestPlace positions fragments elementCount (n + 1) (nI c) draftKind draftValue weights ta fb ff fl fe reachedWith fo bearing accepting kindOfType leastOf greatestOf listedCount listedValue attributeUse attributeType typeOfName inUse nameOf parentOf kidCount kids hasValue valueOf hasAttribute attributeValue walked waiting := by
  intro n
  induction n with
  | zero =>
    intro c fe hc hl hfe hg hR
    obtain rfl : c = m := by omega
    refine br_t (nI_le (Nat.le_refl _) (by omega)) (nm_r (nb_s1 hm1) ⟨c - 1 + 1, ?_⟩)
    refine sx_row71 (d := d) (kd := kd) (m := c) (l := l) (W := W) (L := L) hm hm1 hf h30 hL h (c - 1) ta fb ff fl fe fo (by omega) hfb (fun j hj => hfe j (by omega)) (fun j hj => ?_) ?_ hR
    · refine xb_L (hg j (by omega)) (fun u => ?_)
      constructor
      · rintro (⟨q1, q2⟩ | q)
        · exact Or.inl ⟨⟨q1, by omega⟩, q2⟩
        · exact Or.inr q
      · rintro (⟨q1, q2⟩ | q)
        · exact Or.inl ⟨q1.1, q2⟩
        · exact Or.inr q
    · have e1 : c * W = (c - 1) * W + W := by
        rw [← Nat.succ_mul]
        congr 1
        omega
      rw [show P + c * W = P + (c - 1) * W + W by omega]
      refine xb_L (hg (c - 1) (by omega)) (fun u => ?_)
      rw [show c - (c - 1) = 0 + 1 by omega]
      constructor
      · rintro ⟨a, b, e, ha, hb⟩
        rw [show b = [] from hb, List.append_nil] at e
        rw [e]
        rcases ha with ⟨q1, q2⟩ | q
        · exact Or.inl ⟨⟨by omega, by omega⟩, q2⟩
        · exact Or.inr q
      · rintro (⟨q1, q2⟩ | q)
        · exact ⟨u, [], (List.append_nil u).symm, Or.inl ⟨by omega, q2⟩, rfl⟩
        · exact ⟨u, [], (List.append_nil u).symm, Or.inr q, rfl⟩
  | succ n ih =>
    intro c fe hc hl hfe hg hR
    refine br_f (nI_ge (by omega) (by omega)) ?_
    rw [nI_add]
    refine ⟨vp_in_nI (by omega) (by omega), nm_r (e' := upd fe (f + c) 1) (by rw [nb_cl (by omega), nb_b1]) (nm_r (nI_1 c) (ih (c + 1) _ (by omega) (by omega) (fun j hj => ?_) (fun j hj => ?_) ?_))⟩
    · by_cases q : j = c
      · rw [q, pk_us]; exact Or.inr rfl
      · rw [pk_un (by omega)]; exact hfe j hj
    · by_cases q : j = c
      · rw [q, pk_us]
        refine gl_F_eq (gl_opt (hg c (by omega))) (fun _ => Iff.rfl) (fun _ => Iff.rfl) (fun _ => Iff.rfl) ⟨fun _ => trivial, fun _ => nb_10⟩ (fun u => ?_)
        constructor
        · rintro (⟨_, q2⟩ | q)
          · exact Or.inl q2
          · exact Or.inr (Or.inr q)
        · rintro (q2 | ⟨q1, q2⟩ | q)
          · exact Or.inl ⟨⟨hl, by omega⟩, q2⟩
          · exact Or.inl ⟨⟨hl, by omega⟩, q2⟩
          · exact Or.inr q
      · rw [pk_un (by omega)]
        refine xb_L (hg j hj) (fun u => ?_)
        constructor
        · rintro (⟨q1, q2⟩ | q3)
          · exact Or.inl ⟨⟨q1.1, by omega⟩, q2⟩
          · exact Or.inr q3
        · rintro (⟨q1, q2⟩ | q3)
          · exact Or.inl ⟨⟨q1.1, by omega⟩, q2⟩
          · exact Or.inr q3
    · obtain ⟨r1, r2, r3, r4, r5⟩ := hR
      refine ⟨fun j hj => ?_, r2, r3, r4, r5⟩
      rw [pk_un (by omega)]
      exact r1 j hj
/-- the copies -/
theorem sx_row21 {post : SX → Prop} {d f P W m l : Nat} {kd : Nat → Nat} {L : List Nat → Prop} {ta0 fb0 ff0 fl0 fe0 fo0 : Nat → Int32} (hm : m ≤ 3) (hm1 : 1 ≤ m) (hlm : l ≤ m) (hf : f + m ≤ 18) (h30 : P + m * W ≤ 30) (hL : ∃ u, L u)
    (h : ∀ ta fb ff fl fe fo : Nat → Int32, fb f = nI P → (fe f = 0 ∨ fe f = 1) → xb_g ta fo P (P + m * W) (ff f) (fl f) (fe f) (ex_tm L m l) → xf_R d kd f P (P + m * W) ta0 fb0 ff0 fl0 fe0 fo0 ta fb ff fl fe fo → post (drafted, latestPlace, nI (P + m * W), nI (f + 1), elementCount, draftKind, draftValue, weights, ta, fb, ff, fl, fe, reachedWith, fo, bearing, accepting, kindOfType, leastOf, greatestOf, listedCount, listedValue, attributeUse, attributeType, typeOfName, inUse, nameOf, parentOf, kidCount, kids, hasValue, valueOf, hasAttribute, attributeValue, walked, waiting)) :
    ∀ (n i : Nat) (ta fb ff fl fe fo : Nat → Int32), i + n = m → 1 ≤ i → (∀ j, j < i → fb (f + j) = nI (P + j * W)) → (∀ j, j < i → fe (f + j) = 0 ∨ fe (f + j) = 1) → (∀ j, j < i → xb_g ta fo (P + j * W) (P + j * W + W) (ff (f + j)) (fl (f + j)) (fe (f + j)) L) → xf_R d kd f P (P + i * W) ta0 fb0 ff0 fl0 fe0 fo0 ta fb ff fl fe fo → wX_copyInARow_21 post (nI f) (nI l) (nI m) (n + 1) (nI i) drafted latestPlace (nI (P + i * W)) (nI (f + i)) elementCount draftKind draftValue weights ta fb ff fl fe reachedWith fo bearing accepting kindOfType leastOf greatestOf listedCount listedValue attributeUse attributeType typeOfName inUse nameOf parentOf kidCount kids hasValue valueOf hasAttribute attributeValue walked waiting := by
  intro n
  induction n with
  | zero =>
    intro i ta fb ff fl fe fo hi h1 hfb hfe hg hR
    obtain rfl : i = m := by omega
    have hb0 := hfb 0 (by omega)
    rw [Nat.zero_mul, Nat.add_zero, Nat.add_zero] at hb0
    refine br_t (nI_le (Nat.le_refl _) (by omega)) ⟨i - l + 1, ?_⟩
    refine sx_row42 (d := d) (kd := kd) (m := i) (l := l) (W := W) (L := L) (positions := nI (P + i * W)) hm hm1 hlm hf h30 hL h ta fb ff fl fo hb0 (i - l) l fe (by omega) (Nat.le_refl _) hfe (fun j hj => ?_) hR
    refine xb_L (hg j hj) (fun u => ?_)
    constructor
    · rintro (⟨q1, q2⟩ | q)
      · omega
      · exact q
    · intro q; exact Or.inr q
  | succ n ih =>
    intro i ta fb ff fl fe fo hi h1 hfb hfe hg hR
    have hb0 := hfb 0 (by omega)
    have hg0 := hg 0 (by omega)
    have hfe0 := hfe 0 (by omega)
    rw [Nat.zero_mul, Nat.add_zero, Nat.add_zero] at hb0
    rw [Nat.zero_mul, Nat.add_zero, Nat.add_zero] at hg0
    rw [Nat.add_zero] at hfe0
    have e1 : (i + 1) * W = i * W + W := Nat.succ_mul i W
    have le : i * W + W ≤ m * W := by rw [← Nat.succ_mul]; exact Nat.mul_le_mul_right _ (by omega)
    have le1 : W ≤ i * W := by
      have : 1 * W ≤ i * W := Nat.mul_le_mul_right _ h1
      omega
    have hend : (f + i ≤ f + 1 ∧ P + i * W = P + W) ∨ (f + 1 < f + i ∧ fb (f + 1) = nI (P + W)) := by
      by_cases q : i = 1
      · left; rw [q, Nat.one_mul]; exact ⟨by omega, rfl⟩
      · right
        have := hfb 1 (by omega)
        rw [Nat.one_mul] at this
        exact ⟨by omega, this⟩
    refine br_f (nI_ge (by omega) (by omega)) ?_
    have es : P + i * W - P = i * W := by omega
    have ew : P + W - P = W := by omega
    refine sx_pushCopy (j := f) (F := f + i) (lo := P) (hi := P + W) (P := P + i * W) (tokenAt := ta) (fragmentBegin := fb) (fragmentFirst := ff) (fragmentLast := fl) (fragmentEmpty := fe) (follow := fo) (by omega) (by omega) (by omega) (by omega) (by omega) hb0 hend hfe0 (nm_r (nI_1 i) ?_)
    rw [es, ew]
    have hcp := xb_copy (s := i * W) hg0 (by omega) (by omega) (by omega)
    rw [ew] at hcp
    have ih' := ih (i + 1) (cp_a ta 0 P W (i * W) (fun z => z)) (upd fb (f + i) (nI (P + i * W))) (upd ff (f + i) (ff f <<< (nI (i * W) &&& 31))) (upd fl (f + i) (fl f <<< (nI (i * W) &&& 31))) (upd fe (f + i) (fe f)) (cp_a fo 186 P W (i * W) (fun z => z <<< (nI (i * W) &&& 31))) (by omega) (by omega)
    rw [e1, show P + (i * W + W) = P + i * W + W by omega, show f + (i + 1) = f + i + 1 by omega] at ih'
    refine ih' (fun j hj => ?_) (fun j hj => ?_) (fun j hj => ?_) ?_
    · by_cases q : j = i
      · rw [q, pk_us]
      · rw [pk_un (by omega)]; exact hfb j (by omega)
    · by_cases q : j = i
      · rw [q, pk_us]; exact hfe0
      · rw [pk_un (by omega)]; exact hfe j (by omega)
    · by_cases q : j = i
      · rw [q, pk_us, pk_us, pk_us, show P + i * W + W = P + W + i * W by omega]
        exact hcp
      · rw [pk_un (by omega), pk_un (by omega), pk_un (by omega)]
        have le2 : j * W + W ≤ i * W := by rw [← Nat.succ_mul]; exact Nat.mul_le_mul_right _ (by omega)
        exact xb_cg (hg j (by omega)) (fun p p1 p2 => ⟨cp_out (by omega), cp_out (by omega)⟩)
    · obtain ⟨r1, r2, r3, r4, r5⟩ := hR
      refine ⟨fun j hj => ?_, fun p hp => ?_, fun j hj => ?_, fun p p1 p2 => ?_, fun p p1 p2 => ?_⟩
      · rw [pk_un (by omega), pk_un (by omega), pk_un (by omega), pk_un (by omega)]; exact r1 j hj
      · rw [cp_out (by omega), cp_out (by omega)]; exact r2 p hp
      · rw [cp_out (by omega)]; exact r3 j hj
      · rw [cp_out (by omega)]; exact r4 p (by omega) p2
      · by_cases q : p < P + i * W
        · rw [cp_out (by omega)]; exact r5 p p1 q
        · have := cp_in (g := ta) (o := 0) (b := P) (m := W) (s := i * W) (h := fun z => z) (j := p - i * W) (by omega) (by omega)
          rw [Nat.sub_add_cancel (by omega)] at this
          rw [this]
          exact r5 (p - i * W) (by omega) (by omega)
end
end
section
/-! ===== the component's automaton of a draft ===== -/
/-- a fragment f of W positions from P on spells L; the rest as it was -/
def xb_Q (d : Nat) (kd : Nat → Nat) (W : Nat) (L : List Nat → Prop) (f P : Nat) (ta fb ff fl fe fo ta' fb' ff' fl' fe' fo' : Nat → Int32) : Prop := fb' f = nI P ∧ (fe' f = 0 ∨ fe' f = 1) ∧ xb_g ta' fo' P (P + W) (ff' f) (fl' f) (fe' f) L ∧ xf_R d kd f P (P + W) ta fb ff fl fe fo ta' fb' ff' fl' fe' fo'
section
variable {drafted latestPlace positions fragments elementCount : Int32} {draftKind draftValue weights tokenAt fragmentBegin fragmentFirst fragmentLast fragmentEmpty reachedWith follow bearing accepting kindOfType leastOf greatestOf listedCount listedValue attributeUse attributeType typeOfName inUse nameOf parentOf kidCount kids hasValue valueOf hasAttribute attributeValue walked waiting : Nat → Int32}
theorem sx_leafN {post : SX → Prop} {b f P : Nat} (hb : b < 16) (hf : f < 18) (hP : P < 30) (hk : draftKind b = nI 0) (h : post (drafted, latestPlace, nI (P + 1), nI (f + 1), elementCount, draftKind, draftValue, weights, upd tokenAt P (nI b), upd fragmentBegin f (nI P), upd fragmentFirst f ((1 : Int32) <<< (nI P &&& 31)), upd fragmentLast f ((1 : Int32) <<< (nI P &&& 31)), upd fragmentEmpty f 0, reachedWith, follow, bearing, accepting, kindOfType, leastOf, greatestOf, listedCount, listedValue, attributeUse, attributeType, typeOfName, inUse, nameOf, parentOf, kidCount, kids, hasValue, valueOf, hasAttribute, attributeValue, walked, waiting)) : wpX_pushLeaf post (drafted, latestPlace, nI P, nI f, elementCount, draftKind, draftValue, weights, tokenAt, fragmentBegin, fragmentFirst, fragmentLast, fragmentEmpty, reachedWith, follow, bearing, accepting, kindOfType, leastOf, greatestOf, listedCount, listedValue, attributeUse, attributeType, typeOfName, inUse, nameOf, parentOf, kidCount, kids, hasValue, valueOf, hasAttribute, attributeValue, walked, waiting) (nI b) := by
  have vf : vp_in (nI f) 18 := vp_in_nI hf (by omega)
  have cf : (nI f).toNatClampNeg = f := nb_cl (by omega)
  refine ⟨vp_in_nI hb (by omega), br_f (by rw [nb_cl (by omega), hk]; decide) (br_t rfl ⟨vf, nm_r (e' := upd fragmentBegin f (nI P)) (by rw [cf]) ⟨vf, nm_r (e' := upd fragmentFirst f ((1 : Int32) <<< (nI P &&& 31))) (by rw [cf]) ⟨vf, nm_r (e' := upd fragmentLast f ((1 : Int32) <<< (nI P &&& 31))) (by rw [cf]) ⟨vf, nm_r (e' := upd fragmentEmpty f 0) (by rw [cf, nb_b0]) (nm_r (nI_1 f) (br_t rfl ⟨vp_in_nI hP (by omega), nm_r (e' := upd tokenAt P (nI b)) (by rw [nb_cl (by omega)]) (nm_r (nI_1 P) h)⟩))⟩⟩⟩⟩)⟩
theorem sx_leafE {post : SX → Prop} {b f P : Nat} (hb : b < 16) (hf : f < 18) (hk : draftKind b = nI 6) (h : post (drafted, latestPlace, nI P, nI (f + 1), elementCount, draftKind, draftValue, weights, tokenAt, upd fragmentBegin f (nI P), upd fragmentFirst f 0, upd fragmentLast f 0, upd fragmentEmpty f 1, reachedWith, follow, bearing, accepting, kindOfType, leastOf, greatestOf, listedCount, listedValue, attributeUse, attributeType, typeOfName, inUse, nameOf, parentOf, kidCount, kids, hasValue, valueOf, hasAttribute, attributeValue, walked, waiting)) : wpX_pushLeaf post (drafted, latestPlace, nI P, nI f, elementCount, draftKind, draftValue, weights, tokenAt, fragmentBegin, fragmentFirst, fragmentLast, fragmentEmpty, reachedWith, follow, bearing, accepting, kindOfType, leastOf, greatestOf, listedCount, listedValue, attributeUse, attributeType, typeOfName, inUse, nameOf, parentOf, kidCount, kids, hasValue, valueOf, hasAttribute, attributeValue, walked, waiting) (nI b) := by
  have vf : vp_in (nI f) 18 := vp_in_nI hf (by omega)
  have cf : (nI f).toNatClampNeg = f := nb_cl (by omega)
  refine ⟨vp_in_nI hb (by omega), br_t (by rw [nb_cl (by omega), hk]; rfl) (br_f nb_10 ⟨vf, nm_r (e' := upd fragmentBegin f (nI P)) (by rw [cf]) ⟨vf, nm_r (e' := upd fragmentFirst f 0) (by rw [cf]) ⟨vf, nm_r (e' := upd fragmentLast f 0) (by rw [cf]) ⟨vf, nm_r (e' := upd fragmentEmpty f 1) (by rw [cf, nb_b1]) (nm_r (nI_1 f) (br_f nb_10 h))⟩⟩⟩⟩)⟩
theorem sx_rep3 {post : SX → Prop} {f : Nat} (hf : f < 18) (h : post (drafted, latestPlace, positions, nI (f + 1), elementCount, draftKind, draftValue, weights, tokenAt, fragmentBegin, fragmentFirst, fragmentLast, upd fragmentEmpty f 1, reachedWith, follow, bearing, accepting, kindOfType, leastOf, greatestOf, listedCount, listedValue, attributeUse, attributeType, typeOfName, inUse, nameOf, parentOf, kidCount, kids, hasValue, valueOf, hasAttribute, attributeValue, walked, waiting)) : wpX_repeatTop post (drafted, latestPlace, positions, nI (f + 1), elementCount, draftKind, draftValue, weights, tokenAt, fragmentBegin, fragmentFirst, fragmentLast, fragmentEmpty, reachedWith, follow, bearing, accepting, kindOfType, leastOf, greatestOf, listedCount, listedValue, attributeUse, attributeType, typeOfName, inUse, nameOf, parentOf, kidCount, kids, hasValue, valueOf, hasAttribute, attributeValue, walked, waiting) (nI 3) :=
  nm_r (e' := nI f) (nb_s1 (by omega)) (br_f (by decide) (br_f (by decide) (br_f (by decide) (br_t rfl ⟨vp_in_nI hf (by omega), nm_r (e' := upd fragmentEmpty f 1) (by rw [nb_cl (by omega), nb_b1]) h⟩))))
theorem sx_rep4 {post : SX → Prop} {f : Nat} (hf : f < 18) (h : post (drafted, latestPlace, positions, nI (f + 1), elementCount, draftKind, draftValue, weights, tokenAt, fragmentBegin, fragmentFirst, fragmentLast, upd fragmentEmpty f 1, reachedWith, lk_f follow (fragmentLast f) (fragmentFirst f) 30, bearing, accepting, kindOfType, leastOf, greatestOf, listedCount, listedValue, attributeUse, attributeType, typeOfName, inUse, nameOf, parentOf, kidCount, kids, hasValue, valueOf, hasAttribute, attributeValue, walked, waiting)) : wpX_repeatTop post (drafted, latestPlace, positions, nI (f + 1), elementCount, draftKind, draftValue, weights, tokenAt, fragmentBegin, fragmentFirst, fragmentLast, fragmentEmpty, reachedWith, follow, bearing, accepting, kindOfType, leastOf, greatestOf, listedCount, listedValue, attributeUse, attributeType, typeOfName, inUse, nameOf, parentOf, kidCount, kids, hasValue, valueOf, hasAttribute, attributeValue, walked, waiting) (nI 4) := by
  have vf : vp_in (nI f) 18 := vp_in_nI hf (by omega)
  have cf : (nI f).toNatClampNeg = f := nb_cl (by omega)
  refine nm_r (e' := nI f) (nb_s1 (by omega)) (br_t rfl ⟨vf, vf, ?_⟩)
  rw [cf]
  exact sx_link (br_t rfl ⟨vf, nm_r (e' := upd fragmentEmpty f 1) (by rw [cf, nb_b1]) h⟩)
theorem sx_rep5 {post : SX → Prop} {f : Nat} (hf : f < 18) (h : post (drafted, latestPlace, positions, nI (f + 1), elementCount, draftKind, draftValue, weights, tokenAt, fragmentBegin, fragmentFirst, fragmentLast, fragmentEmpty, reachedWith, lk_f follow (fragmentLast f) (fragmentFirst f) 30, bearing, accepting, kindOfType, leastOf, greatestOf, listedCount, listedValue, attributeUse, attributeType, typeOfName, inUse, nameOf, parentOf, kidCount, kids, hasValue, valueOf, hasAttribute, attributeValue, walked, waiting)) : wpX_repeatTop post (drafted, latestPlace, positions, nI (f + 1), elementCount, draftKind, draftValue, weights, tokenAt, fragmentBegin, fragmentFirst, fragmentLast, fragmentEmpty, reachedWith, follow, bearing, accepting, kindOfType, leastOf, greatestOf, listedCount, listedValue, attributeUse, attributeType, typeOfName, inUse, nameOf, parentOf, kidCount, kids, hasValue, valueOf, hasAttribute, attributeValue, walked, waiting) (nI 5) := by
  have vf : vp_in (nI f) 18 := vp_in_nI hf (by omega)
  have cf : (nI f).toNatClampNeg = f := nb_cl (by omega)
  refine nm_r (e' := nI f) (nb_s1 (by omega)) (br_f (by decide) (br_t rfl ⟨vf, vf, ?_⟩))
  rw [cf]
  exact sx_link (br_f (by decide) (br_f (by decide) h))
/-- SEQ, CHOICE, BOTH: f holds the second part, f + 1 the first -/
theorem sx_join {post : SX → Prop} {d f P w1 w2 kk : Nat} {kd : Nat → Nat} {L1 L2 : List Nat → Prop} {ta0 fb0 ff0 fl0 fe0 fo0 ta fb ff fl fe fo : Nat → Int32} (hf : f + 4 ≤ 18) (hkk : kk = 1 ∨ kk = 2 ∨ kk = 7) (h30 : P + (if kk = 7 then 2 * (w1 + w2) else w1 + w2) ≤ 30) (hL1 : ∃ u, L1 u) (hL2 : ∃ u, L2 u)
    (b2 : fb f = nI P) (b1 : fb (f + 1) = nI (P + w2)) (e2 : fe f = 0 ∨ fe f = 1) (e1 : fe (f + 1) = 0 ∨ fe (f + 1) = 1) (g2 : xb_g ta fo P (P + w2) (ff f) (fl f) (fe f) L2) (g1 : xb_g ta fo (P + w2) (P + w2 + w1) (ff (f + 1)) (fl (f + 1)) (fe (f + 1)) L1) (hR : xf_R d kd f P (P + w2 + w1) ta0 fb0 ff0 fl0 fe0 fo0 ta fb ff fl fe fo)
    (h : ∀ ta' fb' ff' fl' fe' fo' : Nat → Int32, xb_Q d kd (if kk = 7 then 2 * (w1 + w2) else w1 + w2) (fun u => (kk = 1 ∧ ex_cat L1 L2 u) ∨ (kk = 2 ∧ (L1 u ∨ L2 u)) ∨ (kk = 7 ∧ (ex_cat L1 L2 u ∨ ex_cat L2 L1 u))) f P ta0 fb0 ff0 fl0 fe0 fo0 ta' fb' ff' fl' fe' fo' → post (drafted, latestPlace, nI (P + (if kk = 7 then 2 * (w1 + w2) else w1 + w2)), nI (f + 1), elementCount, draftKind, draftValue, weights, ta', fb', ff', fl', fe', reachedWith, fo', bearing, accepting, kindOfType, leastOf, greatestOf, listedCount, listedValue, attributeUse, attributeType, typeOfName, inUse, nameOf, parentOf, kidCount, kids, hasValue, valueOf, hasAttribute, attributeValue, walked, waiting)) :
    wpX_joinTopTwo post (drafted, latestPlace, nI (P + w2 + w1), nI (f + 2), elementCount, draftKind, draftValue, weights, ta, fb, ff, fl, fe, reachedWith, fo, bearing, accepting, kindOfType, leastOf, greatestOf, listedCount, listedValue, attributeUse, attributeType, typeOfName, inUse, nameOf, parentOf, kidCount, kids, hasValue, valueOf, hasAttribute, attributeValue, walked, waiting) (nI kk) := by
  have x2 : nI (f + 2) - 1 = nI (f + 1) := nb_s1 (by omega)
  have x3 : nI (f + 2) - 2 = nI f := pk_sub (a := f + 2) (b := 2) (by omega)
  refine nm_r x2 (nm_r x3 ?_)
  obtain ⟨r1, r2, r3, r4, r5⟩ := hR
  rcases hkk with rfl | rfl | rfl
  · simp only [show ¬ (1 : Nat) = 7 by omega, if_false] at h h30
    refine br_t rfl (sx_chain (hd := f + 1) (tl := f) (into := f) (fragmentFirst := ff) (fragmentLast := fl) (fragmentEmpty := fe) (follow := fo) (by omega) (by omega) (by omega) (nm_r (nI_1 f) ?_))
    have gs := xb_seq (lo := P) (hi := P + w2 + w1) g1 g2 (Or.inr ⟨by omega, rfl, rfl, rfl⟩) (by omega) (by omega) (by omega) hL2
    have hout : ∀ p, (p < P ∨ P + w2 + w1 ≤ p) → lk_f fo (fl (f + 1)) (ff f) 30 (186 + p) = fo (186 + p) := by
      intro p hp
      refine lk_out (Or.inr ?_)
      rw [show 186 + p - 186 = p by omega]
      cases hv : bt (fl (f + 1)) p with
      | false => rfl
      | true => have := g1.2.1 p hv; omega
    have hq := h ta fb (upd ff f (or_e (ff (f + 1)) (ff f) (fe (f + 1)))) (upd fl f (or_e (fl f) (fl (f + 1)) (fe f))) (upd fe f (an_e (fe (f + 1)) (fe f))) (lk_f fo (fl (f + 1)) (ff f) 30) ⟨b2, by rw [pk_us]; exact an_01 _ _, ?_, ?_⟩
    · rw [show P + w2 + w1 = P + (w1 + w2) by omega]; exact hq
    · rw [pk_us, pk_us, pk_us, show P + (w1 + w2) = P + w2 + w1 by omega]
      refine xb_L gs (fun u => ?_)
      constructor
      · rintro (q | q | q)
        · exact q.2
        · first | omega | exact q.1.elim | exact absurd q.1 (by decide)
        · first | omega | exact q.1.elim | exact absurd q.1 (by decide)
      · intro q; exact Or.inl ⟨by trivial, q⟩
    · rw [show P + (w1 + w2) = P + w2 + w1 by omega]
      refine ⟨fun j hj => ?_, fun p hp => ?_, fun j hj => ?_, fun p p1 p2 => ?_, r5⟩
      · rw [pk_un (by omega), pk_un (by omega), pk_un (by omega)]; exact r1 j hj
      · rw [hout p (Or.inl hp)]; exact r2 p hp
      · rw [lk_out (Or.inl hj)]; exact r3 j hj
      · rw [hout p (Or.inr p1)]; exact r4 p p1 p2
  · simp only [show ¬ (2 : Nat) = 7 by omega, if_false] at h h30
    refine br_f (by decide) (br_t rfl (sx_unite (into := f) (oth := f + 1) (fragmentFirst := ff) (fragmentLast := fl) (fragmentEmpty := fe) (by omega) (by omega) (nm_r (nI_1 f) ?_)))
    have ga := xb_alt (lo := P) (hi := P + w2 + w1) g2 g1 (Or.inl ⟨rfl, rfl, rfl⟩) (by omega) (by omega)
    have hq := h ta fb (upd ff f (ff f ||| ff (f + 1))) (upd fl f (fl f ||| fl (f + 1))) (upd fe f (ow_e (fe f) (fe (f + 1)))) fo ⟨b2, by rw [pk_us]; exact ow_01 _ _, ?_, ?_⟩
    · rw [show P + w2 + w1 = P + (w1 + w2) by omega]; exact hq
    · rw [pk_us, pk_us, pk_us, show P + (w1 + w2) = P + w2 + w1 by omega]
      refine xb_L ga (fun u => ?_)
      constructor
      · rintro (q | q | q)
        · first | omega | exact q.1.elim | exact absurd q.1 (by decide)
        · exact q.2.elim Or.inr Or.inl
        · first | omega | exact q.1.elim | exact absurd q.1 (by decide)
      · intro q; exact Or.inr (Or.inl ⟨by trivial, q.elim Or.inr Or.inl⟩)
    · rw [show P + (w1 + w2) = P + w2 + w1 by omega]
      refine ⟨fun j hj => ?_, r2, r3, r4, r5⟩
      rw [pk_un (by omega), pk_un (by omega), pk_un (by omega)]; exact r1 j hj
  · simp only [if_true] at h h30
    refine br_f (by decide) (br_f (by decide) ?_)
    -- a copy of the second part
    refine sx_pushCopy (j := f) (F := f + 2) (lo := P) (hi := P + w2) (P := P + w2 + w1) (tokenAt := ta) (fragmentBegin := fb) (fragmentFirst := ff) (fragmentLast := fl) (fragmentEmpty := fe) (follow := fo) (by omega) (by omega) (by omega) (by omega) (by omega) b2 (Or.inr ⟨by omega, b1⟩) e2 ?_
    have s1 : P + w2 - P = w2 := by omega
    have s2 : P + w2 + w1 - P = w2 + w1 := by omega
    rw [s1, s2]
    have c2 := xb_copy (s := w2 + w1) g2 (by omega) (by omega) (by omega)
    rw [s1] at c2
    have g2a : xb_g (cp_a ta 0 P w2 (w2 + w1) (fun z => z)) (cp_a fo 186 P w2 (w2 + w1) (fun z => z <<< (nI (w2 + w1) &&& 31))) P (P + w2) (ff f) (fl f) (fe f) L2 := xb_cg g2 (fun p p1 p2 => ⟨cp_out (by omega), cp_out (by omega)⟩)
    have g1a : xb_g (cp_a ta 0 P w2 (w2 + w1) (fun z => z)) (cp_a fo 186 P w2 (w2 + w1) (fun z => z <<< (nI (w2 + w1) &&& 31))) (P + w2) (P + w2 + w1) (ff (f + 1)) (fl (f + 1)) (fe (f + 1)) L1 := xb_cg g1 (fun p p1 p2 => ⟨cp_out (by omega), cp_out (by omega)⟩)
    have tA : ∀ p, P ≤ p → p < P + w2 + w1 + w2 → ∃ i, cp_a ta 0 P w2 (w2 + w1) (fun z => z) p = nI i ∧ i < d ∧ kd i = 0 := by
      intro p p1 p2
      by_cases q : p < P + w2 + w1
      · rw [cp_out (by omega)]; exact r5 p p1 q
      · have := cp_in (g := ta) (o := 0) (b := P) (m := w2) (s := w2 + w1) (h := fun z => z) (j := p - (w2 + w1)) (by omega) (by omega)
        rw [Nat.sub_add_cancel (by omega)] at this
        rw [this]
        exact r5 _ (by omega) (by omega)
    have tF : ∀ j, j < 186 + P → cp_a fo 186 P w2 (w2 + w1) (fun z => z <<< (nI (w2 + w1) &&& 31)) j = fo j := fun j hj => cp_out (by omega)
    have tZ : ∀ p, P + w2 + w1 + w2 ≤ p → p < 30 → cp_a fo 186 P w2 (w2 + w1) (fun z => z <<< (nI (w2 + w1) &&& 31)) (186 + p) = 0 := fun p p1 p2 => by rw [cp_out (by omega)]; exact r4 p (by omega) p2
    have tT : ∀ p, p < P → cp_a ta 0 P w2 (w2 + w1) (fun z => z) p = ta p := fun p hp => cp_out (by omega)
    revert c2 g2a g1a tA tF tZ tT
    generalize cp_a ta 0 P w2 (w2 + w1) (fun z => z) = tb
    generalize cp_a fo 186 P w2 (w2 + w1) (fun z => z <<< (nI (w2 + w1) &&& 31)) = fob
    generalize ff f <<< (nI (w2 + w1) &&& 31) = F3
    generalize fl f <<< (nI (w2 + w1) &&& 31) = A3
    intro c2 g2a g1a tA tF tZ tT
    -- a copy of the first part
    refine sx_pushCopy (j := f + 1) (F := f + 2 + 1) (lo := P + w2) (hi := P + w2 + w1) (P := P + w2 + w1 + w2) (by omega) (by omega) (by omega) (by omega) (by omega) (by rw [pk_un (by omega)]; exact b1) (Or.inr ⟨by omega, by rw [pk_us]⟩) (by rw [pk_un (by omega)]; exact e1) ?_
    have s3 : P + w2 + w1 - (P + w2) = w1 := by omega
    have s4 : P + w2 + w1 + w2 - (P + w2) = w1 + w2 := by omega
    have u1 : upd ff (f + 2) F3 (f + 1) = ff (f + 1) := pk_un (by omega)
    have u2 : upd fl (f + 2) A3 (f + 1) = fl (f + 1) := pk_un (by omega)
    have u3 : upd fe (f + 2) (fe f) (f + 1) = fe (f + 1) := pk_un (by omega)
    rw [s3, s4, u1, u2, u3]
    have c1 := xb_copy (s := w1 + w2) g1a (by omega) (by omega) (by omega)
    rw [s3] at c1
    have g2b : xb_g (cp_a tb 0 (P + w2) w1 (w1 + w2) (fun z => z)) (cp_a fob 186 (P + w2) w1 (w1 + w2) (fun z => z <<< (nI (w1 + w2) &&& 31))) P (P + w2) (ff f) (fl f) (fe f) L2 := xb_cg g2a (fun p p1 p2 => ⟨cp_out (by omega), cp_out (by omega)⟩)
    have g1b : xb_g (cp_a tb 0 (P + w2) w1 (w1 + w2) (fun z => z)) (cp_a fob 186 (P + w2) w1 (w1 + w2) (fun z => z <<< (nI (w1 + w2) &&& 31))) (P + w2) (P + w2 + w1) (ff (f + 1)) (fl (f + 1)) (fe (f + 1)) L1 := xb_cg g1a (fun p p1 p2 => ⟨cp_out (by omega), cp_out (by omega)⟩)
    have g3b : xb_g (cp_a tb 0 (P + w2) w1 (w1 + w2) (fun z => z)) (cp_a fob 186 (P + w2) w1 (w1 + w2) (fun z => z <<< (nI (w1 + w2) &&& 31))) (P + (w2 + w1)) (P + w2 + (w2 + w1)) F3 A3 (fe f) L2 := xb_cg c2 (fun p p1 p2 => ⟨cp_out (by omega), cp_out (by omega)⟩)
    have vA : ∀ p, P ≤ p → p < P + 2 * (w1 + w2) → ∃ i, cp_a tb 0 (P + w2) w1 (w1 + w2) (fun z => z) p = nI i ∧ i < d ∧ kd i = 0 := by
      intro p p1 p2
      by_cases q : p < P + w2 + w1 + w2
      · rw [cp_out (by omega)]; exact tA p p1 q
      · have := cp_in (g := tb) (o := 0) (b := P + w2) (m := w1) (s := w1 + w2) (h := fun z => z) (j := p - (w1 + w2)) (by omega) (by omega)
        rw [Nat.sub_add_cancel (by omega)] at this
        rw [this]
        exact tA _ (by omega) (by omega)
    have vF : ∀ j, j < 186 + P → cp_a fob 186 (P + w2) w1 (w1 + w2) (fun z => z <<< (nI (w1 + w2) &&& 31)) j = fo j := fun j hj => by rw [cp_out (by omega)]; exact tF j hj
    have vZ : ∀ p, P + 2 * (w1 + w2) ≤ p → p < 30 → cp_a fob 186 (P + w2) w1 (w1 + w2) (fun z => z <<< (nI (w1 + w2) &&& 31)) (186 + p) = 0 := fun p p1 p2 => by rw [cp_out (by omega)]; exact tZ p (by omega) p2
    have vT : ∀ p, p < P → cp_a tb 0 (P + w2) w1 (w1 + w2) (fun z => z) p = ta p := fun p hp => by rw [cp_out (by omega)]; exact tT p hp
    revert c1 g2b g1b g3b vA vF vZ vT
    generalize cp_a tb 0 (P + w2) w1 (w1 + w2) (fun z => z) = tc
    generalize cp_a fob 186 (P + w2) w1 (w1 + w2) (fun z => z <<< (nI (w1 + w2) &&& 31)) = foc
    generalize ff (f + 1) <<< (nI (w1 + w2) &&& 31) = F4
    generalize fl (f + 1) <<< (nI (w1 + w2) &&& 31) = A4
    intro c1 g2b g1b g3b vA vF vZ vT
    -- first, second
    have w1' : upd (upd ff (f + 2) F3) (f + 2 + 1) F4 (f + 1) = ff (f + 1) := by rw [pk_un (by omega), pk_un (by omega)]
    have w2' : upd (upd ff (f + 2) F3) (f + 2 + 1) F4 f = ff f := by rw [pk_un (by omega), pk_un (by omega)]
    have w3' : upd (upd fl (f + 2) A3) (f + 2 + 1) A4 (f + 1) = fl (f + 1) := by rw [pk_un (by omega), pk_un (by omega)]
    have w4' : upd (upd fl (f + 2) A3) (f + 2 + 1) A4 f = fl f := by rw [pk_un (by omega), pk_un (by omega)]
    have w5' : upd (upd fe (f + 2) (fe f)) (f + 2 + 1) (fe (f + 1)) (f + 1) = fe (f + 1) := by rw [pk_un (by omega), pk_un (by omega)]
    have w6' : upd (upd fe (f + 2) (fe f)) (f + 2 + 1) (fe (f + 1)) f = fe f := by rw [pk_un (by omega), pk_un (by omega)]
    refine sx_chain (hd := f + 1) (tl := f) (into := f) (by omega) (by omega) (by omega) ?_
    rw [w1', w2', w3', w4', w5', w6']
    have gs := xb_seq (lo := P) (hi := P + w2 + w1) g1b g2b (Or.inr ⟨by omega, rfl, rfl, rfl⟩) (by omega) (by omega) (by omega) hL2
    have o1 : ∀ p, (p < P + w2 ∨ P + w2 + w1 ≤ p) → lk_f foc (fl (f + 1)) (ff f) 30 (186 + p) = foc (186 + p) := by
      intro p hp
      refine lk_out (Or.inr ?_)
      rw [show 186 + p - 186 = p by omega]
      cases hv : bt (fl (f + 1)) p with
      | false => rfl
      | true => have := g1b.2.1 p hv; omega
    have g3c := xb_cg (ta' := tc) (fo' := lk_f foc (fl (f + 1)) (ff f) 30) g3b (fun p p1 p2 => ⟨rfl, o1 p (by omega)⟩)
    have g4c := xb_cg (ta' := tc) (fo' := lk_f foc (fl (f + 1)) (ff f) 30) c1 (fun p p1 p2 => ⟨rfl, o1 p (by omega)⟩)
    -- second, first
    rw [nI_1 (f + 1), show nI (f + 1) + 2 = nI (f + 1 + 2) from nI_add (f + 1) 2, show f + 1 + 1 = f + 2 by omega, show f + 1 + 2 = f + 3 by omega]
    refine sx_chain (hd := f + 2) (tl := f + 3) (into := f + 2) (by omega) (by omega) (by omega) ?_
    have y1 : ∀ (z a b c : Nat → Int32) (v1 v2 v3 : Int32), upd (upd (upd z (f + 2) v1) (f + 2 + 1) v2) f v3 (f + 2) = v1 := fun z a b c v1 v2 v3 => by rw [pk_un (by omega), pk_un (by omega), pk_us]
    have y2 : ∀ (z : Nat → Int32) (v1 v2 v3 : Int32), upd (upd (upd z (f + 2) v1) (f + 2 + 1) v2) f v3 (f + 3) = v2 := fun z v1 v2 v3 => by rw [pk_un (by omega), show f + 3 = f + 2 + 1 by omega, pk_us]
    rw [y1 _ ff ff ff, y1 _ ff ff ff, y1 _ ff ff ff, y2, y2, y2]
    have gt := xb_seq (lo := P + w2 + w1) (hi := P + 2 * (w1 + w2)) g3c g4c (Or.inl ⟨by omega, by omega, by omega, by omega⟩) (by omega) (by omega) (by omega) hL1
    have o2 : ∀ p, (p < P + w2 + w1 ∨ P + 2 * (w1 + w2) ≤ p) → lk_f (lk_f foc (fl (f + 1)) (ff f) 30) A3 F4 30 (186 + p) = lk_f foc (fl (f + 1)) (ff f) 30 (186 + p) := by
      intro p hp
      refine lk_out (Or.inr ?_)
      rw [show 186 + p - 186 = p by omega]
      cases hv : bt A3 p with
      | false => rfl
      | true => have := g3c.2.1 p hv; omega
    have gu := xb_cg (ta' := tc) (fo' := lk_f (lk_f foc (fl (f + 1)) (ff f) 30) A3 F4 30) gs (fun p p1 p2 => ⟨rfl, o2 p (by omega)⟩)
    -- either
    refine sx_unite (into := f) (oth := f + 2) (by omega) (by omega) (nm_r (nI_1 f) ?_)
    have ga := xb_alt (lo := P) (hi := P + 2 * (w1 + w2)) gu gt (Or.inl ⟨rfl, rfl, rfl⟩) (by omega) (by omega)
    have z1 : ∀ (z : Nat → Int32) (v1 v2 : Int32), upd (upd z f v1) (f + 2) v2 f = v1 := fun z v1 v2 => by rw [pk_un (by omega), pk_us]
    have z2 : ∀ (z : Nat → Int32) (v1 v2 : Int32), upd (upd z f v1) (f + 2) v2 (f + 2) = v2 := fun z v1 v2 => by rw [pk_us]
    rw [z1, z1, z1, z2, z2, z2, show P + w2 + w1 + w2 + w1 = P + 2 * (w1 + w2) by omega]
    refine h _ _ _ _ _ _ ⟨?_, by rw [pk_us]; exact ow_01 _ _, ?_, ?_⟩
    · rw [pk_un (by omega), pk_un (by omega)]; exact b2
    · rw [pk_us, pk_us, pk_us]
      refine xb_L ga (fun u => ?_)
      constructor
      · rintro (q | q | q)
        · first | omega | exact q.1.elim | exact absurd q.1 (by decide)
        · first | omega | exact q.1.elim | exact absurd q.1 (by decide)
        · exact q.2
      · intro q; exact Or.inr (Or.inr ⟨by trivial, q⟩)
    · refine ⟨fun j hj => ?_, fun p hp => ?_, fun j hj => ?_, fun p p1 p2 => ?_, vA⟩
      · have k0 : ∀ (z : Nat → Int32) (v1 v2 v3 v4 v5 : Int32), upd (upd (upd (upd (upd z (f + 2) v1) (f + 2 + 1) v2) f v3) (f + 2) v4) f v5 j = z j := fun z v1 v2 v3 v4 v5 => by rw [pk_un (by omega), pk_un (by omega), pk_un (by omega), pk_un (by omega), pk_un (by omega)]
        rw [k0, k0, k0, pk_un (by omega), pk_un (by omega)]
        exact r1 j hj
      · rw [vT p hp, o2 p (by omega), o1 p (by omega), vF _ (by omega)]
        exact r2 p hp
      · rw [lk_out (Or.inl hj), lk_out (Or.inl hj), vF _ (by omega)]
        exact r3 j hj
      · rw [o2 p (by omega), o1 p (by omega)]
        exact vZ p p1 p2
end
end
section
/-! ===== the component's automaton, over the tree ===== -/
def dr_K (d : Nat) (dk dv : Nat → Int32) (kd vl : Nat → Nat) : Prop := ∀ i, i < d → dk i = nI (kd i) ∧ kd i < 9 ∧ (kd i = 0 → vl i < 6) ∧ (kd i = 8 → vl i < 16 ∧ vl i / 4 ≤ vl i % 4 ∧ 1 ≤ vl i % 4) ∧ (kd i = 0 ∨ kd i = 8 → dv i = nI (vl i))
section
variable {drafted latestPlace positions fragments elementCount : Int32} {draftKind draftValue weights tokenAt fragmentBegin fragmentFirst fragmentLast fragmentEmpty reachedWith follow bearing accepting kindOfType leastOf greatestOf listedCount listedValue attributeUse attributeType typeOfName inUse nameOf parentOf kidCount kids hasValue valueOf hasAttribute attributeValue walked waiting : Nat → Int32}
theorem sx_baT {post : SX → Prop} {d : Nat} {kd vl : Nat → Nat} (hd : d ≤ 16) (hk : dr_K d draftKind draftValue kd vl) : ∀ (R : ex_T) (b f P fu : Nat) (ta fb ff fl fe fo : Nat → Int32), ex_S kd vl R b → ex_W R → b + ex_n R ≤ d → f + b + ex_n R ≤ 16 → P + ex_w R ≤ 30 → (∀ p, P ≤ p → p < 30 → fo (186 + p) = 0) → (∀ ta' fb' ff' fl' fe' fo' : Nat → Int32, xb_Q d kd (ex_w R) (ex_L id R) f P ta fb ff fl fe fo ta' fb' ff' fl' fe' fo' → wX_buildAutomaton_11 post fu (nI b + (-1)) (nI d) latestPlace (nI (P + ex_w R)) (nI (f + 1)) elementCount draftKind draftValue weights ta' fb' ff' fl' fe' reachedWith fo' bearing accepting kindOfType leastOf greatestOf listedCount listedValue attributeUse attributeType typeOfName inUse nameOf parentOf kidCount kids hasValue valueOf hasAttribute attributeValue walked waiting) → wX_buildAutomaton_11 post (fu + ex_n R) (nI (b + ex_n R) + (-1)) (nI d) latestPlace (nI P) (nI f) elementCount draftKind draftValue weights ta fb ff fl fe reachedWith fo bearing accepting kindOfType leastOf greatestOf listedCount listedValue attributeUse attributeType typeOfName inUse nameOf parentOf kidCount kids hasValue valueOf hasAttribute attributeValue walked waiting := by
  have two : ∀ (A B R : ex_T) (kk : Nat), (kk = 1 ∨ kk = 2 ∨ kk = 7) → ex_w R = (if kk = 7 then 2 * (ex_w A + ex_w B) else ex_w A + ex_w B) → (∀ u, ex_L id R u ↔ (kk = 1 ∧ ex_cat (ex_L id A) (ex_L id B) u) ∨ (kk = 2 ∧ (ex_L id A u ∨ ex_L id B u)) ∨ (kk = 7 ∧ (ex_cat (ex_L id A) (ex_L id B) u ∨ ex_cat (ex_L id B) (ex_L id A) u))) →
      (∀ (b f P fu : Nat) (ta fb ff fl fe fo : Nat → Int32), ex_S kd vl A b → ex_W A → b + ex_n A ≤ d → f + b + ex_n A ≤ 16 → P + ex_w A ≤ 30 → (∀ p, P ≤ p → p < 30 → fo (186 + p) = 0) → (∀ ta' fb' ff' fl' fe' fo' : Nat → Int32, xb_Q d kd (ex_w A) (ex_L id A) f P ta fb ff fl fe fo ta' fb' ff' fl' fe' fo' → wX_buildAutomaton_11 post fu (nI b + (-1)) (nI d) latestPlace (nI (P + ex_w A)) (nI (f + 1)) elementCount draftKind draftValue weights ta' fb' ff' fl' fe' reachedWith fo' bearing accepting kindOfType leastOf greatestOf listedCount listedValue attributeUse attributeType typeOfName inUse nameOf parentOf kidCount kids hasValue valueOf hasAttribute attributeValue walked waiting) → wX_buildAutomaton_11 post (fu + ex_n A) (nI (b + ex_n A) + (-1)) (nI d) latestPlace (nI P) (nI f) elementCount draftKind draftValue weights ta fb ff fl fe reachedWith fo bearing accepting kindOfType leastOf greatestOf listedCount listedValue attributeUse attributeType typeOfName inUse nameOf parentOf kidCount kids hasValue valueOf hasAttribute attributeValue walked waiting) →
      (∀ (b f P fu : Nat) (ta fb ff fl fe fo : Nat → Int32), ex_S kd vl B b → ex_W B → b + ex_n B ≤ d → f + b + ex_n B ≤ 16 → P + ex_w B ≤ 30 → (∀ p, P ≤ p → p < 30 → fo (186 + p) = 0) → (∀ ta' fb' ff' fl' fe' fo' : Nat → Int32, xb_Q d kd (ex_w B) (ex_L id B) f P ta fb ff fl fe fo ta' fb' ff' fl' fe' fo' → wX_buildAutomaton_11 post fu (nI b + (-1)) (nI d) latestPlace (nI (P + ex_w B)) (nI (f + 1)) elementCount draftKind draftValue weights ta' fb' ff' fl' fe' reachedWith fo' bearing accepting kindOfType leastOf greatestOf listedCount listedValue attributeUse attributeType typeOfName inUse nameOf parentOf kidCount kids hasValue valueOf hasAttribute attributeValue walked waiting) → wX_buildAutomaton_11 post (fu + ex_n B) (nI (b + ex_n B) + (-1)) (nI d) latestPlace (nI P) (nI f) elementCount draftKind draftValue weights ta fb ff fl fe reachedWith fo bearing accepting kindOfType leastOf greatestOf listedCount listedValue attributeUse attributeType typeOfName inUse nameOf parentOf kidCount kids hasValue valueOf hasAttribute attributeValue walked waiting) →
      ∀ (b f P fu : Nat) (ta fb ff fl fe fo : Nat → Int32), kd b = kk → ex_S kd vl A (b + 1) → ex_S kd vl B (b + 1 + ex_n A) → ex_W A → ex_W B → b + (1 + ex_n A + ex_n B) ≤ d → f + b + (1 + ex_n A + ex_n B) ≤ 16 → P + ex_w R ≤ 30 → (∀ p, P ≤ p → p < 30 → fo (186 + p) = 0) → (∀ ta' fb' ff' fl' fe' fo' : Nat → Int32, xb_Q d kd (ex_w R) (ex_L id R) f P ta fb ff fl fe fo ta' fb' ff' fl' fe' fo' → wX_buildAutomaton_11 post fu (nI b + (-1)) (nI d) latestPlace (nI (P + ex_w R)) (nI (f + 1)) elementCount draftKind draftValue weights ta' fb' ff' fl' fe' reachedWith fo' bearing accepting kindOfType leastOf greatestOf listedCount listedValue attributeUse attributeType typeOfName inUse nameOf parentOf kidCount kids hasValue valueOf hasAttribute attributeValue walked waiting) → wX_buildAutomaton_11 post (fu + (1 + ex_n A + ex_n B)) (nI (b + (1 + ex_n A + ex_n B)) + (-1)) (nI d) latestPlace (nI P) (nI f) elementCount draftKind draftValue weights ta fb ff fl fe reachedWith fo bearing accepting kindOfType leastOf greatestOf listedCount listedValue attributeUse attributeType typeOfName inUse nameOf parentOf kidCount kids hasValue valueOf hasAttribute attributeValue walked waiting := by
    intro A B R kk hkk hw hL ihA ihB b f P fu ta fb ff fl fe fo hkb hSA hSB hWA hWB hbd hfb h30 hz h
    have pA := ex_n_pos A
    have pB := ex_n_pos B
    have hwAB : ex_w A + ex_w B ≤ ex_w R := by rw [hw]; split <;> omega
    rw [show fu + (1 + ex_n A + ex_n B) = fu + 1 + ex_n A + ex_n B by omega, show b + (1 + ex_n A + ex_n B) = b + 1 + ex_n A + ex_n B by omega]
    refine ihB (b + 1 + ex_n A) f P (fu + 1 + ex_n A) ta fb ff fl fe fo hSB hWB (by omega) (by omega) (by omega) hz (fun ta1 fb1 ff1 fl1 fe1 fo1 Q1 => ?_)
    obtain ⟨q1, q2, q3, r1, r2, r3, r4, r5⟩ := Q1
    refine ihA (b + 1) (f + 1) (P + ex_w B) (fu + 1) ta1 fb1 ff1 fl1 fe1 fo1 hSA hWA (by omega) (by omega) (by omega) r4 (fun ta2 fb2 ff2 fl2 fe2 fo2 Q2 => ?_)
    obtain ⟨t1, t2, t3, v1, v2, v3, v4, v5⟩ := Q2
    obtain ⟨k1, k2, _⟩ := hk b (by omega)
    obtain ⟨a1, a2, a3, a4⟩ := v1 f (by omega)
    rw [nb_a1]
    refine br_f (nI_pos (by omega)) ⟨vp_in_nI (by omega) (by omega), nm_r (e' := nI kk) (by rw [nb_cl (by omega), k1, hkb]) (sx_parts (by omega) (br_f (by rcases hkk with rfl | rfl | rfl <;> decide) (br_t (by rcases hkk with rfl | rfl | rfl <;> rfl) ?_)))⟩
    refine sx_join (d := d) (kd := kd) (kk := kk) (w1 := ex_w A) (w2 := ex_w B) (L1 := ex_L id A) (L2 := ex_L id B) (ta0 := ta) (fb0 := fb) (ff0 := ff) (fl0 := fl) (fe0 := fe) (fo0 := fo) (by omega) hkk (by rw [← hw]; exact h30) (ex_ne id A hWA) (ex_ne id B hWB) (by rw [a1]; exact q1) t1 (by rw [a4]; exact q2) t2 ?_ t3 ?_ (fun ta' fb' ff' fl' fe' fo' Q => nm_e ?_)
    · rw [a2, a3, a4]
      exact xb_cg q3 (fun p p1 p2 => v2 p (by omega))
    · refine ⟨fun j hj => ?_, fun p hp => ?_, fun j hj => ?_, v4, fun p p1 p2 => ?_⟩
      · obtain ⟨y1, y2, y3, y4⟩ := v1 j (by omega)
        rw [y1, y2, y3, y4]
        exact r1 j hj
      · obtain ⟨y1, y2⟩ := v2 p (by omega)
        rw [y1, y2]
        exact r2 p hp
      · rw [v3 j hj]; exact r3 j hj
      · by_cases q : p < P + ex_w B
        · rw [(v2 p q).1]; exact r5 p p1 q
        · exact v5 p (by omega) p2
    · rw [← hw] at Q ⊢
      refine h ta' fb' ff' fl' fe' fo' ⟨Q.1, Q.2.1, xb_L Q.2.2.1 hL, Q.2.2.2⟩
  intro R
  induction R with
  | natCast k => intro b f P fu ta fb ff fl fe fo hS; exact hS.elim
  | intCast k => intro b f P fu ta fb ff fl fe fo hS; exact hS.elim
  | num k =>
    intro b f P fu ta fb ff fl fe fo hS hW hbd hfb h30 hz h
    simp only [ex_n, ex_w, Nat.add_zero] at hbd hfb h30 h ⊢
    have hkb : kd b = 6 := hS
    obtain ⟨k1, k2, _⟩ := hk b (by omega)
    rw [hkb] at k1
    rw [nb_a1]
    refine br_f (nI_pos (by omega)) ⟨vp_in_nI (by omega) (by omega), nm_r (e' := nI 6) (by rw [nb_cl (by omega), k1]) (sx_parts (by omega) (br_t rfl ?_))⟩
    refine sx_leafE (b := b) (f := f) (P := P) (by omega) (by omega) k1 (nm_e (h _ _ _ _ _ _ ⟨pk_us, by rw [pk_us]; exact Or.inr rfl, ?_, ?_⟩))
    · rw [pk_us, pk_us, pk_us]
      refine gl_F_eq gl_none (fun p => ⟨fun q => by omega, fun q => q.elim⟩) (fun p => by rw [b_0]; exact ⟨fun q => absurd q Bool.false_ne_true, fun q => q.elim⟩) (fun p => by rw [b_0]; exact ⟨fun q => absurd q Bool.false_ne_true, fun q => q.elim⟩) ⟨fun _ => trivial, fun _ => nb_10⟩ (fun u => Iff.rfl)
    · refine ⟨fun j hj => ?_, fun p _ => ⟨rfl, rfl⟩, fun j _ => rfl, hz, fun p p1 p2 => by omega⟩
      rw [pk_un (by omega), pk_un (by omega), pk_un (by omega), pk_un (by omega)]
      exact ⟨rfl, rfl, rfl, rfl⟩
  | var i =>
    intro b f P fu ta fb ff fl fe fo hS hW hbd hfb h30 hz h
    simp only [ex_n, ex_w] at hbd hfb h30 h ⊢
    obtain ⟨hkb, rfl⟩ := hS
    obtain ⟨k1, k2, _⟩ := hk i (by omega)
    rw [hkb] at k1
    rw [nb_a1]
    refine br_f (nI_pos (by omega)) ⟨vp_in_nI (by omega) (by omega), nm_r (e' := nI 0) (by rw [nb_cl (by omega), k1]) (sx_parts (by omega) (br_t rfl ?_))⟩
    refine sx_leafN (b := i) (f := f) (P := P) (by omega) (by omega) (by omega) k1 (nm_e (h _ _ _ _ _ _ ⟨pk_us, by rw [pk_us]; exact Or.inl rfl, ?_, ?_⟩))
    · rw [pk_us, pk_us, pk_us]
      have z0 := hz P (Nat.le_refl _) (by omega)
      have gl := gl_leaf (φ := fun p q => bt (fo (186 + p)) q = true) (tk := fun p => (upd ta P (nI i) p).toNatClampNeg) (p := P) (fun q hq => by
        have hq' : bt (fo (186 + P)) q = true := hq
        rw [z0, b_0] at hq'
        cases hq')
      refine gl_F_eq gl (fun p => by omega) (fun p => bb_sI (by omega)) (fun p => bb_sI (by omega)) ⟨fun q => absurd rfl q, fun q => q.elim⟩ (fun u => ?_)
      show u = [i] ↔ u = [(upd ta P (nI i) P).toNatClampNeg]
      rw [pk_us, nb_cl (by omega)]
    · refine ⟨fun j hj => ?_, fun p hp => ⟨pk_un (by omega), rfl⟩, fun j _ => rfl, fun p p1 p2 => hz p (by omega) p2, fun p p1 p2 => ?_⟩
      · rw [pk_un (by omega), pk_un (by omega), pk_un (by omega), pk_un (by omega)]
        exact ⟨rfl, rfl, rfl, rfl⟩
      · obtain rfl : p = P := by omega
        exact ⟨i, pk_us, by omega, hkb⟩
  | neg A ih =>
    intro b f P fu ta fb ff fl fe fo hS hW hbd hfb h30 hz h
    simp only [ex_n, ex_w] at hbd hfb h30 h ⊢
    obtain ⟨hkb, hSA⟩ := hS
    obtain ⟨k1, k2, _⟩ := hk b (by omega)
    rw [hkb] at k1
    rw [show fu + (1 + ex_n A) = fu + 1 + ex_n A by omega, show b + (1 + ex_n A) = b + 1 + ex_n A by omega]
    refine ih (b + 1) f P (fu + 1) ta fb ff fl fe fo hSA hW (by omega) (by omega) h30 hz (fun ta1 fb1 ff1 fl1 fe1 fo1 Q1 => ?_)
    obtain ⟨q1, q2, q3, r1, r2, r3, r4, r5⟩ := Q1
    rw [nb_a1]
    refine br_f (nI_pos (by omega)) ⟨vp_in_nI (by omega) (by omega), nm_r (e' := nI 3) (by rw [nb_cl (by omega), k1]) (sx_parts (by omega) (br_f (by decide) (br_f (by decide) (br_f (by decide) ?_))))⟩
    refine sx_rep3 (f := f) (by omega) (nm_e (h _ _ _ _ _ _ ⟨q1, by rw [pk_us]; exact Or.inr rfl, ?_, fun j hj => ?_, r2, r3, r4, r5⟩))
    · rw [pk_us]
      exact gl_F_eq (gl_opt q3) (fun _ => Iff.rfl) (fun _ => Iff.rfl) (fun _ => Iff.rfl) ⟨fun _ => trivial, fun _ => nb_10⟩ (fun u => Iff.rfl)
    · rw [pk_un (by omega)]; exact r1 j hj
  | pow A k ih =>
    intro b f P fu ta fb ff fl fe fo hS hW hbd hfb h30 hz h
    simp only [ex_n] at hbd hfb h ⊢
    obtain ⟨s1, hSA⟩ := hS
    obtain ⟨k1, k2, _, k4, k5⟩ := hk b (by omega)
    have hm1 := ex_m_pos hW.2.2
    have hwe : ex_w (.pow A k) = ex_m k * ex_w A := rfl
    have hwA : ex_w A ≤ ex_m k * ex_w A := by
      have : 1 * ex_w A ≤ ex_m k * ex_w A := Nat.mul_le_mul_right _ hm1
      omega
    have pA := ex_n_pos A
    rw [show fu + (1 + ex_n A) = fu + 1 + ex_n A by omega, show b + (1 + ex_n A) = b + 1 + ex_n A by omega]
    refine ih (b + 1) f P (fu + 1) ta fb ff fl fe fo hSA hW.1 (by omega) (by omega) (by omega) hz (fun ta1 fb1 ff1 fl1 fe1 fo1 Q1 => ?_)
    obtain ⟨q1, q2, q3, r1, r2, r3, r4, r5⟩ := Q1
    rw [nb_a1]
    have hlt : ∀ i, bt (fl1 f) i = true → i < 30 := fun i hi => by have := (q3.2.1 i hi).2; omega
    have hout : ∀ p, (p < P ∨ P + ex_w A ≤ p) → lk_f fo1 (fl1 f) (ff1 f) 30 (186 + p) = fo1 (186 + p) := by
      intro p hp
      refine lk_out (Or.inr ?_)
      rw [show 186 + p - 186 = p by omega]
      cases hv : bt (fl1 f) p with
      | false => rfl
      | true => have := q3.2.1 p hv; omega
    have gp : gl_F (fun p q => bt (lk_f fo1 (fl1 f) (ff1 f) 30 (186 + p)) q = true) (fun p => (ta1 p).toNatClampNeg) (fun p => P ≤ p ∧ p < P + ex_w A) (fun q => bt (ff1 f) q = true) (fun q => bt (fl1 f) q = true) (fe1 f ≠ 0) (fun u => ∃ j, 1 ≤ j ∧ ex_pw (ex_L id A) j u) := gl_plus q3 (fun p q => lk_I hlt)
    have fr : ∀ fe' : Nat → Int32, (∀ j, j < f → fe' j = fe1 j) → xf_R d kd f P (P + ex_w A) ta fb ff fl fe fo ta1 fb1 ff1 fl1 fe' (lk_f fo1 (fl1 f) (ff1 f) 30) := by
      intro fe' hfe'
      refine ⟨fun j hj => ?_, fun p hp => ?_, fun j hj => ?_, fun p p1 p2 => ?_, r5⟩
      · rw [hfe' j hj]; exact r1 j hj
      · rw [hout p (Or.inl hp)]; exact r2 p hp
      · rw [lk_out (Or.inl hj)]; exact r3 j hj
      · rw [hout p (Or.inr p1)]; exact r4 p p1 p2
    rcases s1 with ⟨u1, u2, u3⟩ | ⟨u1, u2⟩ | ⟨u1, u2⟩
    · -- TIMES
      rw [u2] at k1
      have dv := k5 (Or.inr u2)
      have hm : ex_m k = k % 4 := if_pos u1
      have hv := hW.2.2 u1
      rw [hwe, hm] at h30
      refine br_f (nI_pos (by omega)) ⟨vp_in_nI (by omega) (by omega), nm_r (e' := nI 8) (by rw [nb_cl (by omega), k1]) (sx_parts (by omega) (br_f (by decide) (br_f (by decide) (br_t rfl ⟨vp_in_nI (by omega) (by omega), ?_⟩))))⟩
      rw [nb_cl (n := b) (by omega), dv, u3]
      refine nm_r (e' := nI f) (nb_s1 (by omega)) ?_
      show ∃ n21, wX_copyInARow_21 _ (nI f) (nI k >>> ((2 : Int32) &&& 31)) (nI k &&& 3) n21 1 (nI d) latestPlace (nI (P + ex_w A)) (nI (f + 1)) elementCount draftKind draftValue weights ta1 fb1 ff1 fl1 fe1 reachedWith fo1 bearing accepting kindOfType leastOf greatestOf listedCount listedValue attributeUse attributeType typeOfName inUse nameOf parentOf kidCount kids hasValue valueOf hasAttribute attributeValue walked waiting
      rw [tk_sh (by omega), tk_an (by omega)]
      refine ⟨k % 4 - 1 + 1, ?_⟩
      have R1 := sx_row21 (drafted := nI d) (latestPlace := latestPlace) (elementCount := elementCount) (draftKind := draftKind) (draftValue := draftValue) (weights := weights) (reachedWith := reachedWith) (bearing := bearing) (accepting := accepting) (kindOfType := kindOfType) (leastOf := leastOf) (greatestOf := greatestOf) (listedCount := listedCount) (listedValue := listedValue) (attributeUse := attributeUse) (attributeType := attributeType) (typeOfName := typeOfName) (inUse := inUse) (nameOf := nameOf) (parentOf := parentOf) (kidCount := kidCount) (kids := kids) (hasValue := hasValue) (valueOf := valueOf) (hasAttribute := hasAttribute) (attributeValue := attributeValue) (walked := walked) (waiting := waiting) (post := fun u => match u with | (drafted, latestPlace, positions, fragments, elementCount, draftKind, draftValue, weights, tokenAt, fragmentBegin, fragmentFirst, fragmentLast, fragmentEmpty, reachedWith, follow, bearing, accepting, kindOfType, leastOf, greatestOf, listedCount, listedValue, attributeUse, attributeType, typeOfName, inUse, nameOf, parentOf, kidCount, kids, hasValue, valueOf, hasAttribute, attributeValue, walked, waiting) => ∀ x1' : Int32, x1' = nI b + (-1) → wX_buildAutomaton_11 post fu x1' drafted latestPlace positions fragments elementCount draftKind draftValue weights tokenAt fragmentBegin fragmentFirst fragmentLast fragmentEmpty reachedWith follow bearing accepting kindOfType leastOf greatestOf listedCount listedValue attributeUse attributeType typeOfName inUse nameOf parentOf kidCount kids hasValue valueOf hasAttribute attributeValue walked waiting) (d := d) (kd := kd) (f := f) (P := P) (W := ex_w A) (m := k % 4) (l := k / 4) (L := ex_L id A) (ta0 := ta) (fb0 := fb) (ff0 := ff) (fl0 := fl) (fe0 := fe) (fo0 := fo) (by omega) (by omega) (by omega) (by omega) h30 (ex_ne id A hW.1) (fun ta2 fb2 ff2 fl2 fe2 fo2 c1 c2 c3 c4 => nm_e ?_) (k % 4 - 1) 1 ta1 fb1 ff1 fl1 fe1 fo1 (by omega) (by omega) (fun j hj => ?_) (fun j hj => ?_) (fun j hj => ?_) ?_
      · rw [Nat.one_mul] at R1
        exact R1
      · rw [hwe, hm] at h
        refine h ta2 fb2 ff2 fl2 fe2 fo2 ⟨c1, c2, xb_L c3 (fun u => ?_), c4⟩
        rw [ex_tm_iff _ _ (by omega)]
        constructor
        · rintro ⟨j, j1, j2, j3⟩
          unfold ex_lo at j1
          rw [if_pos u1] at j1
          exact ⟨j, j1, j2 u1, j3⟩
        · rintro ⟨j, j1, j2, j3⟩
          exact ⟨j, by unfold ex_lo; rw [if_pos u1]; exact j1, fun _ => j2, j3⟩
      · obtain rfl : j = 0 := by omega
        rw [Nat.zero_mul, Nat.add_zero, Nat.add_zero]; exact q1
      · obtain rfl : j = 0 := by omega
        rw [Nat.add_zero]; exact q2
      · obtain rfl : j = 0 := by omega
        rw [Nat.zero_mul, Nat.add_zero, Nat.add_zero]; exact q3
      · rw [Nat.one_mul]; exact ⟨r1, r2, r3, r4, r5⟩
    · -- STAR
      subst u1
      rw [u2] at k1
      have hm : ex_m 16 * ex_w A = ex_w A := Nat.one_mul _
      rw [hwe, hm] at h
      refine br_f (nI_pos (by omega)) ⟨vp_in_nI (by omega) (by omega), nm_r (e' := nI 4) (by rw [nb_cl (by omega), k1]) (sx_parts (by omega) (br_f (by decide) (br_f (by decide) (br_f (by decide) ?_))))⟩
      refine sx_rep4 (f := f) (by omega) (nm_e (h _ _ _ _ _ _ ⟨q1, by rw [pk_us]; exact Or.inr rfl, ?_, fr _ (fun j hj => pk_un (by omega))⟩))
      rw [pk_us]
      refine gl_F_eq (gl_opt gp) (fun _ => Iff.rfl) (fun _ => Iff.rfl) (fun _ => Iff.rfl) ⟨fun _ => trivial, fun _ => nb_10⟩ (fun u => ?_)
      constructor
      · rintro ⟨j, _, _, j3⟩
        cases j with
        | zero => exact Or.inl j3
        | succ j => exact Or.inr ⟨j + 1, by omega, j3⟩
      · rintro (q | ⟨j, j1, j2⟩)
        · exact ⟨0, Nat.zero_le _, fun q => absurd q (by omega), q⟩
        · exact ⟨j, Nat.zero_le _, fun q => absurd q (by omega), j2⟩
    · -- PLUS
      subst u1
      rw [u2] at k1
      have hm : ex_m 17 * ex_w A = ex_w A := Nat.one_mul _
      rw [hwe, hm] at h
      refine br_f (nI_pos (by omega)) ⟨vp_in_nI (by omega) (by omega), nm_r (e' := nI 5) (by rw [nb_cl (by omega), k1]) (sx_parts (by omega) (br_f (by decide) (br_f (by decide) (br_f (by decide) ?_))))⟩
      refine sx_rep5 (f := f) (by omega) (nm_e (h _ _ _ _ _ _ ⟨q1, q2, ?_, fr _ (fun j hj => rfl)⟩))
      refine gl_F_eq gp (fun _ => Iff.rfl) (fun _ => Iff.rfl) (fun _ => Iff.rfl) Iff.rfl (fun u => ?_)
      constructor
      · rintro ⟨j, j1, _, j3⟩; exact ⟨j, j1, j3⟩
      · rintro ⟨j, j1, j2⟩; exact ⟨j, j1, fun q => absurd q (by omega), j2⟩
  | add A B ihA ihB =>
    intro b f P fu ta fb ff fl fe fo hS hW hbd hfb h30 hz h
    simp only [ex_n] at hbd hfb h ⊢
    exact two A B (.add A B) 2 (by omega) rfl (fun u => ⟨fun q => Or.inr (Or.inl ⟨rfl, q⟩), fun q => by rcases q with q | q | q; exact absurd q.1 (by omega); exact q.2; exact absurd q.1 (by omega)⟩) ihA ihB b f P fu ta fb ff fl fe fo hS.1 hS.2.1 hS.2.2 hW.1 hW.2 hbd hfb h30 hz h
  | mul A B ihA ihB =>
    intro b f P fu ta fb ff fl fe fo hS hW hbd hfb h30 hz h
    simp only [ex_n] at hbd hfb h ⊢
    exact two A B (.mul A B) 1 (by omega) rfl (fun u => ⟨fun q => Or.inl ⟨rfl, q⟩, fun q => by rcases q with q | q | q; exact q.2; exact absurd q.1 (by omega); exact absurd q.1 (by omega)⟩) ihA ihB b f P fu ta fb ff fl fe fo hS.1 hS.2.1 hS.2.2 hW.1 hW.2 hbd hfb h30 hz h
  | sub A B ihA ihB =>
    intro b f P fu ta fb ff fl fe fo hS hW hbd hfb h30 hz h
    simp only [ex_n] at hbd hfb h ⊢
    exact two A B (.sub A B) 7 (by omega) rfl (fun u => ⟨fun q => Or.inr (Or.inr ⟨rfl, q⟩), fun q => by rcases q with q | q | q; exact absurd q.1 (by omega); exact absurd q.1 (by omega); exact q.2⟩) ihA ihB b f P fu ta fb ff fl fe fo hS.1 hS.2.1 hS.2.2 hW.1 hW.2 hbd hfb h30 hz h
end
end
section
/-! ===== the component's automaton: cleared, and done ===== -/
/-- the automaton of the draft spells L -/
def xb_D (d W : Nat) (L : List Nat → Prop) (kd vl : Nat → Nat) (ta fo be ac fo0 be0 ac0 : Nat → Int32) : Prop := ∃ (A : Int32) (em : Prop), gl_F (fun p q => bt (fo (186 + p)) q = true) (fun p => (ta p).toNatClampNeg) (fun p => p < W) (fun q => bt (fo 216) q = true) (fun q => bt A q = true) em L ∧ (∀ p, W ≤ p → p < 30 → fo (186 + p) = 0) ∧ (∀ s, s < 30 → (bt (ac 6) s = true ↔ bt A s = true)) ∧ (bt (ac 6) 30 = true ↔ em) ∧ (∀ n, n < 6 → ∀ q, bt (be (36 + n)) q = true ↔ q < W ∧ vl ((ta q).toNatClampNeg) = n) ∧ (∀ j, j < 186 → fo j = fo0 j) ∧ (∀ j, j < 36 → be j = be0 j) ∧ (∀ j, j < 6 → ac j = ac0 j) ∧ (∀ p, p < W → ∃ i, ta p = nI i ∧ i < d ∧ kd i = 0)
section
variable {drafted latestPlace positions fragments elementCount : Int32} {draftKind draftValue weights tokenAt fragmentBegin fragmentFirst fragmentLast fragmentEmpty reachedWith follow bearing accepting kindOfType leastOf greatestOf listedCount listedValue attributeUse attributeType typeOfName inUse nameOf parentOf kidCount kids hasValue valueOf hasAttribute attributeValue walked waiting : Nat → Int32}
theorem sx_clr36 {post : SX → Prop} (h : ∀ fo' : Nat → Int32, (∀ j, j < 186 → fo' j = follow j) → (∀ s, s < 31 → fo' (186 + s) = 0) → post (drafted, latestPlace, positions, fragments, elementCount, draftKind, draftValue, weights, tokenAt, fragmentBegin, fragmentFirst, fragmentLast, fragmentEmpty, reachedWith, fo', bearing, accepting, kindOfType, leastOf, greatestOf, listedCount, listedValue, attributeUse, attributeType, typeOfName, inUse, nameOf, parentOf, kidCount, kids, hasValue, valueOf, hasAttribute, attributeValue, walked, waiting)) : ∀ (m i : Nat) (fo' : Nat → Int32), i + m = 31 → (∀ j, j < 186 → fo' j = follow j) → (∀ s, s < i → fo' (186 + s) = 0) → wX_clearAutomaton_36 post drafted latestPlace positions fragments elementCount (m + 1) (nI i) draftKind draftValue weights tokenAt fragmentBegin fragmentFirst fragmentLast fragmentEmpty reachedWith fo' bearing accepting kindOfType leastOf greatestOf listedCount listedValue attributeUse attributeType typeOfName inUse nameOf parentOf kidCount kids hasValue valueOf hasAttribute attributeValue walked waiting := by
  intro m
  induction m with
  | zero =>
    intro i fo' hi h1 h2
    obtain rfl : i = 31 := by omega
    exact br_t (by decide) (h fo' h1 h2)
  | succ m ih =>
    intro i fo' hi h1 h2
    refine br_f (nI_ge (b := 31) (by omega) (by omega)) ?_
    rw [show (186 : Int32) + nI i = nI (186 + i) from nI_add 186 i]
    refine ⟨vp_in_nI (by omega) (by omega), nm_r (e' := upd fo' (186 + i) 0) (by rw [nb_cl (by omega)]) (nm_r (nI_1 i) (ih (i + 1) _ (by omega) (fun j hj => ?_) (fun s hs => ?_)))⟩
    · rw [pk_un (by omega)]; exact h1 j hj
    · by_cases q : s = i
      · rw [q, pk_us]
      · rw [pk_un (by omega)]; exact h2 s (by omega)
theorem sx_clr12 {post : SX → Prop} (h : ∀ be' fo' : Nat → Int32, (∀ j, j < 36 → be' j = bearing j) → (∀ n, n < 6 → be' (36 + n) = 0) → (∀ j, j < 186 → fo' j = follow j) → (∀ s, s < 31 → fo' (186 + s) = 0) → post (drafted, latestPlace, positions, fragments, elementCount, draftKind, draftValue, weights, tokenAt, fragmentBegin, fragmentFirst, fragmentLast, fragmentEmpty, reachedWith, fo', be', accepting, kindOfType, leastOf, greatestOf, listedCount, listedValue, attributeUse, attributeType, typeOfName, inUse, nameOf, parentOf, kidCount, kids, hasValue, valueOf, hasAttribute, attributeValue, walked, waiting)) : ∀ (m i : Nat) (be' : Nat → Int32), i + m = 6 → (∀ j, j < 36 → be' j = bearing j) → (∀ n, n < i → be' (36 + n) = 0) → wX_clearAutomaton_12 post drafted latestPlace positions fragments elementCount (m + 1) (nI i) draftKind draftValue weights tokenAt fragmentBegin fragmentFirst fragmentLast fragmentEmpty reachedWith follow be' accepting kindOfType leastOf greatestOf listedCount listedValue attributeUse attributeType typeOfName inUse nameOf parentOf kidCount kids hasValue valueOf hasAttribute attributeValue walked waiting := by
  intro m
  induction m with
  | zero =>
    intro i be' hi h1 h2
    obtain rfl : i = 6 := by omega
    exact br_t (by decide) ⟨32, sx_clr36 (bearing := be') (fun fo' f1 f2 => h be' fo' h1 h2 f1 f2) 31 0 follow (by omega) (fun _ _ => rfl) (fun s hs => by omega)⟩
  | succ m ih =>
    intro i be' hi h1 h2
    refine br_f (nI_ge (b := 6) (by omega) (by omega)) ?_
    rw [show (36 : Int32) + nI i = nI (36 + i) from nI_add 36 i]
    refine ⟨vp_in_nI (by omega) (by omega), nm_r (e' := upd be' (36 + i) 0) (by rw [nb_cl (by omega)]) (nm_r (nI_1 i) (ih (i + 1) _ (by omega) (fun j hj => ?_) (fun s hs => ?_)))⟩
    · rw [pk_un (by omega)]; exact h1 j hj
    · by_cases q : s = i
      · rw [q, pk_us]
      · rw [pk_un (by omega)]; exact h2 s (by omega)
theorem sx_clear {post : SX → Prop} (h : ∀ be' fo' : Nat → Int32, (∀ j, j < 36 → be' j = bearing j) → (∀ n, n < 6 → be' (36 + n) = 0) → (∀ j, j < 186 → fo' j = follow j) → (∀ s, s < 31 → fo' (186 + s) = 0) → post (drafted, latestPlace, nI 0, nI 0, elementCount, draftKind, draftValue, weights, tokenAt, fragmentBegin, fragmentFirst, fragmentLast, fragmentEmpty, reachedWith, fo', be', accepting, kindOfType, leastOf, greatestOf, listedCount, listedValue, attributeUse, attributeType, typeOfName, inUse, nameOf, parentOf, kidCount, kids, hasValue, valueOf, hasAttribute, attributeValue, walked, waiting)) : wpX_clearAutomaton post (drafted, latestPlace, positions, fragments, elementCount, draftKind, draftValue, weights, tokenAt, fragmentBegin, fragmentFirst, fragmentLast, fragmentEmpty, reachedWith, follow, bearing, accepting, kindOfType, leastOf, greatestOf, listedCount, listedValue, attributeUse, attributeType, typeOfName, inUse, nameOf, parentOf, kidCount, kids, hasValue, valueOf, hasAttribute, attributeValue, walked, waiting) :=
  ⟨7, sx_clr12 (positions := nI 0) (fragments := nI 0) h 6 0 bearing (by omega) (fun _ _ => rfl) (fun n hn => by omega)⟩
theorem sx_ba127 {post : SX → Prop} {d W : Nat} {kd vl : Nat → Nat} {be0 : Nat → Int32} (hd : d ≤ 16) (hW : W ≤ 30) (hk : dr_K d draftKind draftValue kd vl) (ht : ∀ p, p < W → ∃ i, tokenAt p = nI i ∧ i < d ∧ kd i = 0) (h : ∀ be : Nat → Int32, (∀ j, j < 36 → be j = be0 j) → (∀ n, n < 6 → ∀ q, bt (be (36 + n)) q = true ↔ q < W ∧ vl ((tokenAt q).toNatClampNeg) = n) → post (drafted, latestPlace, nI W, fragments, elementCount, draftKind, draftValue, weights, tokenAt, fragmentBegin, fragmentFirst, fragmentLast, fragmentEmpty, reachedWith, follow, be, accepting, kindOfType, leastOf, greatestOf, listedCount, listedValue, attributeUse, attributeType, typeOfName, inUse, nameOf, parentOf, kidCount, kids, hasValue, valueOf, hasAttribute, attributeValue, walked, waiting)) : ∀ (m p : Nat) (be : Nat → Int32), p + m = W → (∀ j, j < 36 → be j = be0 j) → (∀ n, n < 6 → ∀ q, bt (be (36 + n)) q = true ↔ q < p ∧ vl ((tokenAt q).toNatClampNeg) = n) → wX_buildAutomaton_127 post drafted latestPlace (nI W) fragments elementCount (m + 1) (nI p) draftKind draftValue weights tokenAt fragmentBegin fragmentFirst fragmentLast fragmentEmpty reachedWith follow be accepting kindOfType leastOf greatestOf listedCount listedValue attributeUse attributeType typeOfName inUse nameOf parentOf kidCount kids hasValue valueOf hasAttribute attributeValue walked waiting := by
  intro m
  induction m with
  | zero =>
    intro p be hp h1 h2
    obtain rfl : p = W := by omega
    exact br_t (nI_le (Nat.le_refl _) (by omega)) (h be h1 h2)
  | succ m ih =>
    intro p be hp h1 h2
    obtain ⟨i, ti, hi, ki⟩ := ht p (by omega)
    obtain ⟨_, _, v6, _, dv⟩ := hk i hi
    have v6' := v6 ki
    refine br_f (nI_ge (by omega) (by omega)) ?_
    rw [nb_cl (n := p) (by omega), ti, nb_cl (n := i) (by omega), dv (Or.inl ki), show (36 : Int32) + nI (vl i) = nI (36 + vl i) from nI_add 36 _]
    have vv : vp_in (nI (36 + vl i)) 42 := vp_in_nI (by omega) (by omega)
    refine ⟨vp_in_nI (by omega) (by omega), vp_in_nI (by omega) (by omega), vv, vv, nm_r (e' := upd be (36 + vl i) (be (36 + vl i) ||| ((1 : Int32) <<< (nI p &&& 31)))) (by rw [nb_cl (by omega)]) (nm_r (nI_1 p) (ih (p + 1) _ (by omega) (fun j hj => ?_) (fun n hn q => ?_)))⟩
    · rw [pk_un (by omega)]; exact h1 j hj
    · have tk : vl ((tokenAt p).toNatClampNeg) = vl i := by rw [ti, nb_cl (by omega)]
      by_cases e : n = vl i
      · rw [e, pk_us, bb_orI, bb_sI (by omega), h2 _ v6' q]
        constructor
        · rintro (⟨r1, r2⟩ | r)
          · exact ⟨by omega, r2⟩
          · rw [r]; exact ⟨by omega, tk⟩
        · rintro ⟨r1, r2⟩
          by_cases e2 : q = p
          · exact Or.inr e2
          · exact Or.inl ⟨by omega, r2⟩
      · rw [pk_un (by omega), h2 n hn q]
        constructor
        · rintro ⟨r1, r2⟩; exact ⟨by omega, r2⟩
        · rintro ⟨r1, r2⟩
          refine ⟨?_, r2⟩
          by_cases e2 : q = p
          · rw [e2, tk] at r2; exact absurd r2.symm e
          · omega
theorem sx_build {post : SX → Prop} {kd vl : Nat → Nat} {R : ex_T} (hd : ex_n R ≤ 16) (hk : dr_K (ex_n R) draftKind draftValue kd vl) (hS : ex_S kd vl R 0) (hW : ex_W R) (hw : ex_w R ≤ 30) (h : ∀ (fr : Int32) (ta fb ff fl fe fo be ac : Nat → Int32), xb_D (ex_n R) (ex_w R) (ex_L id R) kd vl ta fo be ac follow bearing accepting → post (nI (ex_n R), latestPlace, nI (ex_w R), fr, elementCount, draftKind, draftValue, weights, ta, fb, ff, fl, fe, reachedWith, fo, be, ac, kindOfType, leastOf, greatestOf, listedCount, listedValue, attributeUse, attributeType, typeOfName, inUse, nameOf, parentOf, kidCount, kids, hasValue, valueOf, hasAttribute, attributeValue, walked, waiting)) : wpX_buildAutomaton post (nI (ex_n R), latestPlace, positions, fragments, elementCount, draftKind, draftValue, weights, tokenAt, fragmentBegin, fragmentFirst, fragmentLast, fragmentEmpty, reachedWith, follow, bearing, accepting, kindOfType, leastOf, greatestOf, listedCount, listedValue, attributeUse, attributeType, typeOfName, inUse, nameOf, parentOf, kidCount, kids, hasValue, valueOf, hasAttribute, attributeValue, walked, waiting) := by
  unfold wpX_buildAutomaton
  refine sx_clear (fun be' fo' e1 e2 e3 e4 => nm_r (e' := nI (0 + ex_n R) + (-1)) (by rw [nb_dec, Nat.zero_add]) ⟨1 + ex_n R, ?_⟩)
  refine sx_baT (bearing := be') (d := ex_n R) (kd := kd) (vl := vl) hd hk R 0 0 0 1 tokenAt fragmentBegin fragmentFirst fragmentLast fragmentEmpty fo' hS hW (by omega) (by omega) (by omega) (fun p _ hp => e4 p (by omega)) (fun ta fb ff fl fe fo Q => br_t nb_d0 ?_)
  obtain ⟨_, q2, q3, r1, r2, r3, r4, r5⟩ := Q
  rw [Nat.zero_add] at q3 r4 r5
  have gF : gl_F (fun p q => bt (upd fo 216 (ff 0) (186 + p)) q = true) (fun p => (ta p).toNatClampNeg) (fun p => p < ex_w R) (fun q => bt (upd fo 216 (ff 0) 216) q = true) (fun q => bt (fl 0) q = true) (fe 0 ≠ 0) (ex_L id R) := by
    have g1 := gl_F_eq q3 (D' := fun p => p < ex_w R) (F' := fun q => bt (upd fo 216 (ff 0) 216) q = true) (Λ' := fun q => bt (fl 0) q = true) (em' := fe 0 ≠ 0) (L' := ex_L id R) (fun p => ⟨fun q => ⟨Nat.zero_le _, q⟩, fun q => q.2⟩) (fun p => by rw [pk_us]) (fun _ => Iff.rfl) Iff.rfl (fun _ => Iff.rfl)
    refine gl_F_cg g1 (fun p q hp => ?_) (fun p hp => rfl)
    show bt (upd fo 216 (ff 0) (186 + p)) q = true ↔ bt (fo (186 + p)) q = true
    rw [pk_un (by have : p < ex_w R := hp; omega)]
  have lt30 : ∀ q, bt (fl 0) q = true → q < 30 := fun q hq => by have : q < ex_w R := gF.2.1 q hq; omega
  have fin : ∀ acv : Int32, (∀ s, s < 30 → (bt acv s = true ↔ bt (fl 0) s = true)) → (bt acv 30 = true ↔ fe 0 ≠ 0) → ∃ n127, wX_buildAutomaton_127 post (nI (ex_n R)) latestPlace (nI (ex_w R)) (nI (0 + 1)) elementCount n127 0 draftKind draftValue weights ta fb ff fl fe reachedWith (upd fo 216 (ff 0)) be' (upd accepting 6 acv) kindOfType leastOf greatestOf listedCount listedValue attributeUse attributeType typeOfName inUse nameOf parentOf kidCount kids hasValue valueOf hasAttribute attributeValue walked waiting := by
    intro acv c1 c2
    refine ⟨ex_w R + 1, sx_ba127 (tokenAt := ta) (be0 := bearing) hd hw hk (fun p hp => r5 p (Nat.zero_le _) hp) (fun be b1 b2 => h _ ta fb ff fl fe _ be _ ⟨fl 0, fe 0 ≠ 0, gF, fun p p1 p2 => ?_, fun s hs => by rw [pk_us]; exact c1 s hs, by rw [pk_us]; exact c2, b2, fun j hj => ?_, b1, fun j hj => pk_un (by omega), fun p hp => r5 p (Nat.zero_le _) hp⟩) (ex_w R) 0 be' (by omega) e1 (fun n hn q => ?_)⟩
    · rw [pk_un (by omega)]; exact r4 p p1 p2
    · rw [pk_un (by omega), r3 j hj]; exact e3 j hj
    · rw [e2 n hn, b_0]
      exact ⟨fun q => absurd q Bool.false_ne_true, fun q => by omega⟩
  rw [Nat.zero_add]
  refine nm_e ?_
  by_cases z : fe 0 = 0
  · refine br_t z (nm_e (fin _ (fun s hs => ?_) ?_))
    · rw [bb_orI, b_0]; exact ⟨fun q => q.elim id (fun q => absurd q Bool.false_ne_true), Or.inl⟩
    · rw [bb_orI, b_0]
      exact ⟨fun q => q.elim (fun q => absurd (lt30 _ q) (by omega)) (fun q => absurd q Bool.false_ne_true), fun q => absurd z q⟩
  · refine br_f z (nm_e (fin _ (fun s hs => ?_) ?_))
    · rw [bb_orI, bb_30, decide_eq_true_iff]; exact ⟨fun q => q.elim id (fun q => by omega), Or.inl⟩
    · rw [bb_orI, bb_30, decide_eq_true_iff]; exact ⟨fun _ => z, fun _ => Or.inr rfl⟩
end
end
section
/-! ===== the component's pairs of states ===== -/
def pr_f (fo : Nat → Int32) (p q : Nat) : Prop := bt (fo (186 + p)) q = true
def pr_F (fo : Nat → Int32) (q : Nat) : Prop := bt (fo 216) q = true
def pr_n (ta : Nat → Int32) (vl : Nat → Nat) (p : Nat) : Nat := vl ((ta p).toNatClampNeg)
def pr_P (fo ta : Nat → Int32) (vl : Nat → Nat) (p q : Nat) : Prop := ∃ k, gl_P (pr_f fo) (pr_F fo) (pr_n ta vl) k p q
def pr_I (fo ta : Nat → Int32) (vl : Nat → Nat) (rw : Nat → Int32) : Prop := rw 30 = 1073741824 ∧ ∀ p, p < 30 → ∀ q, bt (rw p) q = true → pr_P fo ta vl p q
def pr_c (W : Nat) (fo ta : Nat → Int32) (vl : Nat → Nat) (rw : Nat → Int32) (s : Nat) : Prop := ∀ a q, a < W → bt (fo (186 + s)) a = true → (∃ s', s' < 31 ∧ bt (rw s) s' = true ∧ bt (fo (186 + s')) q = true) → q < W → pr_n ta vl q = pr_n ta vl a → bt (rw a) q = true
def pr_T (rw : Nat → Int32) : Nat := cb_n (fun k => bt (rw (k / 31)) (k % 31)) 961
theorem pr_T_lt {r r' : Nat → Int32} (hm : ∀ a q, bt (r a) q = true → bt (r' a) q = true) {a q : Nat} (ha : a < 31) (hq : q < 31) (h0 : bt (r a) q = false) (h1 : bt (r' a) q = true) : pr_T r < pr_T r' := by
  have e1 : (31 * a + q) / 31 = a := by omega
  have e2 : (31 * a + q) % 31 = q := by omega
  refine cb_lt (k := 31 * a + q) ?_ ?_ 961 (by omega) (fun i _ h => hm _ _ h)
  · show bt (r ((31 * a + q) / 31)) ((31 * a + q) % 31) = false
    rw [e1, e2]; exact h0
  · show bt (r' ((31 * a + q) / 31)) ((31 * a + q) % 31) = true
    rw [e1, e2]; exact h1
theorem pr_T_le (r : Nat → Int32) : pr_T r ≤ 961 := cb_le _ _
section
variable {drafted latestPlace positions fragments elementCount : Int32} {draftKind draftValue weights tokenAt fragmentBegin fragmentFirst fragmentLast fragmentEmpty reachedWith follow bearing accepting kindOfType leastOf greatestOf listedCount listedValue attributeUse attributeType typeOfName inUse nameOf parentOf kidCount kids hasValue valueOf hasAttribute attributeValue walked waiting : Nat → Int32}
/-- what the draft's automaton is, as far as pairs go -/
def pr_G (d W : Nat) (kd vl : Nat → Nat) (ta fo be : Nat → Int32) : Prop := W ≤ 30 ∧ d ≤ 16 ∧ (∀ q, bt (fo 216) q = true → q < W) ∧ (∀ p q, p < W → bt (fo (186 + p)) q = true → q < W) ∧ (∀ p, W ≤ p → p < 30 → fo (186 + p) = 0) ∧ (∀ n, n < 6 → ∀ q, bt (be (36 + n)) q = true ↔ q < W ∧ vl ((ta q).toNatClampNeg) = n) ∧ (∀ p, p < W → ∃ i, ta p = nI i ∧ i < d ∧ kd i = 0)
theorem sx_sp30 {post : Int32 → SX → Prop} {d W : Nat} {kd vl : Nat → Nat} {rw0 : Nat → Int32} {nx ot : Int32} (hk : dr_K d draftKind draftValue kd vl) (hG : pr_G d W kd vl tokenAt follow bearing) (hs : ∀ p q, bt nx p = true → bt ot q = true → p < W → q < W → pr_n tokenAt vl p = pr_n tokenAt vl q → pr_P follow tokenAt vl p q)
    (h : ∀ (r : Int32) (rw : Nat → Int32), pr_I follow tokenAt vl rw → (∀ a q, bt (rw0 a) q = true → bt (rw a) q = true) → (r = 0 ∨ r = 1) → (r = 0 → rw = rw0 ∧ ∀ a q, a < W → bt nx a = true → bt ot q = true → q < W → pr_n tokenAt vl q = pr_n tokenAt vl a → bt (rw0 a) q = true) → (r = 1 → ∃ a q, a < 31 ∧ q < 31 ∧ bt (rw0 a) q = false ∧ bt (rw a) q = true) → post r (drafted, latestPlace, nI W, fragments, elementCount, draftKind, draftValue, weights, tokenAt, fragmentBegin, fragmentFirst, fragmentLast, fragmentEmpty, rw, follow, bearing, accepting, kindOfType, leastOf, greatestOf, listedCount, listedValue, attributeUse, attributeType, typeOfName, inUse, nameOf, parentOf, kidCount, kids, hasValue, valueOf, hasAttribute, attributeValue, walked, waiting)) :
    ∀ (m p : Nat) (g : Int32) (rw : Nat → Int32), p + m = W → (g = 0 ∨ g = 1) → pr_I follow tokenAt vl rw → (∀ a q, bt (rw0 a) q = true → bt (rw a) q = true) → (g = 0 → rw = rw0 ∧ ∀ a q, a < p → bt nx a = true → bt ot q = true → q < W → pr_n tokenAt vl q = pr_n tokenAt vl a → bt (rw0 a) q = true) → (g = 1 → ∃ a q, a < 31 ∧ q < 31 ∧ bt (rw0 a) q = false ∧ bt (rw a) q = true) → wX_spreadPairs_30 post nx ot drafted latestPlace (nI W) fragments elementCount (m + 1) g (nI p) draftKind draftValue weights tokenAt fragmentBegin fragmentFirst fragmentLast fragmentEmpty rw follow bearing accepting kindOfType leastOf greatestOf listedCount listedValue attributeUse attributeType typeOfName inUse nameOf parentOf kidCount kids hasValue valueOf hasAttribute attributeValue walked waiting := by
  obtain ⟨hW, hd, gF, gφ, gz, gb, gt⟩ := hG
  intro m
  induction m with
  | zero =>
    intro p g rw hp hg hI hm h0 h1
    obtain rfl : p = W := by omega
    refine br_t (nI_le (Nat.le_refl _) (by omega)) ⟨by rcases hg with q | q <;> rw [q] <;> decide, h g rw hI hm hg h0 h1⟩
  | succ m ih =>
    intro p g rw hp hg hI hm h0 h1
    refine br_f (nI_ge (by omega) (by omega)) ?_
    cases hb : bt nx p with
    | false =>
      refine br_t ((bb_t nx (by omega)).mpr hb) (nm_r (nI_1 p) (ih (p + 1) g rw (by omega) hg hI hm (fun q => ⟨(h0 q).1, fun a b r1 r2 => ?_⟩) h1))
      refine (h0 q).2 a b ?_ r2
      have : a ≠ p := fun e => by rw [e, hb] at r2; cases r2
      omega
    | true =>
      obtain ⟨i, ti, hi, ki⟩ := gt p (by omega)
      obtain ⟨_, _, v6, _, dv⟩ := hk i hi
      have v6' := v6 ki
      have np : pr_n tokenAt vl p = vl i := by unfold pr_n; rw [ti, nb_cl (by omega)]
      refine br_f ((bb_t' nx (by omega)).mpr hb) ?_
      rw [nb_cl (n := p) (by omega), ti, nb_cl (n := i) (by omega), dv (Or.inl ki), show (36 : Int32) + nI (vl i) = nI (36 + vl i) from nI_add 36 _, nb_cl (n := 36 + vl i) (by omega)]
      refine ⟨vp_in_nI (by omega) (by omega), vp_in_nI (by omega) (by omega), vp_in_nI (by omega) (by omega), nm_e ?_⟩
      have hsame : ∀ q, bt (ot &&& bearing (36 + vl i)) q = true ↔ bt ot q = true ∧ q < W ∧ pr_n tokenAt vl q = vl i := by
        intro q
        rw [bb_andI, gb (vl i) v6' q]
        exact Iff.rfl
      have vp31 : vp_in (nI p) 31 := vp_in_nI (by omega) (by omega)
      have I' : pr_I follow tokenAt vl (upd rw p (rw p ||| (ot &&& bearing (36 + vl i)))) := by
        refine ⟨by rw [pk_un (by omega)]; exact hI.1, fun a ha q hq => ?_⟩
        by_cases e : a = p
        · rw [e, pk_us] at hq
          rcases bb_orI.mp hq with hq | hq
          · rw [e]; exact hI.2 p (by omega) q hq
          · obtain ⟨c1, c2, c3⟩ := (hsame q).mp hq
            rw [e]
            exact hs p q hb c1 (by omega) c2 (by rw [np, c3])
        · rw [pk_un e] at hq; exact hI.2 a ha q hq
      have M' : ∀ a q, bt (rw0 a) q = true → bt (upd rw p (rw p ||| (ot &&& bearing (36 + vl i))) a) q = true := by
        intro a q hq
        by_cases e : a = p
        · rw [e, pk_us]; rw [e] at hq; exact bb_orI.mpr (Or.inl (hm p q hq))
        · rw [pk_un e]; exact hm a q hq
      have t97 : ∀ z : Int32, (z = 0 ∨ z = 1) → (z = 0 → upd rw p (rw p ||| (ot &&& bearing (36 + vl i))) = rw0 ∧ ∀ a q, a < p + 1 → bt nx a = true → bt ot q = true → q < W → pr_n tokenAt vl q = pr_n tokenAt vl a → bt (rw0 a) q = true) → (z = 1 → ∃ a q, a < 31 ∧ q < 31 ∧ bt (rw0 a) q = false ∧ bt (upd rw p (rw p ||| (ot &&& bearing (36 + vl i))) a) q = true) → wX_spreadPairs_97 post (wX_spreadPairs_30 post nx ot drafted latestPlace (nI W) fragments elementCount (m + 1)) nx ot (nI p) (ot &&& bearing (36 + vl i)) z drafted latestPlace (nI W) fragments elementCount draftKind draftValue weights tokenAt fragmentBegin fragmentFirst fragmentLast fragmentEmpty rw follow bearing accepting kindOfType leastOf greatestOf listedCount listedValue attributeUse attributeType typeOfName inUse nameOf parentOf kidCount kids hasValue valueOf hasAttribute attributeValue walked waiting := by
        intro z hz z0 z1
        refine ⟨vp31, vp31, nm_r (e' := upd rw p (rw p ||| (ot &&& bearing (36 + vl i)))) (by rw [nb_cl (by omega)]) (nm_r (nI_1 p) (ih (p + 1) z _ (by omega) hz I' M' z0 z1))⟩
      have keep : ∀ a q, bt (rw a) q = true → bt (upd rw p (rw p ||| (ot &&& bearing (36 + vl i))) a) q = true := by
        intro a q hq
        by_cases e : a = p
        · rw [e, pk_us]; rw [e] at hq; exact bb_orI.mpr (Or.inl hq)
        · rw [pk_un e]; exact hq
      rcases hg with g0 | g1
      · obtain ⟨er, ec⟩ := h0 g0
        refine br_t g0 ⟨vp31, ?_⟩
        by_cases z : (ot &&& bearing (36 + vl i)) &&& (rw p ^^^ (-1)) = 0
        · refine br_t z (t97 0 (Or.inl rfl) (fun _ => ?_) (fun q => absurd q (by decide)))
          have sub : ∀ q, bt (ot &&& bearing (36 + vl i)) q = true → bt (rw p) q = true := by
            intro q hq
            cases hv : bt (rw p) q with
            | true => rfl
            | false =>
              have := bb_notI.mpr ⟨hq, hv⟩
              rw [z, b_0] at this
              cases this
          have e1 : rw p ||| (ot &&& bearing (36 + vl i)) = rw p := bb_eqI (fun q => by
            rw [bb_orI]
            exact ⟨fun r => r.elim id (sub q), Or.inl⟩)
          rw [e1, kp_id]
          refine ⟨er, fun a q r1 r2 r3 r4 r5 => ?_⟩
          by_cases e : a = p
          · rw [e] at r5 ⊢
            rw [← er]
            exact sub q ((hsame q).mpr ⟨r3, r4, by rw [r5, np]⟩)
          · exact ec a q (by omega) r2 r3 r4 r5
        · refine br_f z (t97 1 (Or.inr rfl) (fun q => absurd q (by decide)) (fun _ => ?_))
          obtain ⟨q, hq⟩ := bb_ne.mp z
          obtain ⟨c1, c2⟩ := bb_notI.mp hq
          obtain ⟨_, c3, _⟩ := (hsame q).mp c1
          exact ⟨p, q, by omega, by omega, by rw [← er]; exact c2, by rw [pk_us]; exact bb_orI.mpr (Or.inr c1)⟩
      · have g10 : ¬ g = 0 := by rw [g1]; decide
        refine br_f g10 (t97 1 (Or.inr rfl) (fun q => absurd q (by decide)) (fun _ => ?_))
        obtain ⟨a, q, c1, c2, c3, c4⟩ := h1 g1
        exact ⟨a, q, c1, c2, c3, keep a q c4⟩
theorem sx_spread {post : Int32 → SX → Prop} {d W s : Nat} {kd vl : Nat → Nat} {rw0 : Nat → Int32} (hk : dr_K d draftKind draftValue kd vl) (hG : pr_G d W kd vl tokenAt follow bearing) (hI0 : pr_I follow tokenAt vl rw0) (hs31 : s < 31)
    (h : ∀ (r : Int32) (rw : Nat → Int32), pr_I follow tokenAt vl rw → (∀ a q, bt (rw0 a) q = true → bt (rw a) q = true) → (r = 0 ∨ r = 1) → (r = 0 → rw = rw0 ∧ pr_c W follow tokenAt vl rw0 s) → (r = 1 → ∃ a q, a < 31 ∧ q < 31 ∧ bt (rw0 a) q = false ∧ bt (rw a) q = true) → post r (drafted, latestPlace, nI W, fragments, elementCount, draftKind, draftValue, weights, tokenAt, fragmentBegin, fragmentFirst, fragmentLast, fragmentEmpty, rw, follow, bearing, accepting, kindOfType, leastOf, greatestOf, listedCount, listedValue, attributeUse, attributeType, typeOfName, inUse, nameOf, parentOf, kidCount, kids, hasValue, valueOf, hasAttribute, attributeValue, walked, waiting)) : wpX_spreadPairs post (drafted, latestPlace, nI W, fragments, elementCount, draftKind, draftValue, weights, tokenAt, fragmentBegin, fragmentFirst, fragmentLast, fragmentEmpty, rw0, follow, bearing, accepting, kindOfType, leastOf, greatestOf, listedCount, listedValue, attributeUse, attributeType, typeOfName, inUse, nameOf, parentOf, kidCount, kids, hasValue, valueOf, hasAttribute, attributeValue, walked, waiting) (nI s) := by
  have hG' := hG
  obtain ⟨hW, hd, gF, gφ, gz, gb, gt⟩ := hG'
  have fl : ∀ q, bt (xa_fl (fun s => follow (31 * 6 + s)) (rw0 s) 31) q = true ↔ ∃ s', s' < 31 ∧ bt (rw0 s) s' = true ∧ bt (follow (186 + s')) q = true := fun q => xa_flI 31
  unfold wpX_spreadPairs
  dsimp only
  rw [show (186 : Int32) + nI s = nI (186 + s) from nI_add 186 s, nb_cl (n := 186 + s) (by omega), nb_cl (n := s) (by omega)]
  refine ⟨vp_in_nI (by omega) (by omega), nm_e ⟨vp_in_nI hs31 (by omega), ?_⟩⟩
  refine sx_followers (t := 6) (by omega) ⟨W + 1, ?_⟩
  refine sx_sp30 (rw0 := rw0) (d := d) (W := W) (kd := kd) (vl := vl) hk hG (fun p q h1 h2 hp hq hn => ?_) (fun r rw c1 c2 c3 c4 c5 => h r rw c1 c2 c3 (fun q => ⟨(c4 q).1, fun a b r1 r2 r3 r4 r5 => (c4 q).2 a b r1 r2 ((fl b).mpr r3) r4 r5⟩) c5) W 0 0 rw0 (by omega) (Or.inl rfl) hI0 (fun _ _ q => q) (fun _ => ⟨rfl, fun a q r => by omega⟩) (fun q => absurd q (by decide))
  obtain ⟨s', l1, l2, l3⟩ := (fl q).mp h2
  by_cases e : s = 30
  · rw [e, hI0.1, bb_30, decide_eq_true_iff] at l2
    rw [l2] at l3
    rw [e] at h1
    exact ⟨0, h1, l3, hn⟩
  · obtain ⟨k, hk'⟩ := hI0.2 s (by omega) s' l2
    exact ⟨k + 1, hn, s, s', hk', h1, l3⟩
theorem sx_rnd49 {post : SX → Prop} {J : Int32 → Int32 → Int32 → Int32 → Int32 → Int32 → Int32 → (Nat → Int32) → (Nat → Int32) → (Nat → Int32) → (Nat → Int32) → (Nat → Int32) → (Nat → Int32) → (Nat → Int32) → (Nat → Int32) → (Nat → Int32) → (Nat → Int32) → (Nat → Int32) → (Nat → Int32) → (Nat → Int32) → (Nat → Int32) → (Nat → Int32) → (Nat → Int32) → (Nat → Int32) → (Nat → Int32) → (Nat → Int32) → (Nat → Int32) → (Nat → Int32) → (Nat → Int32) → (Nat → Int32) → (Nat → Int32) → (Nat → Int32) → (Nat → Int32) → (Nat → Int32) → (Nat → Int32) → (Nat → Int32) → (Nat → Int32) → (Nat → Int32) → Prop} {d W rd : Nat} {kd vl : Nat → Nat} {rw0 : Nat → Int32} (hk : dr_K d draftKind draftValue kd vl) (hG : pr_G d W kd vl tokenAt follow bearing)
    (h : ∀ (g : Int32) (rw : Nat → Int32), pr_I follow tokenAt vl rw → (g = 0 ∨ g = 1) → (g = 0 → rw = rw0 ∧ ∀ s, s < 31 → pr_c W follow tokenAt vl rw0 s) → (g = 1 → pr_T rw0 < pr_T rw) → J g (nI (rd + 1)) drafted latestPlace (nI W) fragments elementCount draftKind draftValue weights tokenAt fragmentBegin fragmentFirst fragmentLast fragmentEmpty rw follow bearing accepting kindOfType leastOf greatestOf listedCount listedValue attributeUse attributeType typeOfName inUse nameOf parentOf kidCount kids hasValue valueOf hasAttribute attributeValue walked waiting) : ∀ (m s : Nat) (g : Int32) (rw : Nat → Int32), s + m = 31 → (g = 0 ∨ g = 1) → pr_I follow tokenAt vl rw → (∀ a q, bt (rw0 a) q = true → bt (rw a) q = true) → (g = 0 → rw = rw0 ∧ ∀ s', s' < s → pr_c W follow tokenAt vl rw0 s') → (g = 1 → pr_T rw0 < pr_T rw) → wX_pairStates_49 post J (nI rd) (m + 1) g (nI s) drafted latestPlace (nI W) fragments elementCount draftKind draftValue weights tokenAt fragmentBegin fragmentFirst fragmentLast fragmentEmpty rw follow bearing accepting kindOfType leastOf greatestOf listedCount listedValue attributeUse attributeType typeOfName inUse nameOf parentOf kidCount kids hasValue valueOf hasAttribute attributeValue walked waiting := by
  intro m
  induction m with
  | zero =>
    intro s g rw hs hg hI hm h0 h1
    obtain rfl : s = 31 := by omega
    exact br_t (by decide) (nm_r (nI_1 rd) (h g rw hI hg h0 h1))
  | succ m ih =>
    intro s g rw hs hg hI hm h0 h1
    refine br_f (nI_ge (b := 31) (by omega) (by omega)) ?_
    refine sx_spread (d := d) (W := W) (kd := kd) (vl := vl) hk hG hI (by omega) (fun r rw' c1 c2 c3 c4 c5 => ?_)
    have mono : ∀ a q, bt (rw0 a) q = true → bt (rw' a) q = true := fun a q hq => c2 a q (hm a q hq)
    have grow : r = 1 → pr_T rw < pr_T rw' := fun r1 => by
      obtain ⟨a, q, l1, l2, l3, l4⟩ := c5 r1
      exact pr_T_lt c2 l1 l2 l3 l4
    have le : pr_T rw ≤ pr_T rw' := cb_mono 961 (fun i _ hi => c2 _ _ hi)
    have lt0 : pr_T rw0 ≤ pr_T rw := cb_mono 961 (fun i _ hi => hm _ _ hi)
    rcases hg with g0 | g1
    · obtain ⟨er, ec⟩ := h0 g0
      refine br_t g0 ?_
      rcases c3 with r0 | r1
      · obtain ⟨e2, e3⟩ := c4 r0
        refine br_t r0 (nm_r (nI_1 s) (ih (s + 1) 0 rw' (by omega) (Or.inl rfl) c1 mono (fun _ => ⟨by rw [e2, er], fun s' hs' => ?_⟩) (fun q => absurd q (by decide))))
        by_cases e : s' = s
        · rw [e, ← er]; exact e3
        · exact ec s' (by omega)
      · have rn : ¬ r = 0 := by rw [r1]; decide
        exact br_f rn (nm_r (nI_1 s) (ih (s + 1) 1 rw' (by omega) (Or.inr rfl) c1 mono (fun q => absurd q (by decide)) (fun _ => by have := grow r1; omega)))
    · have gn : ¬ g = 0 := by rw [g1]; decide
      exact br_f gn (nm_r (nI_1 s) (ih (s + 1) 1 rw' (by omega) (Or.inr rfl) c1 mono (fun q => absurd q (by decide)) (fun _ => by have := h1 g1; omega)))
theorem sx_out34 {post : SX → Prop} {d W : Nat} {kd vl : Nat → Nat} (hk : dr_K d draftKind draftValue kd vl) (hG : pr_G d W kd vl tokenAt follow bearing) (h : ∀ rw : Nat → Int32, pr_I follow tokenAt vl rw → (∀ s, s < 31 → pr_c W follow tokenAt vl rw s) → post (drafted, latestPlace, nI W, fragments, elementCount, draftKind, draftValue, weights, tokenAt, fragmentBegin, fragmentFirst, fragmentLast, fragmentEmpty, rw, follow, bearing, accepting, kindOfType, leastOf, greatestOf, listedCount, listedValue, attributeUse, attributeType, typeOfName, inUse, nameOf, parentOf, kidCount, kids, hasValue, valueOf, hasAttribute, attributeValue, walked, waiting)) : ∀ (m rd : Nat) (rw : Nat → Int32), rd + m = 962 → pr_I follow tokenAt vl rw → rd ≤ pr_T rw → wX_pairStates_34 post (m + 1) 1 (nI rd) drafted latestPlace (nI W) fragments elementCount draftKind draftValue weights tokenAt fragmentBegin fragmentFirst fragmentLast fragmentEmpty rw follow bearing accepting kindOfType leastOf greatestOf listedCount listedValue attributeUse attributeType typeOfName inUse nameOf parentOf kidCount kids hasValue valueOf hasAttribute attributeValue walked waiting := by
  intro m
  induction m with
  | zero =>
    intro rd rw hrd hI hT
    have := pr_T_le rw
    omega
  | succ m ih =>
    intro rd rw hrd hI hT
    refine br_f nb_10 (br_f (nI_ge (b := 962) (by omega) (by omega)) ⟨32, ?_⟩)
    refine sx_rnd49 (rw0 := rw) (rd := rd) (d := d) (W := W) (kd := kd) (vl := vl) hk hG (fun g rw' c1 c2 c3 c4 => ?_) 31 0 0 rw (by omega) (Or.inl rfl) hI (fun _ _ q => q) (fun _ => ⟨rfl, fun s' hs' => by omega⟩) (fun q => absurd q (by decide))
    rcases c2 with g0 | g1
    · obtain ⟨e1, e2⟩ := c3 g0
      rw [g0, e1]
      exact br_t rfl (h rw hI e2)
    · rw [g1]
      exact ih (rd + 1) rw' (by omega) c1 (by have := c4 g1; omega)
theorem sx_ps2 {post : SX → Prop} {d W : Nat} {kd vl : Nat → Nat} (hk : dr_K d draftKind draftValue kd vl) (hG : pr_G d W kd vl tokenAt follow bearing) (h : ∀ rw : Nat → Int32, pr_I follow tokenAt vl rw → (∀ s, s < 31 → pr_c W follow tokenAt vl rw s) → post (drafted, latestPlace, nI W, fragments, elementCount, draftKind, draftValue, weights, tokenAt, fragmentBegin, fragmentFirst, fragmentLast, fragmentEmpty, rw, follow, bearing, accepting, kindOfType, leastOf, greatestOf, listedCount, listedValue, attributeUse, attributeType, typeOfName, inUse, nameOf, parentOf, kidCount, kids, hasValue, valueOf, hasAttribute, attributeValue, walked, waiting)) : ∀ (m i : Nat) (rw : Nat → Int32), i + m = 31 → (∀ j, j < i → rw j = 0) → wX_pairStates_2 post drafted latestPlace (nI W) fragments elementCount (m + 1) (nI i) draftKind draftValue weights tokenAt fragmentBegin fragmentFirst fragmentLast fragmentEmpty rw follow bearing accepting kindOfType leastOf greatestOf listedCount listedValue attributeUse attributeType typeOfName inUse nameOf parentOf kidCount kids hasValue valueOf hasAttribute attributeValue walked waiting := by
  intro m
  induction m with
  | zero =>
    intro i rw hi hz
    obtain rfl : i = 31 := by omega
    refine br_t (by decide) (nm_e ⟨963, sx_out34 hk hG h 962 0 _ (by omega) ⟨pk_us, fun p hp q hq => ?_⟩ (Nat.zero_le _)⟩)
    rw [pk_un (by omega), hz p (by omega), b_0] at hq
    cases hq
  | succ m ih =>
    intro i rw hi hz
    refine br_f (nI_ge (b := 31) (by omega) (by omega)) ⟨vp_in_nI (by omega) (by omega), nm_r (e' := upd rw i 0) (by rw [nb_cl (by omega)]) (nm_r (nI_1 i) (ih (i + 1) _ (by omega) (fun j hj => ?_)))⟩
    by_cases q : j = i
    · rw [q, pk_us]
    · rw [pk_un q]; exact hz j (by omega)
/-- reachedWith holds just the pairs -/
theorem sx_pairStates {post : SX → Prop} {d W : Nat} {kd vl : Nat → Nat} (hk : dr_K d draftKind draftValue kd vl) (hG : pr_G d W kd vl tokenAt follow bearing) (h : ∀ rw : Nat → Int32, (∀ p q, p < W → (bt (rw p) q = true ↔ pr_P follow tokenAt vl p q)) → post (drafted, latestPlace, nI W, fragments, elementCount, draftKind, draftValue, weights, tokenAt, fragmentBegin, fragmentFirst, fragmentLast, fragmentEmpty, rw, follow, bearing, accepting, kindOfType, leastOf, greatestOf, listedCount, listedValue, attributeUse, attributeType, typeOfName, inUse, nameOf, parentOf, kidCount, kids, hasValue, valueOf, hasAttribute, attributeValue, walked, waiting)) : wpX_pairStates post (drafted, latestPlace, nI W, fragments, elementCount, draftKind, draftValue, weights, tokenAt, fragmentBegin, fragmentFirst, fragmentLast, fragmentEmpty, reachedWith, follow, bearing, accepting, kindOfType, leastOf, greatestOf, listedCount, listedValue, attributeUse, attributeType, typeOfName, inUse, nameOf, parentOf, kidCount, kids, hasValue, valueOf, hasAttribute, attributeValue, walked, waiting) := by
  refine ⟨32, sx_ps2 hk hG (fun rw hI hc => h rw (fun p q hp => ⟨fun hq => hI.2 p (by have := hG.1; omega) q hq, fun hq => ?_⟩)) 31 0 reachedWith (by omega) (fun j hj => by omega)⟩
  obtain ⟨hW, hd, gF, gφ, gz, gb, gt⟩ := hG
  obtain ⟨k, hk'⟩ := hq
  have key : ∀ k p q, gl_P (pr_f follow) (pr_F follow) (pr_n tokenAt vl) k p q → p < W ∧ q < W ∧ bt (rw p) q = true := by
    intro k
    induction k with
    | zero =>
      rintro p q ⟨c1, c2, c3⟩
      have l1 := gF p c1
      have l2 := gF q c2
      exact ⟨l1, l2, hc 30 (by omega) p q l1 c1 ⟨30, by omega, by rw [hI.1, bb_30, decide_eq_true_iff], c2⟩ l2 c3.symm⟩
    | succ k ih =>
      rintro p q ⟨c3, p', q', c0, c1, c2⟩
      obtain ⟨l1, l2, l3⟩ := ih p' q' c0
      have m1 := gφ p' p l1 c1
      have m2 := gφ q' q l2 c2
      exact ⟨m1, m2, hc p' (by omega) p q m1 c1 ⟨q', by omega, l3, c2⟩ m2 c3.symm⟩
  exact (key k p q hk').2.2
/-- x: the least of the tokens of which D holds -/
def ld_S (D : Nat → Prop) (x : Int32) : Prop := (x = -1 ∧ ∀ t, ¬ D t) ∨ (∃ t, t < 16 ∧ x = nI t ∧ D t ∧ ∀ t', D t' → t ≤ t')
theorem sx_ld14 {post : Int32 → Prop} {J : Int32 → Int32 → Prop} {d W p : Nat} {kd vl : Nat → Nat} {D : Nat → Prop} (hG : pr_G d W kd vl tokenAt follow bearing) (hp : p < W)
    (h : ∀ x : Int32, ld_S (fun t => D t ∨ (t = (tokenAt p).toNatClampNeg ∧ ∃ q, q < W ∧ bt (reachedWith p) q = true ∧ (tokenAt p).toNatClampNeg ≠ (tokenAt q).toNatClampNeg)) x → J x (nI (p + 1))) : ∀ (m q : Nat) (x : Int32), q + m = W → ld_S (fun t => D t ∨ (t = (tokenAt p).toNatClampNeg ∧ ∃ q', q' < q ∧ bt (reachedWith p) q' = true ∧ (tokenAt p).toNatClampNeg ≠ (tokenAt q').toNatClampNeg)) x → wX_leastDoubtfulToken_14 post J (nI p) drafted latestPlace (nI W) fragments elementCount draftKind draftValue weights tokenAt fragmentBegin fragmentFirst fragmentLast fragmentEmpty reachedWith follow bearing accepting kindOfType leastOf greatestOf listedCount listedValue attributeUse attributeType typeOfName inUse nameOf parentOf kidCount kids hasValue valueOf hasAttribute attributeValue walked waiting (m + 1) x (nI q) := by
  obtain ⟨hW, hd, gF, gφ, gz, gb, gt⟩ := hG
  obtain ⟨i, ti, hi, ki⟩ := gt p hp
  have cp : (tokenAt p).toNatClampNeg = i := by rw [ti, nb_cl (by omega)]
  intro m
  induction m with
  | zero =>
    intro q x hq hx
    obtain rfl : q = W := by omega
    exact br_t (nI_le (Nat.le_refl _) (by omega)) (nm_r (nI_1 p) (h x hx))
  | succ m ih =>
    intro q x hq hx
    obtain ⟨j, tj, hj, kj⟩ := gt q (by omega)
    have cq : (tokenAt q).toNatClampNeg = j := by rw [tj, nb_cl (by omega)]
    have vp : vp_in (nI p) 30 := vp_in_nI (by omega) (by omega)
    have skip : ¬ (bt (reachedWith p) q = true ∧ i ≠ j) → wX_leastDoubtfulToken_54 post J (wX_leastDoubtfulToken_14 post J (nI p) drafted latestPlace (nI W) fragments elementCount draftKind draftValue weights tokenAt fragmentBegin fragmentFirst fragmentLast fragmentEmpty reachedWith follow bearing accepting kindOfType leastOf greatestOf listedCount listedValue attributeUse attributeType typeOfName inUse nameOf parentOf kidCount kids hasValue valueOf hasAttribute attributeValue walked waiting (m + 1)) x (nI p) (nI q) drafted latestPlace (nI W) fragments elementCount draftKind draftValue weights tokenAt fragmentBegin fragmentFirst fragmentLast fragmentEmpty reachedWith follow bearing accepting kindOfType leastOf greatestOf listedCount listedValue attributeUse attributeType typeOfName inUse nameOf parentOf kidCount kids hasValue valueOf hasAttribute attributeValue walked waiting := by
      intro hn
      refine br_t rfl (nm_r (nI_1 q) (ih (q + 1) x (by omega) ?_))
      have eq : ∀ t, (D t ∨ (t = (tokenAt p).toNatClampNeg ∧ ∃ q', q' < q + 1 ∧ bt (reachedWith p) q' = true ∧ (tokenAt p).toNatClampNeg ≠ (tokenAt q').toNatClampNeg)) ↔ (D t ∨ (t = (tokenAt p).toNatClampNeg ∧ ∃ q', q' < q ∧ bt (reachedWith p) q' = true ∧ (tokenAt p).toNatClampNeg ≠ (tokenAt q').toNatClampNeg)) := by
        intro t
        constructor
        · rintro (r | ⟨r, q', r1, r2, r3⟩)
          · exact Or.inl r
          · refine Or.inr ⟨r, q', ?_, r2, r3⟩
            by_cases e : q' = q
            · exfalso
              rw [e] at r2 r3
              rw [cp, cq] at r3
              exact hn ⟨r2, r3⟩
            · omega
        · rintro (r | ⟨r, q', r1, r2, r3⟩)
          · exact Or.inl r
          · exact Or.inr ⟨r, q', by omega, r2, r3⟩
      rcases hx with ⟨e, r⟩ | ⟨t, t16, e, r1, r2⟩
      · exact Or.inl ⟨e, fun t r' => r t ((eq t).mp r')⟩
      · exact Or.inr ⟨t, t16, e, (eq t).mpr r1, fun t' r' => r2 t' ((eq t').mp r')⟩
    refine br_f (nI_ge (by omega) (by omega)) ⟨vp_in_nI (by omega) (by omega), ?_⟩
    rw [nb_cl (n := p) (by omega), nb_cl (n := q) (by omega)]
    cases hb : bt (reachedWith p) q with
    | false => exact br_t ((bb_t _ (by omega)).mpr hb) (skip (fun r => by rw [hb] at r; exact absurd r.1 Bool.false_ne_true))
    | true =>
      refine br_f ((bb_t' _ (by omega)).mpr hb) ⟨vp, vp_in_nI (by omega) (by omega), ?_⟩
      rw [ti, tj]
      refine pk_eq i j (fun e => skip (fun r => r.2 e)) (fun e => ?_)
      -- a doubt
      refine br_f nb_10 ?_
      have pos : ∀ t, (D t ∨ (t = (tokenAt p).toNatClampNeg ∧ ∃ q', q' < q ∧ bt (reachedWith p) q' = true ∧ (tokenAt p).toNatClampNeg ≠ (tokenAt q').toNatClampNeg)) → (D t ∨ (t = (tokenAt p).toNatClampNeg ∧ ∃ q', q' < q + 1 ∧ bt (reachedWith p) q' = true ∧ (tokenAt p).toNatClampNeg ≠ (tokenAt q').toNatClampNeg)) := by
        rintro t (r | ⟨r, q', r1, r2, r3⟩)
        · exact Or.inl r
        · exact Or.inr ⟨r, q', by omega, r2, r3⟩
      have neg : ∀ t, (D t ∨ (t = (tokenAt p).toNatClampNeg ∧ ∃ q', q' < q + 1 ∧ bt (reachedWith p) q' = true ∧ (tokenAt p).toNatClampNeg ≠ (tokenAt q').toNatClampNeg)) → (D t ∨ (t = (tokenAt p).toNatClampNeg ∧ ∃ q', q' < q ∧ bt (reachedWith p) q' = true ∧ (tokenAt p).toNatClampNeg ≠ (tokenAt q').toNatClampNeg)) ∨ t = i := by
        rintro t (r | ⟨r, q', r1, r2, r3⟩)
        · exact Or.inl (Or.inl r)
        · exact Or.inr (by rw [r, cp])
      have me : D i ∨ (i = (tokenAt p).toNatClampNeg ∧ ∃ q', q' < q + 1 ∧ bt (reachedWith p) q' = true ∧ (tokenAt p).toNatClampNeg ≠ (tokenAt q').toNatClampNeg) := Or.inr ⟨cp.symm, q, by omega, hb, by rw [cp, cq]; exact e⟩
      rcases hx with ⟨e1, r⟩ | ⟨t, t16, e1, r1, r2⟩
      · refine br_t e1 ⟨vp, nm_r (e' := nI i) (by rw [nb_cl (by omega), ti]) (nm_r (nI_1 q) (ih (q + 1) (nI i) (by omega) (Or.inr ⟨i, by omega, rfl, me, fun t' r' => ?_⟩)))⟩
        rcases neg t' r' with r' | r'
        · exact absurd r' (r t')
        · omega
      · rw [e1]
        refine br_f (nb_nm (by omega)) ⟨vp, ?_⟩
        rw [nb_cl (n := p) (by omega), ti]
        refine pk_le t i (fun hle => nm_r (nI_1 q) (ih (q + 1) (nI t) (by omega) (Or.inr ⟨t, t16, rfl, pos t r1, fun t' r' => ?_⟩))) (fun hlt => ⟨vp, nm_e (nm_r (nI_1 q) (ih (q + 1) (nI i) (by omega) (Or.inr ⟨i, by omega, rfl, me, fun t' r' => ?_⟩)))⟩)
        · rcases neg t' r' with r' | r'
          · exact r2 t' r'
          · omega
        · rcases neg t' r' with r' | r'
          · have := r2 t' r'; omega
          · omega
theorem sx_ld4 {post : Int32 → Prop} {d W : Nat} {kd vl : Nat → Nat} (hG : pr_G d W kd vl tokenAt follow bearing) (h : ∀ x : Int32, ld_S (fun t => ∃ p q, p < W ∧ q < W ∧ t = (tokenAt p).toNatClampNeg ∧ bt (reachedWith p) q = true ∧ (tokenAt p).toNatClampNeg ≠ (tokenAt q).toNatClampNeg) x → post x) : ∀ (m p : Nat) (x : Int32), p + m = W → ld_S (fun t => ∃ p' q, p' < p ∧ q < W ∧ t = (tokenAt p').toNatClampNeg ∧ bt (reachedWith p') q = true ∧ (tokenAt p').toNatClampNeg ≠ (tokenAt q).toNatClampNeg) x → wX_leastDoubtfulToken_4 post drafted latestPlace (nI W) fragments elementCount draftKind draftValue weights tokenAt fragmentBegin fragmentFirst fragmentLast fragmentEmpty reachedWith follow bearing accepting kindOfType leastOf greatestOf listedCount listedValue attributeUse attributeType typeOfName inUse nameOf parentOf kidCount kids hasValue valueOf hasAttribute attributeValue walked waiting (m + 1) x (nI p) := by
  have hW := hG.1
  have cg : ∀ (D E : Nat → Prop) (x : Int32), (∀ t, D t ↔ E t) → ld_S D x → ld_S E x := by
    rintro D E x hDE (⟨e, r⟩ | ⟨t, t16, e, r1, r2⟩)
    · exact Or.inl ⟨e, fun t r' => r t ((hDE t).mpr r')⟩
    · exact Or.inr ⟨t, t16, e, (hDE t).mp r1, fun t' r' => r2 t' ((hDE t').mpr r')⟩
  intro m
  induction m with
  | zero =>
    intro p x hp hx
    obtain rfl : p = W := by omega
    exact br_t (nI_le (Nat.le_refl _) (by omega)) (h x hx)
  | succ m ih =>
    intro p x hp hx
    refine br_f (nI_ge (by omega) (by omega)) ⟨W + 1, ?_⟩
    refine sx_ld14 (d := d) (W := W) (kd := kd) (vl := vl) (D := fun t => ∃ p' q, p' < p ∧ q < W ∧ t = (tokenAt p').toNatClampNeg ∧ bt (reachedWith p') q = true ∧ (tokenAt p').toNatClampNeg ≠ (tokenAt q).toNatClampNeg) hG (by omega) (fun x' hx' => ih (p + 1) x' (by omega) (cg _ _ x' (fun t => ?_) hx')) W 0 x (by omega) (cg _ _ x (fun t => ?_) hx)
    · constructor
      · rintro (⟨p', q, r1, r2⟩ | ⟨r, q, r2, r3, r4⟩)
        · exact ⟨p', q, by omega, r2⟩
        · exact ⟨p, q, by omega, r2, r, r3, r4⟩
      · rintro ⟨p', q, r1, r2, r3, r4, r5⟩
        by_cases e : p' = p
        · rw [e] at r3 r4 r5; exact Or.inr ⟨r3, q, r2, r4, r5⟩
        · exact Or.inl ⟨p', q, by omega, r2, r3, r4, r5⟩
    · constructor
      · exact Or.inl
      · rintro (r | ⟨_, q', r, _⟩)
        · exact r
        · omega
theorem sx_least {post : Int32 → Prop} {d W : Nat} {kd vl : Nat → Nat} (hG : pr_G d W kd vl tokenAt follow bearing) (hr : ∀ p q, p < W → (bt (reachedWith p) q = true ↔ pr_P follow tokenAt vl p q)) (h : ∀ x : Int32, cf_best (fun a b => ∃ p q, pr_P follow tokenAt vl p q ∧ (tokenAt p).toNatClampNeg = a ∧ (tokenAt q).toNatClampNeg = b) x → post x) : wpX_leastDoubtfulToken post (drafted, latestPlace, nI W, fragments, elementCount, draftKind, draftValue, weights, tokenAt, fragmentBegin, fragmentFirst, fragmentLast, fragmentEmpty, reachedWith, follow, bearing, accepting, kindOfType, leastOf, greatestOf, listedCount, listedValue, attributeUse, attributeType, typeOfName, inUse, nameOf, parentOf, kidCount, kids, hasValue, valueOf, hasAttribute, attributeValue, walked, waiting) := by
  have hG' := hG
  obtain ⟨hW, hd, gF, gφ, gz, gb, gt⟩ := hG'
  have lt : ∀ p q, pr_P follow tokenAt vl p q → p < W ∧ q < W := by
    rintro p q ⟨k, hk⟩
    obtain ⟨a, b, _⟩ := gl_P_D (D := fun p => p < W) gF gφ k p q hk
    exact ⟨a, b⟩
  refine ⟨W + 1, sx_ld4 hG (fun x hx => h x ?_) W 0 (-1) (by omega) (Or.inl ⟨rfl, fun t ⟨p', q, r, _⟩ => by omega⟩)⟩
  rcases hx with ⟨e, r⟩ | ⟨t, t16, e, ⟨p, q, r1, r2, r3, r4, r5⟩, r6⟩
  · refine Or.inl ⟨e, fun a b hab ⟨p, q, hP, ea, eb⟩ => r a ⟨p, q, (lt p q hP).1, (lt p q hP).2, ea.symm, (hr p q (lt p q hP).1).mpr hP, by rw [ea, eb]; exact hab⟩⟩
  · refine Or.inr ⟨t, t16, e, ⟨(tokenAt q).toNatClampNeg, by rw [r3]; exact fun q2 => r5 q2.symm, p, q, (hr p q r1).mp r4, r3.symm, rfl⟩, fun a b hab ⟨p, q, hP, ea, eb⟩ => r6 a ⟨p, q, (lt p q hP).1, (lt p q hP).2, ea.symm, (hr p q (lt p q hP).1).mpr hP, by rw [ea, eb]; exact hab⟩⟩
end
end
section
/-! ===== the reference writes the model out ===== -/
/-- the tokens written from b on spell the tree -/
def ou_S (ok ow : Nat → Int32) : ex_T → Nat → Prop
  | .var i => fun b => ok b = nI 0 ∧ ow b = nI i
  | .num _ => fun b => ok b = nI 6
  | .natCast _ => fun _ => False
  | .intCast _ => fun _ => False
  | .neg a => fun b => ok b = nI 3 ∧ ou_S ok ow a (b + 1)
  | .add x y => fun b => ok b = nI 2 ∧ ou_S ok ow x (b + 1) ∧ ou_S ok ow y (b + 1 + ex_n x)
  | .mul x y => fun b => ok b = nI 1 ∧ ou_S ok ow x (b + 1) ∧ ou_S ok ow y (b + 1 + ex_n x)
  | .sub _ _ => fun _ => False
  | .pow a k => fun b => ((k = 16 ∧ ok b = nI 4) ∨ (k = 17 ∧ ok b = nI 5)) ∧ ou_S ok ow a (b + 1)
theorem ou_cg {ok ow ok' ow' : Nat → Int32} : ∀ (R : ex_T) (b : Nat), (∀ j, b ≤ j → j < b + ex_n R → ok' j = ok j ∧ ow' j = ow j) → ou_S ok ow R b → ou_S ok' ow' R b := by
  intro R
  induction R with
  | var i => intro b h hS; obtain ⟨q1, q2⟩ := h b (Nat.le_refl _) (by simp only [ex_n]; omega); exact ⟨q1.trans hS.1, q2.trans hS.2⟩
  | num i => intro b h hS; exact (h b (Nat.le_refl _) (by simp only [ex_n]; omega)).1.trans hS
  | natCast i => intro b h hS; exact hS.elim
  | intCast i => intro b h hS; exact hS.elim
  | neg x ih => intro b h hS; simp only [ex_n] at h; exact ⟨(h b (Nat.le_refl _) (by omega)).1.trans hS.1, ih _ (fun j j1 j2 => h j (by omega) (by omega)) hS.2⟩
  | add x y ihx ihy => intro b h hS; simp only [ex_n] at h; exact ⟨(h b (Nat.le_refl _) (by omega)).1.trans hS.1, ihx _ (fun j j1 j2 => h j (by omega) (by omega)) hS.2.1, ihy _ (fun j j1 j2 => h j (by omega) (by omega)) hS.2.2⟩
  | mul x y ihx ihy => intro b h hS; simp only [ex_n] at h; exact ⟨(h b (Nat.le_refl _) (by omega)).1.trans hS.1, ihx _ (fun j j1 j2 => h j (by omega) (by omega)) hS.2.1, ihy _ (fun j j1 j2 => h j (by omega) (by omega)) hS.2.2⟩
  | sub x y ihx ihy => intro b h hS; exact hS.elim
  | pow x k ih =>
    intro b h hS
    simp only [ex_n] at h
    refine ⟨?_, ih _ (fun j j1 j2 => h j (by omega) (by omega)) hS.2⟩
    have q := (h b (Nat.le_refl _) (by omega)).1
    rcases hS.1 with ⟨q1, q2⟩ | ⟨q1, q2⟩
    · exact Or.inl ⟨q1, q.trans q2⟩
    · exact Or.inr ⟨q1, q.trans q2⟩
/-- how many rounds a tree takes -/
def wo_t (w : Nat) : Nat → Nat → Nat
  | 0, _ => 0
  | 1, lo => (if lo = 0 then 1 else 0) + w
  | h + 2, lo => (if lo = 0 then 1 else 0) + (1 + w + wo_t w (h + 1) (lo - 1))
def wo_i : ex_T → Nat
  | .var _ => 1
  | .num _ => 1
  | .natCast _ => 1
  | .intCast _ => 1
  | .neg a => if ex_w a = 0 then 1 else 1 + wo_i a
  | .add a b => if ex_w a + ex_w b = 0 then 1 else 1 + (wo_i a + wo_i b)
  | .mul a b => if ex_w a + ex_w b = 0 then 1 else 1 + (wo_i a + wo_i b)
  | .sub a b => if 2 * (ex_w a + ex_w b) = 0 then 1 else 1 + (1 + (wo_i a + (wo_i b + (1 + (wo_i b + wo_i a)))))
  | .pow a k => if ex_m k * ex_w a = 0 then 1 else if k < 16 then 1 + wo_t (wo_i a) (k % 4) (k / 4) else 1 + wo_i a
/-- the entries that wait, the next one first -/
def ws_R (wo ww : Nat → Int32) : List (Nat × Nat) → Prop
  | [] => True
  | x :: l => wo l.length = nI x.1 ∧ ww l.length = nI x.2 ∧ ws_R wo ww l
theorem ws_upd {wo ww : Nat → Int32} {j : Nat} {v1 v2 : Int32} : ∀ l : List (Nat × Nat), l.length ≤ j → ws_R wo ww l → ws_R (upd wo j v1) (upd ww j v2) l := by
  intro l
  induction l with
  | nil => intro _ _; exact trivial
  | cons x l ih =>
    intro h hw
    rw [List.length_cons] at h
    exact ⟨by rw [pk_un (by omega)]; exact hw.1, by rw [pk_un (by omega)]; exact hw.2.1, ih (by omega) hw.2.2⟩
theorem ws_push {wo ww : Nat → Int32} {k v : Nat} {l : List (Nat × Nat)} (h : ws_R wo ww l) : ws_R (upd wo l.length (nI k)) (upd ww l.length (nI v)) ((k, v) :: l) := ⟨pk_us, pk_us, ws_upd l (Nat.le_refl _) h⟩
section
variable {yplace yroot yrowLength yfirst youts ytop : Int32} {ykind ywith ysize ysort ymany yuse ytypeOf yleast ygreatest ylisted ytypeOfName yused yvalued ygiven yname yparent ychildren ycount yrow yvalue yattributes yends ylack yshortest youtKind youtWith ywork yworkWith yweight yfollow yfirsts ylasts ybare ymet ynameAt ytokenAt ytodo : Nat → Int32}
theorem sy_later {post : SY → Prop} {k v T : Nat} (hT : T < 2000) (hk : k < 128) (hv : v < 128) (h : post (yplace, yroot, yrowLength, yfirst, youts, nI (T + 1), ykind, ywith, ysize, ysort, ymany, yuse, ytypeOf, yleast, ygreatest, ylisted, ytypeOfName, yused, yvalued, ygiven, yname, yparent, ychildren, ycount, yrow, yvalue, yattributes, yends, ylack, yshortest, youtKind, youtWith, upd ywork T (nI k), upd yworkWith T (nI v), yweight, yfollow, yfirsts, ylasts, ybare, ymet, ynameAt, ytokenAt, ytodo)) : wpY_later post (yplace, yroot, yrowLength, yfirst, youts, nI T, ykind, ywith, ysize, ysort, ymany, yuse, ytypeOf, yleast, ygreatest, ylisted, ytypeOfName, yused, yvalued, ygiven, yname, yparent, ychildren, ycount, yrow, yvalue, yattributes, yends, ylack, yshortest, youtKind, youtWith, ywork, yworkWith, yweight, yfollow, yfirsts, ylasts, ybare, ymet, ynameAt, ytokenAt, ytodo) (nI k) (nI v) := by
  have vT : vp_in (nI T) 2000 := vp_in_nI hT (by omega)
  have cT : (nI T).toNatClampNeg = T := nb_cl (by omega)
  exact ⟨vT, nm_r (e' := upd ywork T (nI k)) (by rw [cT, nb_v8 hk]) (nm_r (nI_1 T) ⟨vT, nm_r (e' := upd yworkWith T (nI v)) (by rw [cT, nb_v8 hv]) h⟩)⟩
theorem sy_emit {post : SY → Prop} {k v o : Nat} (ho : o < 8000) (hk : k < 128) (hv : v < 128) (h : post (yplace, yroot, yrowLength, yfirst, nI (o + 1), ytop, ykind, ywith, ysize, ysort, ymany, yuse, ytypeOf, yleast, ygreatest, ylisted, ytypeOfName, yused, yvalued, ygiven, yname, yparent, ychildren, ycount, yrow, yvalue, yattributes, yends, ylack, yshortest, upd youtKind o (nI k), upd youtWith o (nI v), ywork, yworkWith, yweight, yfollow, yfirsts, ylasts, ybare, ymet, ynameAt, ytokenAt, ytodo)) : wpY_emit post (yplace, yroot, yrowLength, yfirst, nI o, ytop, ykind, ywith, ysize, ysort, ymany, yuse, ytypeOf, yleast, ygreatest, ylisted, ytypeOfName, yused, yvalued, ygiven, yname, yparent, ychildren, ycount, yrow, yvalue, yattributes, yends, ylack, yshortest, youtKind, youtWith, ywork, yworkWith, yweight, yfollow, yfirsts, ylasts, ybare, ymet, ynameAt, ytokenAt, ytodo) (nI k) (nI v) := by
  have vT : vp_in (nI o) 8000 := vp_in_nI ho (by omega)
  have cT : (nI o).toNatClampNeg = o := nb_cl (by omega)
  exact ⟨vT, nm_r (e' := upd youtKind o (nI k)) (by rw [cT, nb_v8 hk]) (nm_r (nI_1 o) ⟨vT, nm_r (e' := upd youtWith o (nI v)) (by rw [cT, nb_v8 hv]) h⟩)⟩
/-- an operator comes off the pile -/
theorem sy_popO {post : SY → Prop} {x1 : Int32} {k fu o : Nat} {st : List (Nat × Nat)} {wo ww ok ow : Nat → Int32} (hk : k < 20) (hl : st.length < 1999) (ho : o < 8000) (hw : ws_R wo ww ((k, 0) :: st)) (h : wY_writeOut_17 post x1 fu yplace yroot yrowLength yfirst (nI (o + 1)) (nI st.length) ykind ywith ysize ysort ymany yuse ytypeOf yleast ygreatest ylisted ytypeOfName yused yvalued ygiven yname yparent ychildren ycount yrow yvalue yattributes yends ylack yshortest (upd ok o (nI k)) (upd ow o (nI 0)) wo ww yweight yfollow yfirsts ylasts ybare ymet ynameAt ytokenAt ytodo) : wY_writeOut_17 post x1 (fu + 1) yplace yroot yrowLength yfirst (nI o) (nI (st.length + 1)) ykind ywith ysize ysort ymany yuse ytypeOf yleast ygreatest ylisted ytypeOfName yused yvalued ygiven yname yparent ychildren ycount yrow yvalue yattributes yends ylack yshortest ok ow wo ww yweight yfollow yfirsts ylasts ybare ymet ynameAt ytokenAt ytodo := by
  obtain ⟨w1, w2, w3⟩ := hw
  have vT : vp_in (nI st.length) 2000 := vp_in_nI (by omega) (by omega)
  refine br_f (by rw [nb_le0 (by omega)]; omega) (nm_r (e' := nI st.length) (nb_s1 (by omega)) ?_)
  rw [nb_cl (n := st.length) (by omega), w1, w2]
  exact ⟨vT, nm_e ⟨vT, br_f (nI_ge (b := 20) hk (by omega)) ⟨vT, sy_emit ho (by omega) (by omega) h⟩⟩⟩
/-- an expression comes off the pile -/
theorem sy_popX {post : SY → Prop} {x1 : Int32} {b fu o W : Nat} {st : List (Nat × Nat)} {wo ww ok ow : Nat → Int32} (hb : b < 16) (hl : st.length < 1999) (hw : ws_R wo ww ((20, b) :: st)) (hW : yweight b = nI (wc_n W)) (h0 : W = 0 → wpY_emit (fun u => match u with | (yplace, yroot, yrowLength, yfirst, youts, ytop, ykind, ywith, ysize, ysort, ymany, yuse, ytypeOf, yleast, ygreatest, ylisted, ytypeOfName, yused, yvalued, ygiven, yname, yparent, ychildren, ycount, yrow, yvalue, yattributes, yends, ylack, yshortest, youtKind, youtWith, ywork, yworkWith, yweight, yfollow, yfirsts, ylasts, ybare, ymet, ynameAt, ytokenAt, ytodo) => wY_writeOut_17 post x1 fu yplace yroot yrowLength yfirst youts ytop ykind ywith ysize ysort ymany yuse ytypeOf yleast ygreatest ylisted ytypeOfName yused yvalued ygiven yname yparent ychildren ycount yrow yvalue yattributes yends ylack yshortest youtKind youtWith ywork yworkWith yweight yfollow yfirsts ylasts ybare ymet ynameAt ytokenAt ytodo) (yplace, yroot, yrowLength, yfirst, nI o, nI st.length, ykind, ywith, ysize, ysort, ymany, yuse, ytypeOf, yleast, ygreatest, ylisted, ytypeOfName, yused, yvalued, ygiven, yname, yparent, ychildren, ycount, yrow, yvalue, yattributes, yends, ylack, yshortest, ok, ow, wo, ww, yweight, yfollow, yfirsts, ylasts, ybare, ymet, ynameAt, ytokenAt, ytodo) (nI 6) (nI 0)) (h1 : W ≠ 0 → ((ykind (96 + b) = 8 → wpY_times (fun u => match u with | (yplace, yroot, yrowLength, yfirst, youts, ytop, ykind, ywith, ysize, ysort, ymany, yuse, ytypeOf, yleast, ygreatest, ylisted, ytypeOfName, yused, yvalued, ygiven, yname, yparent, ychildren, ycount, yrow, yvalue, yattributes, yends, ylack, yshortest, youtKind, youtWith, ywork, yworkWith, yweight, yfollow, yfirsts, ylasts, ybare, ymet, ynameAt, ytokenAt, ytodo) => wY_writeOut_17 post x1 fu yplace yroot yrowLength yfirst youts ytop ykind ywith ysize ysort ymany yuse ytypeOf yleast ygreatest ylisted ytypeOfName yused yvalued ygiven yname yparent ychildren ycount yrow yvalue yattributes yends ylack yshortest youtKind youtWith ywork yworkWith yweight yfollow yfirsts ylasts ybare ymet ynameAt ytokenAt ytodo) (yplace, yroot, yrowLength, yfirst, nI o, nI st.length, ykind, ywith, ysize, ysort, ymany, yuse, ytypeOf, yleast, ygreatest, ylisted, ytypeOfName, yused, yvalued, ygiven, yname, yparent, ychildren, ycount, yrow, yvalue, yattributes, yends, ylack, yshortest, ok, ow, wo, ww, yweight, yfollow, yfirsts, ylasts, ybare, ymet, ynameAt, ytokenAt, ytodo) (nI b)) ∧ (¬ ykind (96 + b) = 8 → wpY_part (fun u => match u with | (yplace, yroot, yrowLength, yfirst, youts, ytop, ykind, ywith, ysize, ysort, ymany, yuse, ytypeOf, yleast, ygreatest, ylisted, ytypeOfName, yused, yvalued, ygiven, yname, yparent, ychildren, ycount, yrow, yvalue, yattributes, yends, ylack, yshortest, youtKind, youtWith, ywork, yworkWith, yweight, yfollow, yfirsts, ylasts, ybare, ymet, ynameAt, ytokenAt, ytodo) => wY_writeOut_17 post x1 fu yplace yroot yrowLength yfirst youts ytop ykind ywith ysize ysort ymany yuse ytypeOf yleast ygreatest ylisted ytypeOfName yused yvalued ygiven yname yparent ychildren ycount yrow yvalue yattributes yends ylack yshortest youtKind youtWith ywork yworkWith yweight yfollow yfirsts ylasts ybare ymet ynameAt ytokenAt ytodo) (yplace, yroot, yrowLength, yfirst, nI o, nI st.length, ykind, ywith, ysize, ysort, ymany, yuse, ytypeOf, yleast, ygreatest, ylisted, ytypeOfName, yused, yvalued, ygiven, yname, yparent, ychildren, ycount, yrow, yvalue, yattributes, yends, ylack, yshortest, ok, ow, wo, ww, yweight, yfollow, yfirsts, ylasts, ybare, ymet, ynameAt, ytokenAt, ytodo) (nI b) x1))) : wY_writeOut_17 post x1 (fu + 1) yplace yroot yrowLength yfirst (nI o) (nI (st.length + 1)) ykind ywith ysize ysort ymany yuse ytypeOf yleast ygreatest ylisted ytypeOfName yused yvalued ygiven yname yparent ychildren ycount yrow yvalue yattributes yends ylack yshortest ok ow wo ww yweight yfollow yfirsts ylasts ybare ymet ynameAt ytokenAt ytodo := by
  obtain ⟨w1, w2, w3⟩ := hw
  have vT : vp_in (nI st.length) 2000 := vp_in_nI (by omega) (by omega)
  refine br_f (by rw [nb_le0 (by omega)]; omega) (nm_r (e' := nI st.length) (nb_s1 (by omega)) ?_)
  rw [nb_cl (n := st.length) (by omega), w1, w2]
  refine ⟨vT, nm_e ⟨vT, br_t (nI_le (a := 20) (Nat.le_refl _) (by omega)) ⟨vp_in_nI hb (by omega), ?_⟩⟩⟩
  have l := wc_le W
  rw [nb_cl (n := b) (by omega), hW]
  refine pk_eq (wc_n W) 0 (fun q => h0 ((wc_0 W).mp q)) (fun q => ⟨?_, ?_⟩)
  · rw [show (96 : Int32) + nI b = nI (96 + b) from nI_add 96 b]; exact vp_in_nI (by omega) (by omega)
  · rw [show (96 : Int32) + nI b = nI (96 + b) from nI_add 96 b, nb_cl (n := 96 + b) (by omega)]
    exact h1 (fun q2 => q ((wc_0 W).mpr q2))
end
end
section
/-! ===== the reference writes the model out: over the tree ===== -/
def wl_n (b : Nat) : Nat → Nat → List (Nat × Nat)
  | 0, _ => []
  | 1, lo => (if lo = 0 then [(3, 0)] else []) ++ [(20, b + 1)]
  | h + 2, lo => (if lo = 0 then [(3, 0)] else []) ++ (1, 0) :: (20, b + 1) :: wl_n b (h + 1) (lo - 1)
theorem wl_len (b : Nat) : ∀ h lo, (wl_n b h lo).length ≤ 3 * h := by
  intro h
  induction h with
  | zero => intro lo; exact Nat.le_refl 0
  | succ h ih =>
    intro lo
    cases h with
    | zero => unfold wl_n; split <;> simp
    | succ h =>
      have := ih (lo - 1)
      unfold wl_n
      split
      · simp only [List.length_append, List.length_cons, List.length_nil]; omega
      · simp only [List.length_append, List.length_cons, List.length_nil]; omega
section
variable {yplace yroot yrowLength yfirst youts ytop : Int32} {ykind ywith ysize ysort ymany yuse ytypeOf yleast ygreatest ylisted ytypeOfName yused yvalued ygiven yname yparent ychildren ycount yrow yvalue yattributes yends ylack yshortest youtKind youtWith ywork yworkWith yweight yfollow yfirsts ylasts ybare ymet ynameAt ytokenAt ytodo : Nat → Int32}
theorem sy_partV {post : SY → Prop} {b o : Nat} {x1 : Int32} (hb : b < 16) (ho : o < 8000) (hk : ykind (96 + b) = nI 0) (h : post (yplace, yroot, yrowLength, yfirst, nI (o + 1), ytop, ykind, ywith, ysize, ysort, ymany, yuse, ytypeOf, yleast, ygreatest, ylisted, ytypeOfName, yused, yvalued, ygiven, yname, yparent, ychildren, ycount, yrow, yvalue, yattributes, yends, ylack, yshortest, upd youtKind o (nI 0), upd youtWith o (nI b), ywork, yworkWith, yweight, yfollow, yfirsts, ylasts, ybare, ymet, ynameAt, ytokenAt, ytodo)) : wpY_part post (yplace, yroot, yrowLength, yfirst, nI o, ytop, ykind, ywith, ysize, ysort, ymany, yuse, ytypeOf, yleast, ygreatest, ylisted, ytypeOfName, yused, yvalued, ygiven, yname, yparent, ychildren, ycount, yrow, yvalue, yattributes, yends, ylack, yshortest, youtKind, youtWith, ywork, yworkWith, yweight, yfollow, yfirsts, ylasts, ybare, ymet, ynameAt, ytokenAt, ytodo) (nI b) x1 := by
  unfold wpY_part
  dsimp only
  rw [show (96 : Int32) + nI b = nI (96 + b) from nI_add 96 b, nb_cl (n := 96 + b) (by omega), hk]
  exact ⟨vp_in_nI (by omega) (by omega), nm_e (br_t rfl (sy_emit (k := 0) ho (by omega) (by omega) h))⟩
theorem sy_part1 {post : SY → Prop} {b o T kk : Nat} {x1 : Int32} (hb : b < 16) (ho : o < 8000) (hT : T < 2000) (hkk : kk = 3 ∨ kk = 4 ∨ kk = 5) (hk : ykind (96 + b) = nI kk) (h : post (yplace, yroot, yrowLength, yfirst, nI (o + 1), nI (T + 1), ykind, ywith, ysize, ysort, ymany, yuse, ytypeOf, yleast, ygreatest, ylisted, ytypeOfName, yused, yvalued, ygiven, yname, yparent, ychildren, ycount, yrow, yvalue, yattributes, yends, ylack, yshortest, upd youtKind o (nI kk), upd youtWith o (nI 0), upd ywork T (nI 20), upd yworkWith T (nI (b + 1)), yweight, yfollow, yfirsts, ylasts, ybare, ymet, ynameAt, ytokenAt, ytodo)) : wpY_part post (yplace, yroot, yrowLength, yfirst, nI o, nI T, ykind, ywith, ysize, ysort, ymany, yuse, ytypeOf, yleast, ygreatest, ylisted, ytypeOfName, yused, yvalued, ygiven, yname, yparent, ychildren, ycount, yrow, yvalue, yattributes, yends, ylack, yshortest, youtKind, youtWith, ywork, yworkWith, yweight, yfollow, yfirsts, ylasts, ybare, ymet, ynameAt, ytokenAt, ytodo) (nI b) x1 := by
  have k0 : ¬ nI kk = 0 := nI_ne0 (by omega) (by omega)
  have k7 : ¬ nI kk = 7 := fun e => absurd ((nI_eq (b := 7) (by omega) (by omega)).mp e) (by omega)
  have p1 : nI (ex_pt kk) ≤ 1 := by rcases hkk with rfl | rfl | rfl <;> decide
  unfold wpY_part
  dsimp only
  rw [show (96 : Int32) + nI b = nI (96 + b) from nI_add 96 b, nb_cl (n := 96 + b) (by omega), hk]
  refine ⟨vp_in_nI (by omega) (by omega), nm_e (br_f k0 (sy_parts (by omega) (br_t p1 (br_f k7 ?_))))⟩
  unfold wY_part_62
  refine sy_emit (v := 0) ho (by omega) (by omega) (br_f k7 ?_)
  unfold wY_part_95
  refine sy_parts (by omega) (br_t p1 ?_)
  unfold wY_part_111
  rw [nI_1]
  exact sy_later (k := 20) hT (by omega) (by omega) (br_f k7 h)
theorem sy_part2 {post : SY → Prop} {b o T kk d : Nat} {kd vl : Nat → Nat} {P : ex_T} (hd : d ≤ 16) (hK : rl_K ykind ywith 96 d kd vl) (hSP : ex_S kd vl P (b + 1)) (hbd : b + 1 + ex_n P < d) (ho : o < 8000) (hT : T < 1990) (hkk : kk = 1 ∨ kk = 2) (hk : ykind (96 + b) = nI kk) (h : post (yplace, yroot, yrowLength, yfirst, nI (o + 1), nI (T + 2), ykind, ywith, ysize, ysort, ymany, yuse, ytypeOf, yleast, ygreatest, ylisted, ytypeOfName, yused, yvalued, ygiven, yname, yparent, ychildren, ycount, yrow, yvalue, yattributes, yends, ylack, yshortest, upd youtKind o (nI kk), upd youtWith o (nI 0), upd (upd ywork T (nI 20)) (T + 1) (nI 20), upd (upd yworkWith T (nI (b + 1 + ex_n P))) (T + 1) (nI (b + 1)), yweight, yfollow, yfirsts, ylasts, ybare, ymet, ynameAt, ytokenAt, ytodo)) : wpY_part post (yplace, yroot, yrowLength, yfirst, nI o, nI T, ykind, ywith, ysize, ysort, ymany, yuse, ytypeOf, yleast, ygreatest, ylisted, ytypeOfName, yused, yvalued, ygiven, yname, yparent, ychildren, ycount, yrow, yvalue, yattributes, yends, ylack, yshortest, youtKind, youtWith, ywork, yworkWith, yweight, yfollow, yfirsts, ylasts, ybare, ymet, ynameAt, ytokenAt, ytodo) (nI b) (nI d) := by
  have k0 : ¬ nI kk = 0 := nI_ne0 (by omega) (by omega)
  have k7 : ¬ nI kk = 7 := fun e => absurd ((nI_eq (b := 7) (by omega) (by omega)).mp e) (by omega)
  have p1 : ¬ nI (ex_pt kk) ≤ 1 := by rcases hkk with rfl | rfl <;> decide
  unfold wpY_part
  dsimp only
  rw [show (96 : Int32) + nI b = nI (96 + b) from nI_add 96 b, nb_cl (n := 96 + b) (by omega), hk, show (97 : Int32) + nI b = nI (96 + (b + 1)) by rw [show 96 + (b + 1) = 97 + b by omega]; exact nI_add 97 b, show (96 : Int32) + nI d = nI (96 + d) from nI_add 96 d]
  refine ⟨vp_in_nI (by omega) (by omega), nm_e (br_f k0 (sy_parts (by omega) (br_f p1 ?_)))⟩
  refine sy_endOf (o := 96) (j := b + 1) (N := d) hK (by omega) (by omega) (by omega) hSP (by omega) ?_
  rw [show (96 : Int32) = nI 96 from rfl, pk_sub (by omega), show 96 + (b + 1 + ex_n P) - 96 = b + 1 + ex_n P by omega]
  refine br_f k7 ?_
  unfold wY_part_62
  refine sy_emit (v := 0) ho (by omega) (by omega) (br_f k7 ?_)
  unfold wY_part_95
  refine sy_parts (by omega) (br_f p1 (sy_later (k := 20) (by omega) (by omega) (by omega) ?_))
  unfold wY_part_111
  rw [nI_1]
  exact sy_later (k := 20) (by omega) (by omega) (by omega) (br_f k7 h)
theorem sy_part7 {post : SY → Prop} {b o d : Nat} {st : List (Nat × Nat)} {kd vl : Nat → Nat} {P : ex_T} (hd : d ≤ 16) (hK : rl_K ykind ywith 96 d kd vl) (hSP : ex_S kd vl P (b + 1)) (hbd : b + 1 + ex_n P < d) (ho : o < 8000) (hT : st.length < 1990) (hk : ykind (96 + b) = nI 7) (hw : ws_R ywork yworkWith st) (h : ∀ wo ww : Nat → Int32, ws_R wo ww ((1, 0) :: (20, b + 1) :: (20, b + 1 + ex_n P) :: (1, 0) :: (20, b + 1 + ex_n P) :: (20, b + 1) :: st) → post (yplace, yroot, yrowLength, yfirst, nI (o + 1), nI (st.length + 6), ykind, ywith, ysize, ysort, ymany, yuse, ytypeOf, yleast, ygreatest, ylisted, ytypeOfName, yused, yvalued, ygiven, yname, yparent, ychildren, ycount, yrow, yvalue, yattributes, yends, ylack, yshortest, upd youtKind o (nI 2), upd youtWith o (nI 0), wo, ww, yweight, yfollow, yfirsts, ylasts, ybare, ymet, ynameAt, ytokenAt, ytodo)) : wpY_part post (yplace, yroot, yrowLength, yfirst, nI o, nI st.length, ykind, ywith, ysize, ysort, ymany, yuse, ytypeOf, yleast, ygreatest, ylisted, ytypeOfName, yused, yvalued, ygiven, yname, yparent, ychildren, ycount, yrow, yvalue, yattributes, yends, ylack, yshortest, youtKind, youtWith, ywork, yworkWith, yweight, yfollow, yfirsts, ylasts, ybare, ymet, ynameAt, ytokenAt, ytodo) (nI b) (nI d) := by
  unfold wpY_part
  dsimp only
  rw [show (96 : Int32) + nI b = nI (96 + b) from nI_add 96 b, nb_cl (n := 96 + b) (by omega), hk, show (97 : Int32) + nI b = nI (96 + (b + 1)) by rw [show 96 + (b + 1) = 97 + b by omega]; exact nI_add 97 b, show (96 : Int32) + nI d = nI (96 + d) from nI_add 96 d]
  refine ⟨vp_in_nI (by omega) (by omega), nm_e (br_f (by decide) (sy_parts (by omega) (br_f (by decide) ?_)))⟩
  refine sy_endOf (o := 96) (j := b + 1) (N := d) hK (by omega) (by omega) (by omega) hSP (by omega) ?_
  rw [show (96 : Int32) = nI 96 from rfl, pk_sub (by omega), show 96 + (b + 1 + ex_n P) - 96 = b + 1 + ex_n P by omega]
  refine br_t rfl ?_
  unfold wY_part_62
  refine sy_emit (k := 2) (v := 0) ho (by omega) (by omega) (br_t rfl ?_)
  rw [nI_1]
  have e1 : st.length + 1 = ((20, b + 1) :: st).length := rfl
  refine sy_later (k := 20) (by omega) (by omega) (by omega) (sy_later (k := 20) (by omega) (by omega) (by omega) (sy_later (k := 1) (v := 0) (by omega) (by omega) (by omega) ?_))
  unfold wY_part_95
  refine sy_parts (by omega) (br_f (by decide) (sy_later (k := 20) (by omega) (by omega) (by omega) ?_))
  unfold wY_part_111
  rw [nI_1]
  refine sy_later (k := 20) (by omega) (by omega) (by omega) (br_t rfl (sy_later (k := 1) (v := 0) (by omega) (by omega) (by omega) (h _ _ ?_)))
  exact ws_push (l := (20, b + 1) :: (20, b + 1 + ex_n P) :: (1, 0) :: (20, b + 1 + ex_n P) :: (20, b + 1) :: st) (ws_push (l := (20, b + 1 + ex_n P) :: (1, 0) :: (20, b + 1 + ex_n P) :: (20, b + 1) :: st) (ws_push (l := (1, 0) :: (20, b + 1 + ex_n P) :: (20, b + 1) :: st) (ws_push (l := (20, b + 1 + ex_n P) :: (20, b + 1) :: st) (ws_push (l := (20, b + 1) :: st) (ws_push (l := st) hw)))))
/-- TIMES: the pile -/
theorem sy_tms27 {post : SY → Prop} {b hi lo : Nat} {st : List (Nat × Nat)} (hb : b < 16) (hhi : hi ≤ 3) (hlh : lo ≤ hi) (hT : st.length < 1980) (h : ∀ wo ww : Nat → Int32, ws_R wo ww (wl_n b hi lo ++ st) → post (yplace, yroot, yrowLength, yfirst, youts, nI (wl_n b hi lo ++ st).length, ykind, ywith, ysize, ysort, ymany, yuse, ytypeOf, yleast, ygreatest, ylisted, ytypeOfName, yused, yvalued, ygiven, yname, yparent, ychildren, ycount, yrow, yvalue, yattributes, yends, ylack, yshortest, youtKind, youtWith, wo, ww, yweight, yfollow, yfirsts, ylasts, ybare, ymet, ynameAt, ytokenAt, ytodo)) : ∀ (j : Nat) (wo ww : Nat → Int32), j ≤ hi → ws_R wo ww (wl_n b (hi - j) (lo - j) ++ st) → wY_times_27 post (nI b) (nI lo) (nI hi) (j + 1) (nI j) yplace yroot yrowLength yfirst youts (nI (wl_n b (hi - j) (lo - j) ++ st).length) ykind ywith ysize ysort ymany yuse ytypeOf yleast ygreatest ylisted ytypeOfName yused yvalued ygiven yname yparent ychildren ycount yrow yvalue yattributes yends ylack yshortest youtKind youtWith wo ww yweight yfollow yfirsts ylasts ybare ymet ynameAt ytokenAt ytodo := by
  intro j
  induction j with
  | zero => intro wo ww _ hw; exact br_t (by decide) (h wo ww hw)
  | succ j ih =>
    intro wo ww hj hw
    have ll := wl_len b (hi - (j + 1)) (lo - (j + 1))
    have ll2 : (wl_n b (hi - (j + 1)) (lo - (j + 1)) ++ st).length < 1990 := by rw [List.length_append]; omega
    refine br_f (by rw [nb_le0 (by omega)]; omega) ?_
    rw [nI_1 b]
    refine sy_later (k := 20) (by omega) (by omega) (by omega) ?_
    have w1 := ws_push (k := 20) (v := b + 1) hw
    -- behind the expression: SEQ or not
    have t53 : ∀ (l : List (Nat × Nat)) (wo ww : Nat → Int32), ws_R wo ww (l ++ st) → (l ++ st).length < 1995 → (if lo - j = 0 then [(3, 0)] else []) ++ l = wl_n b (hi - j) (lo - j) → wY_times_53 post (wY_times_27 post (nI b) (nI lo) (nI hi) (j + 1)) (nI b) (nI lo) (nI hi) (nI (j + 1)) yplace yroot yrowLength yfirst youts (nI (l ++ st).length) ykind ywith ysize ysort ymany yuse ytypeOf yleast ygreatest ylisted ytypeOfName yused yvalued ygiven yname yparent ychildren ycount yrow yvalue yattributes yends ylack yshortest youtKind youtWith wo ww yweight yfollow yfirsts ylasts ybare ymet ynameAt ytokenAt ytodo := by
      intro l wo ww hl hlen he
      refine pk_le (j + 1) lo (fun q => nm_r (nb_a1 j) ?_) (fun q => ?_)
      · rw [if_neg (by omega), List.nil_append] at he
        rw [he] at hl ⊢
        exact ih wo ww (by omega) hl
      · rw [if_pos (by omega)] at he
        refine sy_later (k := 3) (v := 0) (by omega) (by omega) (by omega) (nm_r (nb_a1 j) ?_)
        have w2 := ws_push (k := 3) (v := 0) hl
        have e2 : (3, 0) :: (l ++ st) = wl_n b (hi - j) (lo - j) ++ st := by rw [← he]; rfl
        have e3 : (l ++ st).length + 1 = (wl_n b (hi - j) (lo - j) ++ st).length := by rw [← e2]; rfl
        rw [e2] at w2
        rw [e3]
        exact ih _ _ (by omega) w2
    refine pk_le hi (j + 1) (fun q => ?_) (fun q => ?_)
    · have en : wl_n b (hi - (j + 1)) (lo - (j + 1)) = [] := by rw [show hi - (j + 1) = 0 by omega]; rfl
      rw [en] at w1 ⊢
      refine t53 [(20, b + 1)] _ _ w1 (by simp only [List.length_append, List.length_cons, List.length_nil]; omega) ?_
      rw [show hi - j = 1 by omega]
      rfl
    · refine sy_later (k := 1) (v := 0) (by omega) (by omega) (by omega) ?_
      have w2 := ws_push (k := 1) (v := 0) w1
      refine t53 ((1, 0) :: (20, b + 1) :: wl_n b (hi - (j + 1)) (lo - (j + 1))) _ _ w2 (by simp only [List.length_append, List.length_cons]; rw [List.length_append] at ll2; omega) ?_
      rw [show hi - j = (hi - (j + 1) - 1) + 2 by omega]
      show _ = (if lo - j = 0 then [(3, 0)] else []) ++ (1, 0) :: (20, b + 1) :: wl_n b (hi - (j + 1) - 1 + 1) (lo - j - 1)
      rw [show hi - (j + 1) - 1 + 1 = hi - (j + 1) by omega, show lo - j - 1 = lo - (j + 1) by omega]
theorem sy_times {post : SY → Prop} {b k : Nat} {st : List (Nat × Nat)} (hb : b < 16) (hk : k < 16) (hv : k / 4 ≤ k % 4) (hT : st.length < 1980) (hw : ywith (96 + b) = nI k) (hs : ws_R ywork yworkWith st) (h : ∀ wo ww : Nat → Int32, ws_R wo ww (wl_n b (k % 4) (k / 4) ++ st) → post (yplace, yroot, yrowLength, yfirst, youts, nI (wl_n b (k % 4) (k / 4) ++ st).length, ykind, ywith, ysize, ysort, ymany, yuse, ytypeOf, yleast, ygreatest, ylisted, ytypeOfName, yused, yvalued, ygiven, yname, yparent, ychildren, ycount, yrow, yvalue, yattributes, yends, ylack, yshortest, youtKind, youtWith, wo, ww, yweight, yfollow, yfirsts, ylasts, ybare, ymet, ynameAt, ytokenAt, ytodo)) : wpY_times post (yplace, yroot, yrowLength, yfirst, youts, nI st.length, ykind, ywith, ysize, ysort, ymany, yuse, ytypeOf, yleast, ygreatest, ylisted, ytypeOfName, yused, yvalued, ygiven, yname, yparent, ychildren, ycount, yrow, yvalue, yattributes, yends, ylack, yshortest, youtKind, youtWith, ywork, yworkWith, yweight, yfollow, yfirsts, ylasts, ybare, ymet, ynameAt, ytokenAt, ytodo) (nI b) := by
  unfold wpY_times
  dsimp only
  rw [show (96 : Int32) + nI b = nI (96 + b) from nI_add 96 b, nb_cl (n := 96 + b) (by omega), hw, tk_sh (by omega), tk_an (by omega)]
  have v : vp_in (nI (96 + b)) 112 := vp_in_nI (by omega) (by omega)
  refine ⟨v, nm_e ⟨v, nm_e ⟨k % 4 + 1, ?_⟩⟩⟩
  have e0 : wl_n b (k % 4 - k % 4) (k / 4 - k % 4) ++ st = st := by rw [Nat.sub_self]; rfl
  have t := sy_tms27 (hi := k % 4) (lo := k / 4) (st := st) hb (by omega) hv hT h (k % 4) ywork yworkWith (Nat.le_refl _) (by rw [e0]; exact hs)
  rw [e0] at t
  exact t
end
end
section
/-! ===== the reference writes the model out: the tree ===== -/
theorem wo_0 : ∀ R : ex_T, ex_w R = 0 → wo_i R = 1 := by
  intro R h
  cases R with
  | var i => rfl
  | num k => rfl
  | natCast k => rfl
  | intCast k => rfl
  | neg a => exact if_pos h
  | add a b => exact if_pos h
  | mul a b => exact if_pos h
  | sub a b => exact if_pos h
  | pow a k => exact if_pos h
theorem wl_le (b : Nat) (a : ex_T) : ∀ h lo, (wl_n b (h + 1) lo).length ≤ ex_n (ex_N a (h + 1) lo) := by
  have p := ex_n_pos a
  intro h
  induction h with
  | zero =>
    intro lo
    unfold wl_n ex_N
    by_cases q : lo = 0
    · rw [if_pos q, if_pos q]; simp only [List.length_append, List.length_cons, List.length_nil, ex_n]; omega
    · rw [if_neg q, if_neg q]; simp only [List.length_append, List.length_cons, List.length_nil]; omega
  | succ h ih =>
    intro lo
    have := ih (lo - 1)
    unfold wl_n ex_N
    by_cases q : lo = 0
    · rw [if_pos q, if_pos q]; simp only [List.length_append, List.length_cons, List.length_nil, ex_n]; omega
    · rw [if_neg q, if_neg q]; simp only [List.length_append, List.length_cons, List.length_nil, ex_n]; omega
def op_l (lo : Nat) : List (Nat × Nat) := if lo = 0 then [(3, 0)] else []
section
variable {yplace yroot yrowLength yfirst youts ytop : Int32} {ykind ywith ysize ysort ymany yuse ytypeOf yleast ygreatest ylisted ytypeOfName yused yvalued ygiven yname yparent ychildren ycount yrow yvalue yattributes yends ylack yshortest youtKind youtWith ywork yworkWith yweight yfollow yfirsts ylasts ybare ymet ynameAt ytokenAt ytodo : Nat → Int32}
theorem sy_cons {post : SY → Prop} {d b : Nat} {kd vl : Nat → Nat} {A : ex_T} (ih : (∀ (b o fu : Nat) (st : List (Nat × Nat)) (wo ww ok ow : Nat → Int32), ex_S kd vl A b → ex_W A → wg_P yweight A b → b + ex_n A ≤ d → o + ex_n (ex_E A) + st.length ≤ 1900 → ws_R wo ww ((20, b) :: st) → (∀ wo' ww' ok' ow' : Nat → Int32, ws_R wo' ww' st → ou_S ok' ow' (ex_E A) o → (∀ j, j < o → ok' j = ok j ∧ ow' j = ow j) → wY_writeOut_17 post (nI d) fu yplace yroot yrowLength yfirst (nI (o + ex_n (ex_E A))) (nI st.length) ykind ywith ysize ysort ymany yuse ytypeOf yleast ygreatest ylisted ytypeOfName yused yvalued ygiven yname yparent ychildren ycount yrow yvalue yattributes yends ylack yshortest ok' ow' wo' ww' yweight yfollow yfirsts ylasts ybare ymet ynameAt ytokenAt ytodo) → wY_writeOut_17 post (nI d) (fu + wo_i A) yplace yroot yrowLength yfirst (nI o) (nI (st.length + 1)) ykind ywith ysize ysort ymany yuse ytypeOf yleast ygreatest ylisted ytypeOfName yused yvalued ygiven yname yparent ychildren ycount yrow yvalue yattributes yends ylack yshortest ok ow wo ww yweight yfollow yfirsts ylasts ybare ymet ynameAt ytokenAt ytodo)) (hS : ex_S kd vl A (b + 1)) (hW : ex_W A) (hg : wg_P yweight A (b + 1)) (hbd : b + 1 + ex_n A ≤ d) : ∀ (h lo o fu : Nat) (st : List (Nat × Nat)) (wo ww ok ow : Nat → Int32), o + ex_n (ex_N (ex_E A) (h + 1) lo) + st.length ≤ 1900 → ws_R wo ww (wl_n b (h + 1) lo ++ st) → (∀ wo' ww' ok' ow' : Nat → Int32, ws_R wo' ww' st → ou_S ok' ow' (ex_N (ex_E A) (h + 1) lo) o → (∀ j, j < o → ok' j = ok j ∧ ow' j = ow j) → wY_writeOut_17 post (nI d) fu yplace yroot yrowLength yfirst (nI (o + ex_n (ex_N (ex_E A) (h + 1) lo))) (nI st.length) ykind ywith ysize ysort ymany yuse ytypeOf yleast ygreatest ylisted ytypeOfName yused yvalued ygiven yname yparent ychildren ycount yrow yvalue yattributes yends ylack yshortest ok' ow' wo' ww' yweight yfollow yfirsts ylasts ybare ymet ynameAt ytokenAt ytodo) → wY_writeOut_17 post (nI d) (fu + wo_t (wo_i A) (h + 1) lo) yplace yroot yrowLength yfirst (nI o) (nI (wl_n b (h + 1) lo ++ st).length) ykind ywith ysize ysort ymany yuse ytypeOf yleast ygreatest ylisted ytypeOfName yused yvalued ygiven yname yparent ychildren ycount yrow yvalue yattributes yends ylack yshortest ok ow wo ww yweight yfollow yfirsts ylasts ybare ymet ynameAt ytokenAt ytodo := by
  -- an OPTION ahead
  have opt : ∀ (T : ex_T) (l st : List (Nat × Nat)) (lo o fu r : Nat) (wo ww ok ow : Nat → Int32), l.length ≤ ex_n T → o + ex_n (if lo = 0 then .neg T else T) + st.length ≤ 1900 → ws_R wo ww (op_l lo ++ l ++ st) → (∀ (o' : Nat) (ok ow : Nat → Int32), o' + ex_n T + st.length ≤ 1900 → ws_R wo ww (l ++ st) → (∀ wo' ww' ok' ow' : Nat → Int32, ws_R wo' ww' st → ou_S ok' ow' T o' → (∀ j, j < o' → ok' j = ok j ∧ ow' j = ow j) → wY_writeOut_17 post (nI d) fu yplace yroot yrowLength yfirst (nI (o' + ex_n T)) (nI st.length) ykind ywith ysize ysort ymany yuse ytypeOf yleast ygreatest ylisted ytypeOfName yused yvalued ygiven yname yparent ychildren ycount yrow yvalue yattributes yends ylack yshortest ok' ow' wo' ww' yweight yfollow yfirsts ylasts ybare ymet ynameAt ytokenAt ytodo) → wY_writeOut_17 post (nI d) (fu + r) yplace yroot yrowLength yfirst (nI o') (nI (l ++ st).length) ykind ywith ysize ysort ymany yuse ytypeOf yleast ygreatest ylisted ytypeOfName yused yvalued ygiven yname yparent ychildren ycount yrow yvalue yattributes yends ylack yshortest ok ow wo ww yweight yfollow yfirsts ylasts ybare ymet ynameAt ytokenAt ytodo) → (∀ wo' ww' ok' ow' : Nat → Int32, ws_R wo' ww' st → ou_S ok' ow' (if lo = 0 then .neg T else T) o → (∀ j, j < o → ok' j = ok j ∧ ow' j = ow j) → wY_writeOut_17 post (nI d) fu yplace yroot yrowLength yfirst (nI (o + ex_n (if lo = 0 then .neg T else T))) (nI st.length) ykind ywith ysize ysort ymany yuse ytypeOf yleast ygreatest ylisted ytypeOfName yused yvalued ygiven yname yparent ychildren ycount yrow yvalue yattributes yends ylack yshortest ok' ow' wo' ww' yweight yfollow yfirsts ylasts ybare ymet ynameAt ytokenAt ytodo) → wY_writeOut_17 post (nI d) (fu + ((if lo = 0 then 1 else 0) + r)) yplace yroot yrowLength yfirst (nI o) (nI (op_l lo ++ l ++ st).length) ykind ywith ysize ysort ymany yuse ytypeOf yleast ygreatest ylisted ytypeOfName yused yvalued ygiven yname yparent ychildren ycount yrow yvalue yattributes yends ylack yshortest ok ow wo ww yweight yfollow yfirsts ylasts ybare ymet ynameAt ytokenAt ytodo := by
    intro T l st lo o fu r wo ww ok ow hl hB hw go h
    by_cases q : lo = 0
    · have eo : op_l lo = [(3, 0)] := if_pos q
      rw [eo] at hw ⊢
      simp only [if_pos q] at hB h ⊢
      simp only [ex_n] at hB h
      rw [show fu + (1 + r) = fu + r + 1 by omega]
      refine sy_popO (k := 3) (st := l ++ st) (by omega) (by rw [List.length_append]; omega) (by omega) hw (go (o + 1) _ _ (by omega) hw.2.2 (fun wo' ww' ok' ow' c1 c2 c3 => ?_))
      rw [show o + 1 + ex_n T = o + (1 + ex_n T) by omega]
      refine h wo' ww' ok' ow' c1 ⟨?_, c2⟩ (fun j hj => ?_)
      · rw [(c3 o (by omega)).1, pk_us]
      · obtain ⟨e1, e2⟩ := c3 j (by omega)
        rw [e1, e2, pk_un (by omega), pk_un (by omega)]
        exact ⟨rfl, rfl⟩
    · have eo : op_l lo = [] := if_neg q
      rw [eo] at hw ⊢
      simp only [if_neg q] at hB h ⊢
      rw [Nat.zero_add]
      exact go o ok ow hB hw h
  intro h
  induction h with
  | zero =>
    intro lo o fu st wo ww ok ow hB hw hc
    unfold wl_n ex_N wo_t at *
    exact opt (ex_E A) [(20, b + 1)] st lo o fu (wo_i A) wo ww ok ow (ex_n_pos _) hB hw (fun o' ok ow hB' hw' hc' => ih (b + 1) o' fu st wo ww ok ow hS hW hg hbd hB' hw' hc') hc
  | succ h ihh =>
    intro lo o fu st wo ww ok ow hB hw hc
    have pA := ex_n_pos (ex_E A)
    have hl := wl_le b (ex_E A) h (lo - 1)
    have t := opt (.mul (ex_E A) (ex_N (ex_E A) (h + 1) (lo - 1))) ((1, 0) :: (20, b + 1) :: wl_n b (h + 1) (lo - 1)) st lo o fu (1 + wo_i A + wo_t (wo_i A) (h + 1) (lo - 1)) wo ww ok ow (by simp only [List.length_cons, ex_n]; omega) hB hw (fun o' ok ow hB' hw' hc' => ?_) hc
    · exact t
    · simp only [ex_n] at hB' hc'
      rw [show fu + (1 + wo_i A + wo_t (wo_i A) (h + 1) (lo - 1)) = fu + wo_t (wo_i A) (h + 1) (lo - 1) + wo_i A + 1 by omega]
      refine sy_popO (k := 1) (st := (20, b + 1) :: (wl_n b (h + 1) (lo - 1) ++ st)) (by omega) (by simp only [List.length_cons, List.length_append]; omega) (by omega) hw' ?_
      refine ih (b + 1) (o' + 1) (fu + wo_t (wo_i A) (h + 1) (lo - 1)) (wl_n b (h + 1) (lo - 1) ++ st) wo ww _ _ hS hW hg hbd (by rw [List.length_append]; omega) hw'.2.2 (fun wo1 ww1 ok1 ow1 c1 c2 c3 => ?_)
      refine ihh (lo - 1) (o' + 1 + ex_n (ex_E A)) fu st wo1 ww1 ok1 ow1 (by omega) c1 (fun wo2 ww2 ok2 ow2 e1 e2 e3 => ?_)
      rw [show o' + 1 + ex_n (ex_E A) + ex_n (ex_N (ex_E A) (h + 1) (lo - 1)) = o' + (1 + ex_n (ex_E A) + ex_n (ex_N (ex_E A) (h + 1) (lo - 1))) by omega]
      refine hc' wo2 ww2 ok2 ow2 e1 ⟨?_, ou_cg _ _ (fun j j1 j2 => e3 j (by omega)) c2, e2⟩ (fun j hj => ?_)
      · rw [(e3 o' (by omega)).1, (c3 o' (by omega)).1, pk_us]
      · obtain ⟨u1, u2⟩ := e3 j (by omega)
        obtain ⟨u3, u4⟩ := c3 j (by omega)
        rw [u1, u2, u3, u4, pk_un (by omega), pk_un (by omega)]
        exact ⟨rfl, rfl⟩
theorem sy_woT {post : SY → Prop} {d : Nat} {kd vl : Nat → Nat} (hd : d ≤ 16) (hK : rl_K ykind ywith 96 d kd vl) : ∀ R : ex_T, (∀ (b o fu : Nat) (st : List (Nat × Nat)) (wo ww ok ow : Nat → Int32), ex_S kd vl R b → ex_W R → wg_P yweight R b → b + ex_n R ≤ d → o + ex_n (ex_E R) + st.length ≤ 1900 → ws_R wo ww ((20, b) :: st) → (∀ wo' ww' ok' ow' : Nat → Int32, ws_R wo' ww' st → ou_S ok' ow' (ex_E R) o → (∀ j, j < o → ok' j = ok j ∧ ow' j = ow j) → wY_writeOut_17 post (nI d) fu yplace yroot yrowLength yfirst (nI (o + ex_n (ex_E R))) (nI st.length) ykind ywith ysize ysort ymany yuse ytypeOf yleast ygreatest ylisted ytypeOfName yused yvalued ygiven yname yparent ychildren ycount yrow yvalue yattributes yends ylack yshortest ok' ow' wo' ww' yweight yfollow yfirsts ylasts ybare ymet ynameAt ytokenAt ytodo) → wY_writeOut_17 post (nI d) (fu + wo_i R) yplace yroot yrowLength yfirst (nI o) (nI (st.length + 1)) ykind ywith ysize ysort ymany yuse ytypeOf yleast ygreatest ylisted ytypeOfName yused yvalued ygiven yname yparent ychildren ycount yrow yvalue yattributes yends ylack yshortest ok ow wo ww yweight yfollow yfirsts ylasts ybare ymet ynameAt ytokenAt ytodo) := by
  have kind : ∀ b kk, b < d → kd b = kk → ykind (96 + b) = nI kk := fun b kk hb q => by rw [(hK b hb).1, q]
  have n8 : ∀ kk, kk < 8 → ¬ nI kk = 8 := fun kk hk e => absurd ((nI_eq (b := 8) (by omega) (by omega)).mp e) (by omega)
  have zero : ∀ R : ex_T, ex_w R = 0 → (∀ (b o fu : Nat) (st : List (Nat × Nat)) (wo ww ok ow : Nat → Int32), ex_S kd vl R b → ex_W R → wg_P yweight R b → b + ex_n R ≤ d → o + ex_n (ex_E R) + st.length ≤ 1900 → ws_R wo ww ((20, b) :: st) → (∀ wo' ww' ok' ow' : Nat → Int32, ws_R wo' ww' st → ou_S ok' ow' (ex_E R) o → (∀ j, j < o → ok' j = ok j ∧ ow' j = ow j) → wY_writeOut_17 post (nI d) fu yplace yroot yrowLength yfirst (nI (o + ex_n (ex_E R))) (nI st.length) ykind ywith ysize ysort ymany yuse ytypeOf yleast ygreatest ylisted ytypeOfName yused yvalued ygiven yname yparent ychildren ycount yrow yvalue yattributes yends ylack yshortest ok' ow' wo' ww' yweight yfollow yfirsts ylasts ybare ymet ynameAt ytokenAt ytodo) → wY_writeOut_17 post (nI d) (fu + wo_i R) yplace yroot yrowLength yfirst (nI o) (nI (st.length + 1)) ykind ywith ysize ysort ymany yuse ytypeOf yleast ygreatest ylisted ytypeOfName yused yvalued ygiven yname yparent ychildren ycount yrow yvalue yattributes yends ylack yshortest ok ow wo ww yweight yfollow yfirsts ylasts ybare ymet ynameAt ytokenAt ytodo) := by
    intro R h0 b o fu st wo ww ok ow hS hW hg hbd hB hw h
    have pR := ex_n_pos R
    rw [wo_0 R h0]
    rw [ex_E_0 R h0] at hB h
    simp only [ex_n] at hB h
    refine sy_popX (W := ex_w R) (by omega) (by omega) hw (wg_b hg) (fun _ => sy_emit (k := 6) (v := 0) (by omega) (by omega) (by omega) (h _ _ _ _ hw.2.2 pk_us (fun j hj => ⟨pk_un (by omega), pk_un (by omega)⟩))) (fun q => absurd h0 q)
  have two : ∀ (P Q R : ex_T) (kk : Nat), (kk = 1 ∨ kk = 2) → ex_w R = ex_w P + ex_w Q → (∀ ok ow b, ou_S ok ow (ex_E R) b ↔ ex_w R = 0 ∧ ou_S ok ow (ex_E R) b ∨ ex_w R ≠ 0 ∧ ok b = nI kk ∧ ou_S ok ow (ex_E P) (b + 1) ∧ ou_S ok ow (ex_E Q) (b + 1 + ex_n (ex_E P))) → (ex_w R ≠ 0 → ex_n (ex_E R) = 1 + ex_n (ex_E P) + ex_n (ex_E Q)) → (ex_w R ≠ 0 → wo_i R = 1 + (wo_i P + wo_i Q)) → ex_n R = 1 + ex_n P + ex_n Q → (∀ b, ex_S kd vl R b → kd b = kk ∧ ex_S kd vl P (b + 1) ∧ ex_S kd vl Q (b + 1 + ex_n P)) → (ex_W R → ex_W P ∧ ex_W Q) → (∀ b, wg_P yweight R b → wg_P yweight P (b + 1) ∧ wg_P yweight Q (b + 1 + ex_n P)) → (∀ (b o fu : Nat) (st : List (Nat × Nat)) (wo ww ok ow : Nat → Int32), ex_S kd vl P b → ex_W P → wg_P yweight P b → b + ex_n P ≤ d → o + ex_n (ex_E P) + st.length ≤ 1900 → ws_R wo ww ((20, b) :: st) → (∀ wo' ww' ok' ow' : Nat → Int32, ws_R wo' ww' st → ou_S ok' ow' (ex_E P) o → (∀ j, j < o → ok' j = ok j ∧ ow' j = ow j) → wY_writeOut_17 post (nI d) fu yplace yroot yrowLength yfirst (nI (o + ex_n (ex_E P))) (nI st.length) ykind ywith ysize ysort ymany yuse ytypeOf yleast ygreatest ylisted ytypeOfName yused yvalued ygiven yname yparent ychildren ycount yrow yvalue yattributes yends ylack yshortest ok' ow' wo' ww' yweight yfollow yfirsts ylasts ybare ymet ynameAt ytokenAt ytodo) → wY_writeOut_17 post (nI d) (fu + wo_i P) yplace yroot yrowLength yfirst (nI o) (nI (st.length + 1)) ykind ywith ysize ysort ymany yuse ytypeOf yleast ygreatest ylisted ytypeOfName yused yvalued ygiven yname yparent ychildren ycount yrow yvalue yattributes yends ylack yshortest ok ow wo ww yweight yfollow yfirsts ylasts ybare ymet ynameAt ytokenAt ytodo) → (∀ (b o fu : Nat) (st : List (Nat × Nat)) (wo ww ok ow : Nat → Int32), ex_S kd vl Q b → ex_W Q → wg_P yweight Q b → b + ex_n Q ≤ d → o + ex_n (ex_E Q) + st.length ≤ 1900 → ws_R wo ww ((20, b) :: st) → (∀ wo' ww' ok' ow' : Nat → Int32, ws_R wo' ww' st → ou_S ok' ow' (ex_E Q) o → (∀ j, j < o → ok' j = ok j ∧ ow' j = ow j) → wY_writeOut_17 post (nI d) fu yplace yroot yrowLength yfirst (nI (o + ex_n (ex_E Q))) (nI st.length) ykind ywith ysize ysort ymany yuse ytypeOf yleast ygreatest ylisted ytypeOfName yused yvalued ygiven yname yparent ychildren ycount yrow yvalue yattributes yends ylack yshortest ok' ow' wo' ww' yweight yfollow yfirsts ylasts ybare ymet ynameAt ytokenAt ytodo) → wY_writeOut_17 post (nI d) (fu + wo_i Q) yplace yroot yrowLength yfirst (nI o) (nI (st.length + 1)) ykind ywith ysize ysort ymany yuse ytypeOf yleast ygreatest ylisted ytypeOfName yused yvalued ygiven yname yparent ychildren ycount yrow yvalue yattributes yends ylack yshortest ok ow wo ww yweight yfollow yfirsts ylasts ybare ymet ynameAt ytokenAt ytodo) → ex_w R ≠ 0 → (∀ (b o fu : Nat) (st : List (Nat × Nat)) (wo ww ok ow : Nat → Int32), ex_S kd vl R b → ex_W R → wg_P yweight R b → b + ex_n R ≤ d → o + ex_n (ex_E R) + st.length ≤ 1900 → ws_R wo ww ((20, b) :: st) → (∀ wo' ww' ok' ow' : Nat → Int32, ws_R wo' ww' st → ou_S ok' ow' (ex_E R) o → (∀ j, j < o → ok' j = ok j ∧ ow' j = ow j) → wY_writeOut_17 post (nI d) fu yplace yroot yrowLength yfirst (nI (o + ex_n (ex_E R))) (nI st.length) ykind ywith ysize ysort ymany yuse ytypeOf yleast ygreatest ylisted ytypeOfName yused yvalued ygiven yname yparent ychildren ycount yrow yvalue yattributes yends ylack yshortest ok' ow' wo' ww' yweight yfollow yfirsts ylasts ybare ymet ynameAt ytokenAt ytodo) → wY_writeOut_17 post (nI d) (fu + wo_i R) yplace yroot yrowLength yfirst (nI o) (nI (st.length + 1)) ykind ywith ysize ysort ymany yuse ytypeOf yleast ygreatest ylisted ytypeOfName yused yvalued ygiven yname yparent ychildren ycount yrow yvalue yattributes yends ylack yshortest ok ow wo ww yweight yfollow yfirsts ylasts ybare ymet ynameAt ytokenAt ytodo) := by
    intro P Q R kk hkk hw1 hou hne hwo hn hS1 hW1 hg1 ihP ihQ h0 b o fu st wo ww ok ow hS hW hg hbd hB hw h
    obtain ⟨sb, sP, sQ⟩ := hS1 b hS
    obtain ⟨wP, wQ⟩ := hW1 hW
    obtain ⟨gP, gQ⟩ := hg1 b hg
    have pP := ex_n_pos P
    have pQ := ex_n_pos Q
    have qP := ex_n_pos (ex_E P)
    have qQ := ex_n_pos (ex_E Q)
    have hbg := wg_b hg
    rw [hne h0] at hB h
    rw [hwo h0, show fu + (1 + (wo_i P + wo_i Q)) = fu + wo_i Q + wo_i P + 1 by omega]
    have kb := kind b kk (by omega) sb
    refine sy_popX (W := ex_w R) (by omega) (by omega) hw hbg (fun q => absurd q h0) (fun _ => br_f (by rw [kb]; exact n8 kk (by omega)) ?_)
    refine sy_part2 (P := P) (d := d) (kk := kk) (T := st.length) hd hK sP (by omega) (by omega) (by omega) hkk kb ?_
    refine ihP (b + 1) (o + 1) (fu + wo_i Q) ((20, b + 1 + ex_n P) :: st) _ _ _ _ sP wP gP (by omega) (by simp only [List.length_cons]; omega) (ws_push (k := 20) (v := b + 1) (l := (20, b + 1 + ex_n P) :: st) (ws_push (k := 20) (v := b + 1 + ex_n P) (l := st) hw.2.2)) (fun wo1 ww1 ok1 ow1 c1 c2 c3 => ?_)
    refine ihQ (b + 1 + ex_n P) (o + 1 + ex_n (ex_E P)) fu st wo1 ww1 ok1 ow1 sQ wQ gQ (by omega) (by omega) c1 (fun wo2 ww2 ok2 ow2 e1 e2 e3 => ?_)
    rw [show o + 1 + ex_n (ex_E P) + ex_n (ex_E Q) = o + (1 + ex_n (ex_E P) + ex_n (ex_E Q)) by omega]
    refine h wo2 ww2 ok2 ow2 e1 ((hou ok2 ow2 o).mpr (Or.inr ⟨h0, ?_, ou_cg _ _ (fun j j1 j2 => e3 j (by omega)) c2, e2⟩)) (fun j hj => ?_)
    · rw [(e3 o (by omega)).1, (c3 o (by omega)).1, pk_us]
    · obtain ⟨u1, u2⟩ := e3 j (by omega)
      obtain ⟨u3, u4⟩ := c3 j (by omega)
      rw [u1, u2, u3, u4, pk_un (by omega), pk_un (by omega)]
      exact ⟨rfl, rfl⟩
  have one : ∀ (A R : ex_T) (kk : Nat), (kk = 3 ∨ kk = 4 ∨ kk = 5) → (ex_w R ≠ 0 → ∀ ok ow b, ok b = nI kk → ou_S ok ow (ex_E A) (b + 1) → ou_S ok ow (ex_E R) b) → (ex_w R ≠ 0 → ex_n (ex_E R) = 1 + ex_n (ex_E A)) → (ex_w R ≠ 0 → wo_i R = 1 + wo_i A) → ex_n R = 1 + ex_n A → ex_W A → (∀ (b o fu : Nat) (st : List (Nat × Nat)) (wo ww ok ow : Nat → Int32), ex_S kd vl A b → ex_W A → wg_P yweight A b → b + ex_n A ≤ d → o + ex_n (ex_E A) + st.length ≤ 1900 → ws_R wo ww ((20, b) :: st) → (∀ wo' ww' ok' ow' : Nat → Int32, ws_R wo' ww' st → ou_S ok' ow' (ex_E A) o → (∀ j, j < o → ok' j = ok j ∧ ow' j = ow j) → wY_writeOut_17 post (nI d) fu yplace yroot yrowLength yfirst (nI (o + ex_n (ex_E A))) (nI st.length) ykind ywith ysize ysort ymany yuse ytypeOf yleast ygreatest ylisted ytypeOfName yused yvalued ygiven yname yparent ychildren ycount yrow yvalue yattributes yends ylack yshortest ok' ow' wo' ww' yweight yfollow yfirsts ylasts ybare ymet ynameAt ytokenAt ytodo) → wY_writeOut_17 post (nI d) (fu + wo_i A) yplace yroot yrowLength yfirst (nI o) (nI (st.length + 1)) ykind ywith ysize ysort ymany yuse ytypeOf yleast ygreatest ylisted ytypeOfName yused yvalued ygiven yname yparent ychildren ycount yrow yvalue yattributes yends ylack yshortest ok ow wo ww yweight yfollow yfirsts ylasts ybare ymet ynameAt ytokenAt ytodo) → ex_w R ≠ 0 → ∀ (b o fu : Nat) (st : List (Nat × Nat)) (wo ww ok ow : Nat → Int32), kd b = kk → ex_S kd vl A (b + 1) → wg_P yweight R b → wg_P yweight A (b + 1) → b + ex_n R ≤ d → o + ex_n (ex_E R) + st.length ≤ 1900 → ws_R wo ww ((20, b) :: st) → (∀ wo' ww' ok' ow' : Nat → Int32, ws_R wo' ww' st → ou_S ok' ow' (ex_E R) o → (∀ j, j < o → ok' j = ok j ∧ ow' j = ow j) → wY_writeOut_17 post (nI d) fu yplace yroot yrowLength yfirst (nI (o + ex_n (ex_E R))) (nI st.length) ykind ywith ysize ysort ymany yuse ytypeOf yleast ygreatest ylisted ytypeOfName yused yvalued ygiven yname yparent ychildren ycount yrow yvalue yattributes yends ylack yshortest ok' ow' wo' ww' yweight yfollow yfirsts ylasts ybare ymet ynameAt ytokenAt ytodo) → wY_writeOut_17 post (nI d) (fu + wo_i R) yplace yroot yrowLength yfirst (nI o) (nI (st.length + 1)) ykind ywith ysize ysort ymany yuse ytypeOf yleast ygreatest ylisted ytypeOfName yused yvalued ygiven yname yparent ychildren ycount yrow yvalue yattributes yends ylack yshortest ok ow wo ww yweight yfollow yfirsts ylasts ybare ymet ynameAt ytokenAt ytodo := by
    intro A R kk hkk hou hne hwo hn wA ihA h0 b o fu st wo ww ok ow sb sA hgR gA hbd hB hw h
    have pA := ex_n_pos A
    have qA := ex_n_pos (ex_E A)
    rw [hne h0] at hB h
    rw [hwo h0, show fu + (1 + wo_i A) = fu + wo_i A + 1 by omega]
    have kb := kind b kk (by omega) sb
    refine sy_popX (W := ex_w R) (by omega) (by omega) hw (wg_b hgR) (fun q => absurd q h0) (fun _ => br_f (by rw [kb]; exact n8 kk (by omega)) ?_)
    refine sy_part1 (kk := kk) (T := st.length) (by omega) (by omega) (by omega) hkk kb ?_
    refine ihA (b + 1) (o + 1) fu st _ _ _ _ sA wA gA (by omega) (by omega) (ws_push (k := 20) (v := b + 1) (l := st) hw.2.2) (fun wo1 ww1 ok1 ow1 c1 c2 c3 => ?_)
    rw [show o + 1 + ex_n (ex_E A) = o + (1 + ex_n (ex_E A)) by omega]
    refine h wo1 ww1 ok1 ow1 c1 (hou h0 _ _ _ ?_ c2) (fun j hj => ?_)
    · rw [(c3 o (by omega)).1, pk_us]
    · obtain ⟨u3, u4⟩ := c3 j (by omega)
      rw [u3, u4, pk_un (by omega), pk_un (by omega)]
      exact ⟨rfl, rfl⟩
  intro R
  induction R with
  | natCast k => intro b o fu st wo ww ok ow hS; exact hS.elim
  | intCast k => intro b o fu st wo ww ok ow hS; exact hS.elim
  | num k => exact zero _ rfl
  | var i =>
    intro b o fu st wo ww ok ow hS hW hg hbd hB hw h
    obtain ⟨sb, rfl⟩ := hS
    simp only [ex_n, ex_E] at hbd hB h
    have kb := kind i 0 (by omega) sb
    refine sy_popX (W := 1) (by omega) (by omega) hw hg (fun q => by omega) (fun _ => br_f (by rw [kb]; decide) ?_)
    exact sy_partV (by omega) (by omega) kb (h _ _ _ _ hw.2.2 ⟨pk_us, pk_us⟩ (fun j hj => ⟨pk_un (by omega), pk_un (by omega)⟩))
  | neg A ih =>
    by_cases h0 : ex_w A = 0
    · exact zero _ h0
    · intro b o fu st wo ww ok ow hS hW hg hbd hB hw h
      have e : ex_E (.neg A) = .neg (ex_E A) := if_neg h0
      exact one A (.neg A) 3 (by omega) (fun _ ok ow b c1 c2 => by rw [e]; exact ⟨c1, c2⟩) (fun _ => by rw [e]; rfl) (fun _ => if_neg h0) rfl hW ih h0 b o fu st wo ww ok ow hS.1 hS.2 hg hg.2 hbd hB hw h
  | add P Q ihP ihQ =>
    by_cases h0 : ex_w P + ex_w Q = 0
    · exact zero _ h0
    · have e : ex_E (.add P Q) = .add (ex_E P) (ex_E Q) := if_neg h0
      exact two P Q (.add P Q) 2 (by omega) rfl (fun ok ow b => by rw [e]; exact ⟨fun q => Or.inr ⟨h0, q⟩, fun q => q.elim (fun q => q.2) (fun q => q.2)⟩) (fun _ => by rw [e]; rfl) (fun _ => if_neg h0) rfl (fun b hS => hS) (fun hW => hW) (fun b hg => hg.2) ihP ihQ h0
  | mul P Q ihP ihQ =>
    by_cases h0 : ex_w P + ex_w Q = 0
    · exact zero _ h0
    · have e : ex_E (.mul P Q) = .mul (ex_E P) (ex_E Q) := if_neg h0
      exact two P Q (.mul P Q) 1 (by omega) rfl (fun ok ow b => by rw [e]; exact ⟨fun q => Or.inr ⟨h0, q⟩, fun q => q.elim (fun q => q.2) (fun q => q.2)⟩) (fun _ => by rw [e]; rfl) (fun _ => if_neg h0) rfl (fun b hS => hS) (fun hW => hW) (fun b hg => hg.2) ihP ihQ h0
  | sub P Q ihP ihQ =>
    by_cases h0 : 2 * (ex_w P + ex_w Q) = 0
    · exact zero _ h0
    · intro b o fu st wo ww ok ow hS hW hg hbd hB hw h
      obtain ⟨sb, sP, sQ⟩ := hS
      obtain ⟨hgb, gP, gQ⟩ := hg
      have pP := ex_n_pos P
      have pQ := ex_n_pos Q
      have qP := ex_n_pos (ex_E P)
      have qQ := ex_n_pos (ex_E Q)
      have e : ex_E (.sub P Q) = .add (.mul (ex_E P) (ex_E Q)) (.mul (ex_E Q) (ex_E P)) := if_neg h0
      have ew : wo_i (.sub P Q) = 1 + (1 + (wo_i P + (wo_i Q + (1 + (wo_i Q + wo_i P))))) := if_neg h0
      rw [e] at hB h
      simp only [ex_n] at hbd hB h
      rw [ew, show fu + (1 + (1 + (wo_i P + (wo_i Q + (1 + (wo_i Q + wo_i P)))))) = fu + wo_i P + wo_i Q + 1 + wo_i Q + wo_i P + 1 + 1 by omega]
      have kb := kind b 7 (by omega) sb
      refine sy_popX (W := ex_w (.sub P Q)) (by omega) (by omega) hw hgb (fun q => absurd q h0) (fun _ => br_f (by rw [kb]; decide) ?_)
      refine sy_part7 (P := P) (d := d) (st := st) hd hK sP (by omega) (by omega) (by omega) kb hw.2.2 (fun wo0 ww0 w0 => ?_)
      refine sy_popO (k := 1) (o := o + 1) (st := (20, b + 1) :: (20, b + 1 + ex_n P) :: (1, 0) :: (20, b + 1 + ex_n P) :: (20, b + 1) :: st) (by omega) (by simp only [List.length_cons]; omega) (by omega) w0 ?_
      refine ihP (b + 1) (o + 1 + 1) (fu + wo_i P + wo_i Q + 1 + wo_i Q) ((20, b + 1 + ex_n P) :: (1, 0) :: (20, b + 1 + ex_n P) :: (20, b + 1) :: st) wo0 ww0 _ _ sP hW.1 gP (by omega) (by simp only [List.length_cons]; omega) w0.2.2 (fun wo1 ww1 ok1 ow1 c1 c2 c3 => ?_)
      refine ihQ (b + 1 + ex_n P) (o + 1 + 1 + ex_n (ex_E P)) (fu + wo_i P + wo_i Q + 1) ((1, 0) :: (20, b + 1 + ex_n P) :: (20, b + 1) :: st) wo1 ww1 ok1 ow1 sQ hW.2 gQ (by omega) (by simp only [List.length_cons]; omega) c1 (fun wo2 ww2 ok2 ow2 e1 e2 e3 => ?_)
      refine sy_popO (k := 1) (o := o + 1 + 1 + ex_n (ex_E P) + ex_n (ex_E Q)) (st := (20, b + 1 + ex_n P) :: (20, b + 1) :: st) (by omega) (by simp only [List.length_cons]; omega) (by omega) e1 ?_
      refine ihQ (b + 1 + ex_n P) (o + 1 + 1 + ex_n (ex_E P) + ex_n (ex_E Q) + 1) (fu + wo_i P) ((20, b + 1) :: st) wo2 ww2 _ _ sQ hW.2 gQ (by omega) (by simp only [List.length_cons]; omega) e1.2.2 (fun wo3 ww3 ok3 ow3 f1 f2 f3 => ?_)
      refine ihP (b + 1) (o + 1 + 1 + ex_n (ex_E P) + ex_n (ex_E Q) + 1 + ex_n (ex_E Q)) fu st wo3 ww3 ok3 ow3 sP hW.1 gP (by omega) (by omega) f1 (fun wo4 ww4 ok4 ow4 g1 g2 g3 => ?_)
      rw [show o + 1 + 1 + ex_n (ex_E P) + ex_n (ex_E Q) + 1 + ex_n (ex_E Q) + ex_n (ex_E P) = o + (1 + (1 + ex_n (ex_E P) + ex_n (ex_E Q)) + (1 + ex_n (ex_E Q) + ex_n (ex_E P))) by omega]
      refine h wo4 ww4 ok4 ow4 g1 ⟨?_, ⟨?_, ?_, ?_⟩, ?_, ?_, ?_⟩ (fun j hj => ?_)
      · rw [(g3 o (by omega)).1, (f3 o (by omega)).1, pk_un (by omega), (e3 o (by omega)).1, (c3 o (by omega)).1, pk_un (by omega), pk_us]
      · rw [(g3 (o + 1) (by omega)).1, (f3 (o + 1) (by omega)).1, pk_un (by omega), (e3 (o + 1) (by omega)).1, (c3 (o + 1) (by omega)).1, pk_us]
      · refine ou_cg _ _ (fun j j1 j2 => ?_) c2
        obtain ⟨a1, a2⟩ := g3 j (by omega)
        obtain ⟨a3, a4⟩ := f3 j (by omega)
        obtain ⟨a5, a6⟩ := e3 j (by omega)
        rw [a1, a2, a3, a4, pk_un (by omega), pk_un (by omega)]
        exact ⟨a5, a6⟩
      · refine ou_cg _ _ (fun j j1 j2 => ?_) e2
        obtain ⟨a1, a2⟩ := g3 j (by omega)
        obtain ⟨a3, a4⟩ := f3 j (by omega)
        rw [a1, a2, a3, a4, pk_un (by omega), pk_un (by omega)]
        exact ⟨rfl, rfl⟩
      · simp only [ex_n]
        rw [show o + 1 + (1 + ex_n (ex_E P) + ex_n (ex_E Q)) = o + 1 + 1 + ex_n (ex_E P) + ex_n (ex_E Q) by omega, (g3 (o + 1 + 1 + ex_n (ex_E P) + ex_n (ex_E Q)) (by omega)).1, (f3 (o + 1 + 1 + ex_n (ex_E P) + ex_n (ex_E Q)) (by omega)).1, pk_us]
      · simp only [ex_n]
        rw [show o + 1 + (1 + ex_n (ex_E P) + ex_n (ex_E Q)) + 1 = o + 1 + 1 + ex_n (ex_E P) + ex_n (ex_E Q) + 1 by omega]
        exact ou_cg _ _ (fun j j1 j2 => g3 j (by omega)) f2
      · simp only [ex_n]
        rw [show o + 1 + (1 + ex_n (ex_E P) + ex_n (ex_E Q)) + 1 + ex_n (ex_E Q) = o + 1 + 1 + ex_n (ex_E P) + ex_n (ex_E Q) + 1 + ex_n (ex_E Q) by omega]
        exact g2
      · obtain ⟨a1, a2⟩ := g3 j (by omega)
        obtain ⟨a3, a4⟩ := f3 j (by omega)
        obtain ⟨a5, a6⟩ := e3 j (by omega)
        obtain ⟨a7, a8⟩ := c3 j (by omega)
        rw [a1, a2, a3, a4, pk_un (by omega), pk_un (by omega), a5, a6, a7, a8, pk_un (by omega), pk_un (by omega), pk_un (by omega), pk_un (by omega)]
        exact ⟨rfl, rfl⟩
  | pow A k ih =>
    by_cases h0 : ex_m k * ex_w A = 0
    · exact zero _ h0
    · intro b o fu st wo ww ok ow hS hW hg hbd hB hw h
      obtain ⟨s1, sA⟩ := hS
      obtain ⟨hgb, gA⟩ := hg
      have pA := ex_n_pos A
      rcases s1 with ⟨u1, u2, u3⟩ | ⟨u1, u2⟩ | ⟨u1, u2⟩
      · have e : ex_E (.pow A k) = ex_N (ex_E A) (k % 4) (k / 4) := (if_neg h0).trans (if_pos u1)
        have ew : wo_i (.pow A k) = 1 + wo_t (wo_i A) (k % 4) (k / 4) := (if_neg h0).trans (if_pos u1)
        have hv := hW.2.2 u1
        simp only [ex_n] at hbd
        rw [e] at hB h
        rw [ew, show fu + (1 + wo_t (wo_i A) (k % 4) (k / 4)) = fu + wo_t (wo_i A) (k % 4) (k / 4) + 1 by omega]
        have kb := kind b 8 (by omega) u2
        have wb : ywith (96 + b) = nI k := by rw [(hK b (by omega)).2.2.2.2 (Or.inr u2), u3]
        refine sy_popX (W := ex_w (.pow A k)) (by omega) (by omega) hw hgb (fun q => absurd q h0) (fun _ => br_t (by rw [kb]; rfl) ?_)
        refine sy_times (st := st) (by omega) u1 hv.1 (by omega) wb hw.2.2 (fun wo0 ww0 w0 => ?_)
        have e4 : k % 4 = (k % 4 - 1) + 1 := by omega
        have c := sy_cons (A := A) (b := b) (post := post) ih sA hW.1 gA (by omega) (k % 4 - 1) (k / 4) o fu st wo0 ww0 ok ow (by rw [← e4]; exact hB) (by rw [← e4]; exact w0) (by rw [← e4]; exact h)
        rw [← e4] at c
        exact c
      · subst u1
        have e : ex_E (.pow A 16) = .pow (ex_E A) 16 := (if_neg h0).trans (if_neg (by omega))
        have ew : wo_i (.pow A 16) = 1 + wo_i A := (if_neg h0).trans (if_neg (by omega))
        exact one A (.pow A 16) 4 (by omega) (fun _ ok ow b c1 c2 => by rw [e]; exact ⟨Or.inl ⟨rfl, c1⟩, c2⟩) (fun _ => by rw [e]; rfl) (fun _ => ew) rfl hW.1 ih h0 b o fu st wo ww ok ow u2 sA ⟨hgb, gA⟩ gA hbd hB hw h
      · subst u1
        have e : ex_E (.pow A 17) = .pow (ex_E A) 17 := (if_neg h0).trans (if_neg (by omega))
        have ew : wo_i (.pow A 17) = 1 + wo_i A := (if_neg h0).trans (if_neg (by omega))
        exact one A (.pow A 17) 5 (by omega) (fun _ ok ow b c1 c2 => by rw [e]; exact ⟨Or.inr ⟨rfl, c1⟩, c2⟩) (fun _ => by rw [e]; rfl) (fun _ => ew) rfl hW.1 ih h0 b o fu st wo ww ok ow u2 sA ⟨hgb, gA⟩ gA hbd hB hw h
theorem sy_writeOut {post : SY → Prop} {kd vl : Nat → Nat} {R : ex_T} (hd : ex_n R ≤ 16) (hK : rl_K ykind ywith 96 (ex_n R) kd vl) (hS : ex_S kd vl R 0) (hW : ex_W R) (hw : ex_w R ≤ 30) (hg : wg_P yweight R 0) (h : ∀ (tp : Int32) (wo ww ok ow : Nat → Int32), ou_S ok ow (ex_E R) 0 → post (yplace, yroot, yrowLength, yfirst, nI (ex_n (ex_E R)), tp, ykind, ywith, ysize, ysort, ymany, yuse, ytypeOf, yleast, ygreatest, ylisted, ytypeOfName, yused, yvalued, ygiven, yname, yparent, ychildren, ycount, yrow, yvalue, yattributes, yends, ylack, yshortest, ok, ow, wo, ww, yweight, yfollow, yfirsts, ylasts, ybare, ymet, ynameAt, ytokenAt, ytodo)) : wpY_writeOut post (yplace, yroot, yrowLength, yfirst, youts, ytop, ykind, ywith, ysize, ysort, ymany, yuse, ytypeOf, yleast, ygreatest, ylisted, ytypeOfName, yused, yvalued, ygiven, yname, yparent, ychildren, ycount, yrow, yvalue, yattributes, yends, ylack, yshortest, youtKind, youtWith, ywork, yworkWith, yweight, yfollow, yfirsts, ylasts, ybare, ymet, ynameAt, ytokenAt, ytodo) (nI (ex_n R)) := by
  have hlen : ex_n (ex_E R) ≤ 1440 := by
    rcases Nat.eq_zero_or_pos (ex_w R) with q | q
    · rw [ex_E_0 R q]; simp only [ex_n]; omega
    · have := ex_E_n R hW q
      have h2 : ex_n R * ex_w R ≤ 16 * 30 := Nat.mul_le_mul hd hw
      omega
  unfold wpY_writeOut
  refine sy_later (k := 20) (v := 0) (T := 0) (by omega) (by omega) (by omega) ⟨1 + wo_i R, ?_⟩
  refine sy_woT (d := ex_n R) (kd := kd) (vl := vl) hd hK R 0 0 1 [] _ _ youtKind youtWith hS hW hg (by omega) (by simp only [List.length_nil]; omega) (ws_push (k := 20) (v := 0) (l := []) trivial) (fun wo' ww' ok' ow' _ c2 _ => br_t (by decide) ?_)
  rw [Nat.zero_add]
  exact h _ wo' ww' ok' ow' c2
end
end
section
/-! ===== the reference's fragments ===== -/
def yg_g (ta fo : Nat → Int32) (lo hi : Nat) (F Λ E : Int32) (L : List Nat → Prop) : Prop := gl_F (fun p q => bt (fo p) q = true) (fun p => (ta p).toNatClampNeg) (fun p => lo ≤ p ∧ p < hi) (fun q => bt F q = true) (fun q => bt Λ q = true) (E ≠ 0) L
theorem yg_cg {ta fo ta' fo' : Nat → Int32} {lo hi : Nat} {F Λ E : Int32} {L : List Nat → Prop} (h : yg_g ta fo lo hi F Λ E L) (h1 : ∀ p, lo ≤ p → p < hi → ta' p = ta p ∧ fo' p = fo p) : yg_g ta' fo' lo hi F Λ E L := by
  refine gl_F_cg h (fun p q hp => ?_) (fun p hp => ?_)
  · show bt (fo' p) q = true ↔ bt (fo p) q = true
    rw [(h1 p hp.1 hp.2).2]
  · show (ta' p).toNatClampNeg = (ta p).toNatClampNeg
    rw [(h1 p hp.1 hp.2).1]
theorem yg_L {ta fo : Nat → Int32} {lo hi : Nat} {F Λ E : Int32} {L L' : List Nat → Prop} (h : yg_g ta fo lo hi F Λ E L) (hL : ∀ u, L' u ↔ L u) : yg_g ta fo lo hi F Λ E L' := gl_F_eq h (fun _ => Iff.rfl) (fun _ => Iff.rfl) (fun _ => Iff.rfl) Iff.rfl hL
def yk_f (fo : Nat → Int32) (A B : Int32) (m : Nat) : Nat → Int32 := fun j => if j < m ∧ bt A j = true then fo j ||| B else fo j
theorem yk_0 (fo : Nat → Int32) (A B : Int32) : yk_f fo A B 0 = fo := by
  funext j
  unfold yk_f
  rw [if_neg (by omega)]
theorem yk_t {fo : Nat → Int32} {A B : Int32} {m : Nat} (h : bt A m = true) : upd (yk_f fo A B m) m (yk_f fo A B m m ||| B) = yk_f fo A B (m + 1) := by
  funext j
  unfold upd
  by_cases e : j = m
  · rw [if_pos e, e]
    unfold yk_f
    rw [if_neg (by omega), if_pos ⟨by omega, h⟩]
  · rw [if_neg e]
    unfold yk_f
    by_cases q : j < m ∧ bt A j = true
    · rw [if_pos q, if_pos ⟨by omega, q.2⟩]
    · rw [if_neg q, if_neg (fun q' => q ⟨by omega, q'.2⟩)]
theorem yk_n {fo : Nat → Int32} {A B : Int32} {m : Nat} (h : bt A m = false) : yk_f fo A B m = yk_f fo A B (m + 1) := by
  funext j
  unfold yk_f
  by_cases q : j < m ∧ bt A j = true
  · rw [if_pos q, if_pos ⟨by omega, q.2⟩]
  · rw [if_neg q, if_neg (fun q' => by
      by_cases e : j = m
      · rw [e, h] at q'
        exact absurd q'.2 Bool.false_ne_true
      · exact q ⟨by omega, q'.2⟩)]
theorem yk_I {fo : Nat → Int32} {A B : Int32} {p q : Nat} (hA : ∀ i, bt A i = true → i < 30) : bt (yk_f fo A B 30 p) q = true ↔ bt (fo p) q = true ∨ (bt A p = true ∧ bt B q = true) := by
  unfold yk_f
  by_cases h : p < 30 ∧ bt A p = true
  · rw [if_pos h, bb_orI]
    exact ⟨fun r => r.elim Or.inl (fun r => Or.inr ⟨h.2, r⟩), fun r => r.elim Or.inl (fun r => Or.inr r.2)⟩
  · rw [if_neg h]
    exact ⟨Or.inl, fun r => r.elim id (fun r => absurd ⟨hA p r.1, r.1⟩ h)⟩
theorem yk_out {fo : Nat → Int32} {A B : Int32} {j : Nat} (h : bt A j = false) : yk_f fo A B 30 j = fo j := by
  unfold yk_f
  rw [if_neg (fun q => by rw [h] at q; exact absurd q.2 Bool.false_ne_true)]
theorem yg_seq {ta fo : Nat → Int32} {lo m hi : Nat} {F1 A1 E1 F2 A2 E2 : Int32} {L1 L2 : List Nat → Prop} (g1 : yg_g ta fo lo m F1 A1 E1 L1) (g2 : yg_g ta fo m hi F2 A2 E2 L2) (o1 : lo ≤ m) (o2 : m ≤ hi) (h30 : m ≤ 30) (hne : ∃ u, L2 u) : yg_g ta (yk_f fo A1 F2 30) lo hi (or_e F1 F2 E1) (or_e A2 A1 E2) (an_e E1 E2) (ex_cat L1 L2) :=
  gl_F_eq (gl_seq g1 g2 (fun p r1 r2 => by omega) hne (φ' := fun p q => bt (yk_f fo A1 F2 30 p) q = true) (fun p q => yk_I (fun i r => by have := (g1.2.1 i r).2; omega))) (fun p => by omega) (fun q => or_eI) (fun q => or_eI) (an_eI E1 E2) (fun u => Iff.rfl)
theorem yg_alt {ta fo : Nat → Int32} {lo m hi : Nat} {F1 A1 E1 F2 A2 E2 : Int32} {L1 L2 : List Nat → Prop} (g1 : yg_g ta fo lo m F1 A1 E1 L1) (g2 : yg_g ta fo m hi F2 A2 E2 L2) (o1 : lo ≤ m) (o2 : m ≤ hi) : yg_g ta fo lo hi (F2 ||| F1) (A2 ||| A1) (ow_e E2 E1) (fun u => L1 u ∨ L2 u) :=
  gl_F_eq (gl_alt g1 g2 (fun p r1 r2 => by omega)) (fun p => by omega) (fun q => bb_orI.trans Or.comm) (fun q => bb_orI.trans Or.comm) ((ow_eI E2 E1).trans Or.comm) (fun u => Iff.rfl)
/-- every NAME of the tree is a token with P -/
def ex_Q (P : Nat → Prop) : ex_T → Prop
  | .var i => P i
  | .num _ => True
  | .natCast _ => True
  | .intCast _ => True
  | .neg a => ex_Q P a
  | .add a b => ex_Q P a ∧ ex_Q P b
  | .mul a b => ex_Q P a ∧ ex_Q P b
  | .sub a b => ex_Q P a ∧ ex_Q P b
  | .pow a _ => ex_Q P a
theorem ex_Q_S {kd vl : Nat → Nat} {d : Nat} : ∀ (R : ex_T) (b : Nat), ex_S kd vl R b → b + ex_n R ≤ d → ex_Q (fun i => i < d ∧ kd i = 0) R := by
  intro R
  induction R with
  | var i =>
    intro b hS hb
    obtain ⟨h1, h2⟩ := hS
    simp only [ex_n] at hb
    subst h2
    exact ⟨by omega, h1⟩
  | num i => intro b _ _; trivial
  | natCast i => intro b _ _; trivial
  | intCast i => intro b _ _; trivial
  | neg a ih => intro b hS hb; simp only [ex_n] at hb; exact ih (b + 1) hS.2 (by omega)
  | add x y ihx ihy => intro b hS hb; simp only [ex_n] at hb; exact ⟨ihx (b + 1) hS.2.1 (by omega), ihy (b + 1 + ex_n x) hS.2.2 (by omega)⟩
  | mul x y ihx ihy => intro b hS hb; simp only [ex_n] at hb; exact ⟨ihx (b + 1) hS.2.1 (by omega), ihy (b + 1 + ex_n x) hS.2.2 (by omega)⟩
  | sub x y ihx ihy => intro b hS hb; simp only [ex_n] at hb; exact ⟨ihx (b + 1) hS.2.1 (by omega), ihy (b + 1 + ex_n x) hS.2.2 (by omega)⟩
  | pow a k ih => intro b hS hb; simp only [ex_n] at hb; exact ih (b + 1) hS.2 (by omega)
theorem ex_Q_N {P : Nat → Prop} {a : ex_T} (h : ex_Q P a) : ∀ hi lo, ex_Q P (ex_N a hi lo) := by
  intro hi
  induction hi with
  | zero => intro lo; exact trivial
  | succ hi ih =>
    intro lo
    cases hi with
    | zero =>
      show ex_Q P (if lo = 0 then .neg a else a)
      by_cases q : lo = 0
      · rw [if_pos q]; exact h
      · rw [if_neg q]; exact h
    | succ hi =>
      show ex_Q P (if lo = 0 then .neg (.mul a (ex_N a (hi + 1) (lo - 1))) else .mul a (ex_N a (hi + 1) (lo - 1)))
      by_cases q : lo = 0
      · rw [if_pos q]; exact ⟨h, ih (lo - 1)⟩
      · rw [if_neg q]; exact ⟨h, ih (lo - 1)⟩
theorem ex_Q_E {P : Nat → Prop} : ∀ R : ex_T, ex_Q P R → ex_Q P (ex_E R) := by
  intro R
  by_cases h0 : ex_w R = 0
  · intro _; rw [ex_E_0 R h0]; exact trivial
  · revert h0
    induction R with
    | var i => intro _ h; exact h
    | num i => intro h0; exact absurd rfl h0
    | natCast i => intro h0; exact absurd rfl h0
    | intCast i => intro h0; exact absurd rfl h0
    | neg a ih => intro h0 h; rw [show ex_E (.neg a) = .neg (ex_E a) from if_neg h0]; exact ih h0 h
    | add x y ihx ihy =>
      intro h0 h
      rw [show ex_E (.add x y) = .add (ex_E x) (ex_E y) from if_neg h0]
      refine ⟨?_, ?_⟩
      · by_cases q : ex_w x = 0
        · rw [ex_E_0 x q]; exact trivial
        · exact ihx q h.1
      · by_cases q : ex_w y = 0
        · rw [ex_E_0 y q]; exact trivial
        · exact ihy q h.2
    | mul x y ihx ihy =>
      intro h0 h
      rw [show ex_E (.mul x y) = .mul (ex_E x) (ex_E y) from if_neg h0]
      refine ⟨?_, ?_⟩
      · by_cases q : ex_w x = 0
        · rw [ex_E_0 x q]; exact trivial
        · exact ihx q h.1
      · by_cases q : ex_w y = 0
        · rw [ex_E_0 y q]; exact trivial
        · exact ihy q h.2
    | sub x y ihx ihy =>
      intro h0 h
      rw [show ex_E (.sub x y) = .add (.mul (ex_E x) (ex_E y)) (.mul (ex_E y) (ex_E x)) from if_neg h0]
      have qx : ex_Q P (ex_E x) := by
        by_cases q : ex_w x = 0
        · rw [ex_E_0 x q]; exact trivial
        · exact ihx q h.1
      have qy : ex_Q P (ex_E y) := by
        by_cases q : ex_w y = 0
        · rw [ex_E_0 y q]; exact trivial
        · exact ihy q h.2
      exact ⟨⟨qx, qy⟩, qy, qx⟩
    | pow a k ih =>
      intro h0 h
      have ha : ex_w a ≠ 0 := fun q => h0 (show ex_m k * ex_w a = 0 by rw [q, Nat.mul_zero])
      by_cases u : k < 16
      · rw [show ex_E (.pow a k) = ex_N (ex_E a) (k % 4) (k / 4) from (if_neg h0).trans (if_pos u)]
        exact ex_Q_N (ih ha h) _ _
      · rw [show ex_E (.pow a k) = .pow (ex_E a) k from (if_neg h0).trans (if_neg u)]
        exact ih ha h
theorem ou_ne {ok ow : Nat → Int32} : ∀ (T : ex_T) (b : Nat), ou_S ok ow T b → ∃ u, ex_L id T u := by
  intro T
  induction T with
  | var i => intro b _; exact ⟨_, rfl⟩
  | num i => intro b _; exact ⟨_, rfl⟩
  | natCast i => intro b _; exact ⟨_, rfl⟩
  | intCast i => intro b _; exact ⟨_, rfl⟩
  | neg a ih => intro b _; exact ⟨[], Or.inl rfl⟩
  | add x y ihx ihy => intro b h; obtain ⟨u, hu⟩ := ihx _ h.2.1; exact ⟨u, Or.inl hu⟩
  | mul x y ihx ihy => intro b h; obtain ⟨u, hu⟩ := ihx _ h.2.1; obtain ⟨v, hv⟩ := ihy _ h.2.2; exact ⟨u ++ v, u, v, rfl, hu, hv⟩
  | sub x y ihx ihy => intro b h; exact h.elim
  | pow a k ih =>
    intro b h
    rcases h.1 with ⟨q, _⟩ | ⟨q, _⟩
    · subst q; exact ⟨[], 0, by decide, fun q => by omega, rfl⟩
    · subst q
      obtain ⟨u, hu⟩ := ih _ h.2
      exact ⟨u, 1, by decide, fun q => by omega, ex_pw_one.mpr hu⟩
/-- the fragment f of w positions from P on spells L; the rest as it was -/
def yg_Q (d : Nat) (kd vl : Nat → Nat) (w : Nat) (L : List Nat → Prop) (f P : Nat) (ta nm fi la ba fo ta' nm' fi' la' ba' fo' : Nat → Int32) : Prop := (ba' f = 0 ∨ ba' f = 1) ∧ yg_g ta' fo' P (P + w) (fi' f) (la' f) (ba' f) L ∧ (∀ j, j < f → fi' j = fi j ∧ la' j = la j ∧ ba' j = ba j) ∧ (∀ p, P + w ≤ p → ta' p = ta p ∧ nm' p = nm p ∧ fo' p = fo p) ∧ (∀ p, P ≤ p → p < P + w → ∃ i, i < d ∧ kd i = 0 ∧ ta' p = nI i ∧ nm' p = nI (vl i))
section
variable {yplace yroot yrowLength yfirst youts ytop : Int32} {ykind ywith ysize ysort ymany yuse ytypeOf yleast ygreatest ylisted ytypeOfName yused yvalued ygiven yname yparent ychildren ycount yrow yvalue yattributes yends ylack yshortest youtKind youtWith ywork yworkWith yweight yfollow yfirsts ylasts ybare ymet ynameAt ytokenAt ytodo : Nat → Int32}
theorem sy_con2 {post : SY → Prop} {A B : Int32} (h : post (yplace, yroot, yrowLength, yfirst, youts, ytop, ykind, ywith, ysize, ysort, ymany, yuse, ytypeOf, yleast, ygreatest, ylisted, ytypeOfName, yused, yvalued, ygiven, yname, yparent, ychildren, ycount, yrow, yvalue, yattributes, yends, ylack, yshortest, youtKind, youtWith, ywork, yworkWith, yweight, yk_f yfollow A B 30, yfirsts, ylasts, ybare, ymet, ynameAt, ytokenAt, ytodo)) : ∀ m i, i + m = 30 → wY_connect_2 post A B yplace yroot yrowLength yfirst youts ytop (m + 1) (nI i) ykind ywith ysize ysort ymany yuse ytypeOf yleast ygreatest ylisted ytypeOfName yused yvalued ygiven yname yparent ychildren ycount yrow yvalue yattributes yends ylack yshortest youtKind youtWith ywork yworkWith yweight (yk_f yfollow A B i) yfirsts ylasts ybare ymet ynameAt ytokenAt ytodo := by
  intro m
  induction m with
  | zero =>
    intro i hi
    obtain rfl : i = 30 := by omega
    exact br_t (by decide) h
  | succ m ih =>
    intro i hi
    have ih' := ih (i + 1) (by omega)
    refine br_f (nI_ge (b := 30) (by omega) (by omega)) ?_
    cases hb : bt A i with
    | false =>
      rw [← yk_n hb] at ih'
      exact br_t ((bb_t A (by omega)).mpr hb) (nm_r (nI_1 i) ih')
    | true =>
      rw [← yk_t hb] at ih'
      refine br_f ((bb_t' A (by omega)).mpr hb) ?_
      rw [nb_cl (n := i) (by omega)]
      exact ⟨vp_in_nI (by omega) (by omega), vp_in_nI (by omega) (by omega), nm_e (nm_r (nI_1 i) ih')⟩
theorem sy_connect {post : SY → Prop} {A B : Int32} (h : post (yplace, yroot, yrowLength, yfirst, youts, ytop, ykind, ywith, ysize, ysort, ymany, yuse, ytypeOf, yleast, ygreatest, ylisted, ytypeOfName, yused, yvalued, ygiven, yname, yparent, ychildren, ycount, yrow, yvalue, yattributes, yends, ylack, yshortest, youtKind, youtWith, ywork, yworkWith, yweight, yk_f yfollow A B 30, yfirsts, ylasts, ybare, ymet, ynameAt, ytokenAt, ytodo)) : wpY_connect post (yplace, yroot, yrowLength, yfirst, youts, ytop, ykind, ywith, ysize, ysort, ymany, yuse, ytypeOf, yleast, ygreatest, ylisted, ytypeOfName, yused, yvalued, ygiven, yname, yparent, ychildren, ycount, yrow, yvalue, yattributes, yends, ylack, yshortest, youtKind, youtWith, ywork, yworkWith, yweight, yfollow, yfirsts, ylasts, ybare, ymet, ynameAt, ytokenAt, ytodo) A B := by
  refine ⟨31, ?_⟩
  have t := sy_con2 (A := A) (B := B) h 30 0 (by omega)
  rw [yk_0] at t
  exact t
theorem sy_joinN {post : Int32 → SY → Prop} {p f : Nat} (hf : f < 1000) (h : post (nI (f + 1)) (yplace, yroot, yrowLength, yfirst, youts, ytop, ykind, ywith, ysize, ysort, ymany, yuse, ytypeOf, yleast, ygreatest, ylisted, ytypeOfName, yused, yvalued, ygiven, yname, yparent, ychildren, ycount, yrow, yvalue, yattributes, yends, ylack, yshortest, youtKind, youtWith, ywork, yworkWith, yweight, yfollow, upd yfirsts f ((1 : Int32) <<< (nI p &&& 31)), upd ylasts f ((1 : Int32) <<< (nI p &&& 31)), upd ybare f 0, ymet, ynameAt, ytokenAt, ytodo)) : wpY_join post (yplace, yroot, yrowLength, yfirst, youts, ytop, ykind, ywith, ysize, ysort, ymany, yuse, ytypeOf, yleast, ygreatest, ylisted, ytypeOfName, yused, yvalued, ygiven, yname, yparent, ychildren, ycount, yrow, yvalue, yattributes, yends, ylack, yshortest, youtKind, youtWith, ywork, yworkWith, yweight, yfollow, yfirsts, ylasts, ybare, ymet, ynameAt, ytokenAt, ytodo) (nI 0) (nI p) (nI f) := by
  have vf : vp_in (nI f) 1000 := vp_in_nI hf (by omega)
  have cf : (nI f).toNatClampNeg = f := nb_cl (by omega)
  refine nm_e (br_f (by decide) (br_f (by decide) (br_t rfl ?_)))
  unfold wY_join_48
  refine br_t rfl ?_
  unfold wY_join_64
  rw [nI_1 f]
  refine ⟨vf, nm_r (e' := upd yfirsts f ((1 : Int32) <<< (nI p &&& 31))) (by rw [cf]) ⟨vf, vf, nm_r (e' := upd ylasts f ((1 : Int32) <<< (nI p &&& 31))) (by rw [cf, pk_us]) (br_f (by decide) ⟨vf, nm_r (e' := upd ybare f 0) (by rw [cf, nb_b0]) h⟩)⟩⟩
theorem sy_joinE {post : Int32 → SY → Prop} {f : Nat} {x2 : Int32} (hf : f < 1000) (h : post (nI (f + 1)) (yplace, yroot, yrowLength, yfirst, youts, ytop, ykind, ywith, ysize, ysort, ymany, yuse, ytypeOf, yleast, ygreatest, ylisted, ytypeOfName, yused, yvalued, ygiven, yname, yparent, ychildren, ycount, yrow, yvalue, yattributes, yends, ylack, yshortest, youtKind, youtWith, ywork, yworkWith, yweight, yfollow, upd yfirsts f 0, upd ylasts f 0, upd ybare f 1, ymet, ynameAt, ytokenAt, ytodo)) : wpY_join post (yplace, yroot, yrowLength, yfirst, youts, ytop, ykind, ywith, ysize, ysort, ymany, yuse, ytypeOf, yleast, ygreatest, ylisted, ytypeOfName, yused, yvalued, ygiven, yname, yparent, ychildren, ycount, yrow, yvalue, yattributes, yends, ylack, yshortest, youtKind, youtWith, ywork, yworkWith, yweight, yfollow, yfirsts, ylasts, ybare, ymet, ynameAt, ytokenAt, ytodo) (nI 6) x2 (nI f) := by
  have vf : vp_in (nI f) 1000 := vp_in_nI hf (by omega)
  have cf : (nI f).toNatClampNeg = f := nb_cl (by omega)
  refine nm_e (br_f (by decide) (br_f (by decide) (br_f (by decide) (br_f (by decide) (br_f (by decide) (br_f (by decide) (br_f (by decide) (br_f (by decide) (br_t rfl ?_)))))))))
  unfold wY_join_48
  refine br_f (by decide) ?_
  unfold wY_join_64
  rw [nI_1 f]
  refine ⟨vf, nm_r (e' := upd yfirsts f 0) (by rw [cf]) ⟨vf, vf, nm_r (e' := upd ylasts f 0) (by rw [cf, pk_us]) (br_t rfl ⟨vf, nm_r (e' := upd ybare f 1) (by rw [cf, nb_b1]) h⟩)⟩⟩
theorem sy_join3 {post : Int32 → SY → Prop} {f : Nat} {x2 : Int32} (hf : f < 1000) (h : post (nI (f + 1)) (yplace, yroot, yrowLength, yfirst, youts, ytop, ykind, ywith, ysize, ysort, ymany, yuse, ytypeOf, yleast, ygreatest, ylisted, ytypeOfName, yused, yvalued, ygiven, yname, yparent, ychildren, ycount, yrow, yvalue, yattributes, yends, ylack, yshortest, youtKind, youtWith, ywork, yworkWith, yweight, yfollow, yfirsts, ylasts, upd ybare f 1, ymet, ynameAt, ytokenAt, ytodo)) : wpY_join post (yplace, yroot, yrowLength, yfirst, youts, ytop, ykind, ywith, ysize, ysort, ymany, yuse, ytypeOf, yleast, ygreatest, ylisted, ytypeOfName, yused, yvalued, ygiven, yname, yparent, ychildren, ycount, yrow, yvalue, yattributes, yends, ylack, yshortest, youtKind, youtWith, ywork, yworkWith, yweight, yfollow, yfirsts, ylasts, ybare, ymet, ynameAt, ytokenAt, ytodo) (nI 3) x2 (nI (f + 1)) := by
  have vf : vp_in (nI f) 1000 := vp_in_nI hf (by omega)
  have cf : (nI f).toNatClampNeg = f := nb_cl (by omega)
  exact nm_r (e' := nI f) (nb_s1 (by omega)) (br_f (by decide) (br_f (by decide) (br_f (by decide) (br_f (by decide) (br_f (by decide) (br_t rfl ⟨vf, nm_r (e' := upd ybare f 1) (by rw [cf, nb_b1]) h⟩))))))
theorem sy_join4 {post : Int32 → SY → Prop} {f : Nat} {x2 : Int32} (hf : f < 1000) (he : ybare f = 0 ∨ ybare f = 1) (h : post (nI (f + 1)) (yplace, yroot, yrowLength, yfirst, youts, ytop, ykind, ywith, ysize, ysort, ymany, yuse, ytypeOf, yleast, ygreatest, ylisted, ytypeOfName, yused, yvalued, ygiven, yname, yparent, ychildren, ycount, yrow, yvalue, yattributes, yends, ylack, yshortest, youtKind, youtWith, ywork, yworkWith, yweight, yk_f yfollow (ylasts f) (yfirsts f) 30, yfirsts, ylasts, upd ybare f 1, ymet, ynameAt, ytokenAt, ytodo)) : wpY_join post (yplace, yroot, yrowLength, yfirst, youts, ytop, ykind, ywith, ysize, ysort, ymany, yuse, ytypeOf, yleast, ygreatest, ylisted, ytypeOfName, yused, yvalued, ygiven, yname, yparent, ychildren, ycount, yrow, yvalue, yattributes, yends, ylack, yshortest, youtKind, youtWith, ywork, yworkWith, yweight, yfollow, yfirsts, ylasts, ybare, ymet, ynameAt, ytokenAt, ytodo) (nI 4) x2 (nI (f + 1)) := by
  have vf : vp_in (nI f) 1000 := vp_in_nI hf (by omega)
  have cf : (nI f).toNatClampNeg = f := nb_cl (by omega)
  refine nm_r (e' := nI f) (nb_s1 (by omega)) (br_f (by decide) (br_f (by decide) (br_f (by decide) (br_f (by decide) (br_f (by decide) (br_f (by decide) (br_t rfl ?_)))))))
  unfold wY_join_108
  rw [cf]
  refine ⟨vf, vf, sy_connect ⟨vf, br_t rfl ⟨vf, nm_r (e' := upd ybare f 1) (by rcases he with q | q <;> rw [q] <;> rfl) h⟩⟩⟩
theorem sy_join5 {post : Int32 → SY → Prop} {f : Nat} {x2 : Int32} (hf : f < 1000) (he : ybare f = 0 ∨ ybare f = 1) (h : post (nI (f + 1)) (yplace, yroot, yrowLength, yfirst, youts, ytop, ykind, ywith, ysize, ysort, ymany, yuse, ytypeOf, yleast, ygreatest, ylisted, ytypeOfName, yused, yvalued, ygiven, yname, yparent, ychildren, ycount, yrow, yvalue, yattributes, yends, ylack, yshortest, youtKind, youtWith, ywork, yworkWith, yweight, yk_f yfollow (ylasts f) (yfirsts f) 30, yfirsts, ylasts, ybare, ymet, ynameAt, ytokenAt, ytodo)) : wpY_join post (yplace, yroot, yrowLength, yfirst, youts, ytop, ykind, ywith, ysize, ysort, ymany, yuse, ytypeOf, yleast, ygreatest, ylisted, ytypeOfName, yused, yvalued, ygiven, yname, yparent, ychildren, ycount, yrow, yvalue, yattributes, yends, ylack, yshortest, youtKind, youtWith, ywork, yworkWith, yweight, yfollow, yfirsts, ylasts, ybare, ymet, ynameAt, ytokenAt, ytodo) (nI 5) x2 (nI (f + 1)) := by
  have vf : vp_in (nI f) 1000 := vp_in_nI hf (by omega)
  have cf : (nI f).toNatClampNeg = f := nb_cl (by omega)
  refine nm_r (e' := nI f) (nb_s1 (by omega)) (br_f (by decide) (br_f (by decide) (br_f (by decide) (br_f (by decide) (br_f (by decide) (br_f (by decide) (br_f (by decide) (br_t rfl ?_))))))))
  unfold wY_join_108
  rw [cf]
  have e : vp_nar .boolean (ybare f ||| 0) = ybare f := by rcases he with q | q <;> rw [q] <;> rfl
  refine ⟨vf, vf, sy_connect ⟨vf, br_f (by decide) ⟨vf, nm_r (e' := ybare) (by rw [e, kp_id]) h⟩⟩⟩
theorem sy_join2 {post : Int32 → SY → Prop} {f : Nat} {x2 : Int32} (hf : f + 1 < 1000) (he : ybare f = 0 ∨ ybare f = 1) (he' : ybare (f + 1) = 0 ∨ ybare (f + 1) = 1) (h : post (nI (f + 1)) (yplace, yroot, yrowLength, yfirst, youts, ytop, ykind, ywith, ysize, ysort, ymany, yuse, ytypeOf, yleast, ygreatest, ylisted, ytypeOfName, yused, yvalued, ygiven, yname, yparent, ychildren, ycount, yrow, yvalue, yattributes, yends, ylack, yshortest, youtKind, youtWith, ywork, yworkWith, yweight, yfollow, upd yfirsts f (yfirsts f ||| yfirsts (f + 1)), upd ylasts f (ylasts f ||| ylasts (f + 1)), upd ybare f (ow_e (ybare f) (ybare (f + 1))), ymet, ynameAt, ytokenAt, ytodo)) : wpY_join post (yplace, yroot, yrowLength, yfirst, youts, ytop, ykind, ywith, ysize, ysort, ymany, yuse, ytypeOf, yleast, ygreatest, ylisted, ytypeOfName, yused, yvalued, ygiven, yname, yparent, ychildren, ycount, yrow, yvalue, yattributes, yends, ylack, yshortest, youtKind, youtWith, ywork, yworkWith, yweight, yfollow, yfirsts, ylasts, ybare, ymet, ynameAt, ytokenAt, ytodo) (nI 2) x2 (nI (f + 2)) := by
  have vf : vp_in (nI f) 1000 := vp_in_nI (by omega) (by omega)
  have vg : vp_in (nI (f + 1)) 1000 := vp_in_nI (by omega) (by omega)
  have cf : (nI f).toNatClampNeg = f := nb_cl (by omega)
  have cg : (nI (f + 1)).toNatClampNeg = f + 1 := nb_cl (by omega)
  have s : nI (f + 1) - 1 = nI f := nb_s1 (by omega)
  refine nm_r (e' := nI (f + 1)) (nb_s1 (by omega)) (br_f (by decide) (br_f (by decide) (br_f (by decide) (br_f (by decide) (br_t rfl ?_)))))
  rw [s, cf, cg]
  have e : vp_nar .boolean (ybare f ||| ybare (f + 1)) = ow_e (ybare f) (ybare (f + 1)) := by rcases he with q | q <;> rcases he' with q' | q' <;> rw [q, q'] <;> rfl
  exact ⟨vf, vg, vf, nm_e ⟨vf, vg, vf, nm_e ⟨vf, vg, vf, nm_r (e' := upd ybare f (ow_e (ybare f) (ybare (f + 1)))) (by rw [e]) h⟩⟩⟩
theorem sy_join1 {post : Int32 → SY → Prop} {f : Nat} {x2 : Int32} (hf : f + 1 < 1000) (he : ybare f = 0 ∨ ybare f = 1) (he' : ybare (f + 1) = 0 ∨ ybare (f + 1) = 1) (h : post (nI (f + 1)) (yplace, yroot, yrowLength, yfirst, youts, ytop, ykind, ywith, ysize, ysort, ymany, yuse, ytypeOf, yleast, ygreatest, ylisted, ytypeOfName, yused, yvalued, ygiven, yname, yparent, ychildren, ycount, yrow, yvalue, yattributes, yends, ylack, yshortest, youtKind, youtWith, ywork, yworkWith, yweight, yk_f yfollow (ylasts (f + 1)) (yfirsts f) 30, upd yfirsts f (or_e (yfirsts (f + 1)) (yfirsts f) (ybare (f + 1))), upd ylasts f (or_e (ylasts f) (ylasts (f + 1)) (ybare f)), upd ybare f (an_e (ybare (f + 1)) (ybare f)), ymet, ynameAt, ytokenAt, ytodo)) : wpY_join post (yplace, yroot, yrowLength, yfirst, youts, ytop, ykind, ywith, ysize, ysort, ymany, yuse, ytypeOf, yleast, ygreatest, ylisted, ytypeOfName, yused, yvalued, ygiven, yname, yparent, ychildren, ycount, yrow, yvalue, yattributes, yends, ylack, yshortest, youtKind, youtWith, ywork, yworkWith, yweight, yfollow, yfirsts, ylasts, ybare, ymet, ynameAt, ytokenAt, ytodo) (nI 1) x2 (nI (f + 2)) := by
  have vf : vp_in (nI f) 1000 := vp_in_nI (by omega) (by omega)
  have vg : vp_in (nI (f + 1)) 1000 := vp_in_nI (by omega) (by omega)
  have cf : (nI f).toNatClampNeg = f := nb_cl (by omega)
  have cg : (nI (f + 1)).toNatClampNeg = f + 1 := nb_cl (by omega)
  have s : nI (f + 1) - 1 = nI f := nb_s1 (by omega)
  refine nm_r (e' := nI (f + 1)) (nb_s1 (by omega)) (br_f (by decide) (br_f (by decide) (br_f (by decide) (br_t rfl ?_))))
  unfold wY_join_208
  rw [s, cf, cg]
  have e : vp_nar .boolean (ybare f &&& ybare (f + 1)) = an_e (ybare (f + 1)) (ybare f) := by rcases he with q | q <;> rcases he' with q' | q' <;> rw [q, q'] <;> rfl
  have t294 : ∀ B A : Int32, B = or_e (yfirsts (f + 1)) (yfirsts f) (ybare (f + 1)) → ylasts f ||| A = or_e (ylasts f) (ylasts (f + 1)) (ybare f) → wY_join_294 post (nI (f + 1)) B A (ylasts f) (nI f) yplace yroot yrowLength yfirst youts ytop ykind ywith ysize ysort ymany yuse ytypeOf yleast ygreatest ylisted ytypeOfName yused yvalued ygiven yname yparent ychildren ycount yrow yvalue yattributes yends ylack yshortest youtKind youtWith ywork yworkWith yweight (yk_f yfollow (ylasts (f + 1)) (yfirsts f) 30) yfirsts ylasts ybare ymet ynameAt ytokenAt ytodo := by
    intro B A hB hA
    unfold wY_join_294
    rw [s, cf, cg, hA, hB]
    exact ⟨vf, nm_e ⟨vf, nm_e ⟨vf, vg, vf, nm_r (e' := upd ybare f (an_e (ybare (f + 1)) (ybare f))) (by rw [e]) h⟩⟩⟩
  have t258 : ∀ Z : Int32, yfirsts (f + 1) ||| Z = or_e (yfirsts (f + 1)) (yfirsts f) (ybare (f + 1)) → wY_join_258 post (nI (f + 1)) Z (yfirsts (f + 1)) yplace yroot yrowLength yfirst youts ytop ykind ywith ysize ysort ymany yuse ytypeOf yleast ygreatest ylisted ytypeOfName yused yvalued ygiven yname yparent ychildren ycount yrow yvalue yattributes yends ylack yshortest youtKind youtWith ywork yworkWith yweight (yk_f yfollow (ylasts (f + 1)) (yfirsts f) 30) yfirsts ylasts ybare ymet ynameAt ytokenAt ytodo := by
    intro Z hZ
    unfold wY_join_258
    rw [s, cf, cg]
    refine nm_e ⟨vf, vf, ?_⟩
    by_cases q : ybare f = 0
    · exact br_t q (t294 _ _ hZ (by unfold or_e; rw [if_pos q]))
    · exact br_f q ⟨vg, t294 _ _ hZ (by unfold or_e; rw [if_neg q])⟩
  refine ⟨vg, vf, sy_connect ⟨vg, vg, ?_⟩⟩
  by_cases q : ybare (f + 1) = 0
  · exact br_t q (t258 _ (by unfold or_e; rw [if_pos q]))
  · exact br_f q ⟨vf, t258 _ (by unfold or_e; rw [if_neg q])⟩
end
end
section
/-! ===== the reference's automaton, over the tree ===== -/
section
variable {yplace yroot yrowLength yfirst youts ytop : Int32} {ykind ywith ysize ysort ymany yuse ytypeOf yleast ygreatest ylisted ytypeOfName yused yvalued ygiven yname yparent ychildren ycount yrow yvalue yattributes yends ylack yshortest youtKind youtWith ywork yworkWith yweight yfollow yfirsts ylasts ybare ymet ynameAt ytokenAt ytodo : Nat → Int32}
/-- an operator: what is before its join -/
theorem sy_amO {post : Int32 → SY → Prop} {x1 x2 x3 : Int32} {kk b fu : Nat} (hk : 0 < kk) (hk9 : kk < 9) (hb : b < 8000) (ho : youtKind b = nI kk) (h : wpY_join (fun r u => match u with | (yplace, yroot, yrowLength, yfirst, youts, ytop, ykind, ywith, ysize, ysort, ymany, yuse, ytypeOf, yleast, ygreatest, ylisted, ytypeOfName, yused, yvalued, ygiven, yname, yparent, ychildren, ycount, yrow, yvalue, yattributes, yends, ylack, yshortest, youtKind, youtWith, ywork, yworkWith, yweight, yfollow, yfirsts, ylasts, ybare, ymet, ynameAt, ytokenAt, ytodo) => ∀ x, x = nI b + (-1) → wY_ambiguous_42 post x1 fu x2 r x yplace yroot yrowLength yfirst youts ytop ykind ywith ysize ysort ymany yuse ytypeOf yleast ygreatest ylisted ytypeOfName yused yvalued ygiven yname yparent ychildren ycount yrow yvalue yattributes yends ylack yshortest youtKind youtWith ywork yworkWith yweight yfollow yfirsts ylasts ybare ymet ynameAt ytokenAt ytodo) (yplace, yroot, yrowLength, yfirst, youts, ytop, ykind, ywith, ysize, ysort, ymany, yuse, ytypeOf, yleast, ygreatest, ylisted, ytypeOfName, yused, yvalued, ygiven, yname, yparent, ychildren, ycount, yrow, yvalue, yattributes, yends, ylack, yshortest, youtKind, youtWith, ywork, yworkWith, yweight, yfollow, yfirsts, ylasts, ybare, ymet, ynameAt, ytokenAt, ytodo) (nI kk) x2 x3) : wY_ambiguous_42 post x1 (fu + 1) x2 x3 (nI (b + 1) + (-1)) yplace yroot yrowLength yfirst youts ytop ykind ywith ysize ysort ymany yuse ytypeOf yleast ygreatest ylisted ytypeOfName yused yvalued ygiven yname yparent ychildren ycount yrow yvalue yattributes yends ylack yshortest youtKind youtWith ywork yworkWith yweight yfollow yfirsts ylasts ybare ymet ynameAt ytokenAt ytodo := by
  have cb : (nI b).toNatClampNeg = b := nb_cl (by omega)
  have vb : vp_in (nI b) 8000 := vp_in_nI hb (by omega)
  rw [nb_a1]
  refine br_f (nI_pos (by omega)) ⟨vb, ?_⟩
  rw [cb, ho]
  refine br_f (nI_ne0 hk (by omega)) ⟨vb, ?_⟩
  rw [cb, ho]
  exact h
theorem sy_amT {post : Int32 → SY → Prop} {x1 : Int32} {d : Nat} {kd vl : Nat → Nat} (hd : d ≤ 16) (hK : rl_K ykind ywith 96 d kd vl) : ∀ T : ex_T, (∀ (b f P fu : Nat) (ta nm fi la ba fo : Nat → Int32), ou_S youtKind youtWith T b → ex_Q (fun i => i < d ∧ kd i = 0) T → b + ex_n T ≤ 8000 → f + ex_l T ≤ 1000 → P + ex_w T ≤ 30 → (∀ ta' nm' fi' la' ba' fo' : Nat → Int32, yg_Q d kd vl (ex_w T) (ex_L id T) f P ta nm fi la ba fo ta' nm' fi' la' ba' fo' → wY_ambiguous_42 post x1 fu (nI P) (nI (f + 1)) (nI b + (-1)) yplace yroot yrowLength yfirst youts ytop ykind ywith ysize ysort ymany yuse ytypeOf yleast ygreatest ylisted ytypeOfName yused yvalued ygiven yname yparent ychildren ycount yrow yvalue yattributes yends ylack yshortest youtKind youtWith ywork yworkWith yweight fo' fi' la' ba' ymet nm' ta' ytodo) → wY_ambiguous_42 post x1 (fu + ex_n T) (nI (P + ex_w T)) (nI f) (nI (b + ex_n T) + (-1)) yplace yroot yrowLength yfirst youts ytop ykind ywith ysize ysort ymany yuse ytypeOf yleast ygreatest ylisted ytypeOfName yused yvalued ygiven yname yparent ychildren ycount yrow yvalue yattributes yends ylack yshortest youtKind youtWith ywork yworkWith yweight fo fi la ba ymet nm ta ytodo) := by
  have two : ∀ (A B : ex_T) (L : List Nat → Prop) (kk : Nat), (kk = 1 ∨ kk = 2) → (∀ u, L u ↔ (kk = 1 ∧ ex_cat (ex_L id A) (ex_L id B) u) ∨ (kk = 2 ∧ (ex_L id A u ∨ ex_L id B u))) → (∀ (b f P fu : Nat) (ta nm fi la ba fo : Nat → Int32), ou_S youtKind youtWith A b → ex_Q (fun i => i < d ∧ kd i = 0) A → b + ex_n A ≤ 8000 → f + ex_l A ≤ 1000 → P + ex_w A ≤ 30 → (∀ ta' nm' fi' la' ba' fo' : Nat → Int32, yg_Q d kd vl (ex_w A) (ex_L id A) f P ta nm fi la ba fo ta' nm' fi' la' ba' fo' → wY_ambiguous_42 post x1 fu (nI P) (nI (f + 1)) (nI b + (-1)) yplace yroot yrowLength yfirst youts ytop ykind ywith ysize ysort ymany yuse ytypeOf yleast ygreatest ylisted ytypeOfName yused yvalued ygiven yname yparent ychildren ycount yrow yvalue yattributes yends ylack yshortest youtKind youtWith ywork yworkWith yweight fo' fi' la' ba' ymet nm' ta' ytodo) → wY_ambiguous_42 post x1 (fu + ex_n A) (nI (P + ex_w A)) (nI f) (nI (b + ex_n A) + (-1)) yplace yroot yrowLength yfirst youts ytop ykind ywith ysize ysort ymany yuse ytypeOf yleast ygreatest ylisted ytypeOfName yused yvalued ygiven yname yparent ychildren ycount yrow yvalue yattributes yends ylack yshortest youtKind youtWith ywork yworkWith yweight fo fi la ba ymet nm ta ytodo) → (∀ (b f P fu : Nat) (ta nm fi la ba fo : Nat → Int32), ou_S youtKind youtWith B b → ex_Q (fun i => i < d ∧ kd i = 0) B → b + ex_n B ≤ 8000 → f + ex_l B ≤ 1000 → P + ex_w B ≤ 30 → (∀ ta' nm' fi' la' ba' fo' : Nat → Int32, yg_Q d kd vl (ex_w B) (ex_L id B) f P ta nm fi la ba fo ta' nm' fi' la' ba' fo' → wY_ambiguous_42 post x1 fu (nI P) (nI (f + 1)) (nI b + (-1)) yplace yroot yrowLength yfirst youts ytop ykind ywith ysize ysort ymany yuse ytypeOf yleast ygreatest ylisted ytypeOfName yused yvalued ygiven yname yparent ychildren ycount yrow yvalue yattributes yends ylack yshortest youtKind youtWith ywork yworkWith yweight fo' fi' la' ba' ymet nm' ta' ytodo) → wY_ambiguous_42 post x1 (fu + ex_n B) (nI (P + ex_w B)) (nI f) (nI (b + ex_n B) + (-1)) yplace yroot yrowLength yfirst youts ytop ykind ywith ysize ysort ymany yuse ytypeOf yleast ygreatest ylisted ytypeOfName yused yvalued ygiven yname yparent ychildren ycount yrow yvalue yattributes yends ylack yshortest youtKind youtWith ywork yworkWith yweight fo fi la ba ymet nm ta ytodo) →
      ∀ (b f P fu : Nat) (ta nm fi la ba fo : Nat → Int32), youtKind b = nI kk → ou_S youtKind youtWith A (b + 1) → ou_S youtKind youtWith B (b + 1 + ex_n A) → ex_Q (fun i => i < d ∧ kd i = 0) A → ex_Q (fun i => i < d ∧ kd i = 0) B → b + (1 + ex_n A + ex_n B) ≤ 8000 → f + (ex_l A + ex_l B) ≤ 1000 → P + (ex_w A + ex_w B) ≤ 30 → (∀ ta' nm' fi' la' ba' fo' : Nat → Int32, yg_Q d kd vl (ex_w A + ex_w B) L f P ta nm fi la ba fo ta' nm' fi' la' ba' fo' → wY_ambiguous_42 post x1 fu (nI P) (nI (f + 1)) (nI b + (-1)) yplace yroot yrowLength yfirst youts ytop ykind ywith ysize ysort ymany yuse ytypeOf yleast ygreatest ylisted ytypeOfName yused yvalued ygiven yname yparent ychildren ycount yrow yvalue yattributes yends ylack yshortest youtKind youtWith ywork yworkWith yweight fo' fi' la' ba' ymet nm' ta' ytodo) → wY_ambiguous_42 post x1 (fu + (1 + ex_n A + ex_n B)) (nI (P + (ex_w A + ex_w B))) (nI f) (nI (b + (1 + ex_n A + ex_n B)) + (-1)) yplace yroot yrowLength yfirst youts ytop ykind ywith ysize ysort ymany yuse ytypeOf yleast ygreatest ylisted ytypeOfName yused yvalued ygiven yname yparent ychildren ycount yrow yvalue yattributes yends ylack yshortest youtKind youtWith ywork yworkWith yweight fo fi la ba ymet nm ta ytodo := by
    intro A B L kk hkk hL ihA ihB b f P fu ta nm fi la ba fo hkb hSA hSB hQA hQB hb hf h30 h
    have pA := ex_n_pos A
    have pB := ex_n_pos B
    have lA := ex_l_pos A
    have lB := ex_l_pos B
    rw [show fu + (1 + ex_n A + ex_n B) = fu + 1 + ex_n A + ex_n B by omega, show b + (1 + ex_n A + ex_n B) = b + 1 + ex_n A + ex_n B by omega, show P + (ex_w A + ex_w B) = P + ex_w A + ex_w B by omega]
    refine ihB (b + 1 + ex_n A) f (P + ex_w A) (fu + 1 + ex_n A) ta nm fi la ba fo hSB hQB (by omega) (by omega) (by omega) (fun ta1 nm1 fi1 la1 ba1 fo1 Q1 => ?_)
    obtain ⟨q1, q2, q3, q4, q5⟩ := Q1
    refine ihA (b + 1) (f + 1) P (fu + 1) ta1 nm1 fi1 la1 ba1 fo1 hSA hQA (by omega) (by omega) (by omega) (fun ta2 nm2 fi2 la2 ba2 fo2 Q2 => ?_)
    obtain ⟨r1, r2, r3, r4, r5⟩ := Q2
    obtain ⟨a1, a2, a3⟩ := r3 f (by omega)
    have g2 : yg_g ta2 fo2 (P + ex_w A) (P + (ex_w A + ex_w B)) (fi2 f) (la2 f) (ba2 f) (ex_L id B) := by
      rw [a1, a2, a3, show P + (ex_w A + ex_w B) = P + ex_w A + ex_w B by omega]
      exact yg_cg q2 (fun p p1 p2 => ⟨(r4 p p1).1, (r4 p p1).2.2⟩)
    have e2 : ba2 f = 0 ∨ ba2 f = 1 := by rw [a3]; exact q1
    have low : ∀ j, j < f → fi2 j = fi j ∧ la2 j = la j ∧ ba2 j = ba j := fun j hj => by
      obtain ⟨c1, c2, c3⟩ := r3 j (by omega)
      rw [c1, c2, c3]
      exact q3 j hj
    have high : ∀ p, P + (ex_w A + ex_w B) ≤ p → ta2 p = ta p ∧ nm2 p = nm p ∧ fo2 p = fo p := fun p hp => by
      obtain ⟨c1, c2, c3⟩ := r4 p (by omega)
      rw [c1, c2, c3]
      exact q4 p (by omega)
    have tok : ∀ p, P ≤ p → p < P + (ex_w A + ex_w B) → ∃ i, i < d ∧ kd i = 0 ∧ ta2 p = nI i ∧ nm2 p = nI (vl i) := fun p p1 p2 => by
      by_cases q : p < P + ex_w A
      · exact r5 p p1 q
      · obtain ⟨c1, c2, c3⟩ := r4 p (by omega)
        rw [c1, c2]
        exact q5 p (by omega) (by omega)
    refine sy_amO (kk := kk) (by omega) (by omega) (by omega) hkb ?_
    rcases hkk with rfl | rfl
    · refine sy_join1 (by omega) e2 r1 (nm_e (h _ _ _ _ _ _ ⟨?_, ?_, fun j hj => ?_, fun p hp => ?_, tok⟩))
      · rw [pk_us]; exact an_01 _ _
      · rw [pk_us, pk_us, pk_us]
        refine yg_L (yg_seq r2 g2 (by omega) (by omega) (by omega) (ou_ne B _ hSB)) (fun u => (hL u).trans ⟨fun q => q.elim (fun q => q.2) (fun q => absurd q.1 (by omega)), fun q => Or.inl ⟨rfl, q⟩⟩)
      · rw [pk_un (by omega), pk_un (by omega), pk_un (by omega)]; exact low j hj
      · obtain ⟨c1, c2, c3⟩ := high p hp
        refine ⟨c1, c2, ?_⟩
        rw [yk_out, c3]
        cases hv : bt (la2 (f + 1)) p with
        | false => rfl
        | true => have := r2.2.1 p hv; omega
    · refine sy_join2 (by omega) e2 r1 (nm_e (h _ _ _ _ _ _ ⟨?_, ?_, fun j hj => ?_, high, tok⟩))
      · rw [pk_us]; exact ow_01 _ _
      · rw [pk_us, pk_us, pk_us]
        exact yg_L (yg_alt r2 g2 (by omega) (by omega)) (fun u => (hL u).trans ⟨fun q => q.elim (fun q => absurd q.1 (by omega)) (fun q => q.2), fun q => Or.inr ⟨rfl, q⟩⟩)
      · rw [pk_un (by omega), pk_un (by omega), pk_un (by omega)]; exact low j hj
  intro T
  induction T with
  | natCast k => intro b f P fu ta nm fi la ba fo hS; exact hS.elim
  | intCast k => intro b f P fu ta nm fi la ba fo hS; exact hS.elim
  | sub A B _ _ => intro b f P fu ta nm fi la ba fo hS; exact hS.elim
  | num k =>
    intro b f P fu ta nm fi la ba fo hS hQ hb hf h30 h
    simp only [ex_n, ex_l, ex_w, Nat.add_zero] at hb hf h30 h ⊢
    refine sy_amO (kk := 6) (by omega) (by omega) (by omega) hS ?_
    refine sy_joinE (by omega) (nm_e (h _ _ _ _ _ _ ⟨by rw [pk_us]; exact Or.inr rfl, ?_, fun j hj => ?_, fun p _ => ⟨rfl, rfl, rfl⟩, fun p p1 p2 => by omega⟩))
    · rw [pk_us, pk_us, pk_us]
      exact gl_F_eq gl_none (fun p => ⟨fun q => by omega, fun q => q.elim⟩) (fun p => by rw [b_0]; exact ⟨fun q => absurd q Bool.false_ne_true, fun q => q.elim⟩) (fun p => by rw [b_0]; exact ⟨fun q => absurd q Bool.false_ne_true, fun q => q.elim⟩) ⟨fun _ => trivial, fun _ => nb_10⟩ (fun u => Iff.rfl)
    · rw [pk_un (by omega), pk_un (by omega), pk_un (by omega)]; exact ⟨rfl, rfl, rfl⟩
  | var i =>
    intro b f P fu ta nm fi la ba fo hS hQ hb hf h30 h
    simp only [ex_n, ex_l, ex_w] at hb hf h30 h ⊢
    obtain ⟨o1, o2⟩ := hS
    obtain ⟨id', ki⟩ := hQ
    obtain ⟨_, _, v6, _, wv⟩ := hK i id'
    have v6' := v6 ki
    have cb : (nI b).toNatClampNeg = b := nb_cl (by omega)
    have vb : vp_in (nI b) 8000 := vp_in_nI (by omega) (by omega)
    have vP : vp_in (nI P) 30 := vp_in_nI (by omega) (by omega)
    have cP : (nI P).toNatClampNeg = P := nb_cl (by omega)
    rw [nb_a1]
    refine br_f (nI_pos (by omega)) ⟨vb, ?_⟩
    rw [cb, o1, o2, show (96 : Int32) + nI i = nI (96 + i) from nI_add 96 i, nb_cl (n := 96 + i) (by omega), wv (Or.inl ki)]
    refine br_t rfl (nm_r (e' := nI P) (nb_a1 P) ⟨vP, nm_r (e' := upd fo P 0) (by rw [cP]) ⟨vb, vP, nm_r (e' := upd ta P (nI i)) (by rw [cP, nb_vb (by omega)]) ⟨vb, vp_in_nI (by omega) (by omega), vP, nm_r (e' := upd nm P (nI (vl i))) (by rw [cP, nb_vb (by omega)]) ⟨vb, ?_⟩⟩⟩⟩)
    rw [cb, o1]
    refine sy_joinN (by omega) (nm_e (h _ _ _ _ _ _ ⟨by rw [pk_us]; exact Or.inl rfl, ?_, fun j hj => ?_, fun p hp => ?_, fun p p1 p2 => ?_⟩))
    · rw [pk_us, pk_us, pk_us]
      have g := gl_leaf (φ := fun p q => bt (upd fo P 0 p) q = true) (tk := fun p => (upd ta P (nI i) p).toNatClampNeg) (p := P) (fun q => by show ¬ bt (upd fo P 0 P) q = true; rw [pk_us, b_0]; exact Bool.false_ne_true)
      refine gl_F_eq g (fun p => by omega) (fun p => bb_sI (by omega)) (fun p => bb_sI (by omega)) ⟨fun q => absurd rfl q, fun q => q.elim⟩ (fun u => ?_)
      show u = [id i] ↔ u = [(upd ta P (nI i) P).toNatClampNeg]
      rw [pk_us, nb_cl (by omega)]
      exact Iff.rfl
    · rw [pk_un (by omega), pk_un (by omega), pk_un (by omega)]; exact ⟨rfl, rfl, rfl⟩
    · rw [pk_un (by omega), pk_un (by omega), pk_un (by omega)]; exact ⟨rfl, rfl, rfl⟩
    · obtain rfl : p = P := by omega
      exact ⟨i, id', ki, pk_us, pk_us⟩
  | neg A ih =>
    intro b f P fu ta nm fi la ba fo hS hQ hb hf h30 h
    have pA := ex_n_pos A
    have lA := ex_l_pos A
    simp only [ex_n, ex_l, ex_w] at hb hf h30 h ⊢
    rw [show fu + (1 + ex_n A) = fu + 1 + ex_n A by omega, show b + (1 + ex_n A) = b + 1 + ex_n A by omega]
    refine ih (b + 1) f P (fu + 1) ta nm fi la ba fo hS.2 hQ (by omega) (by omega) (by omega) (fun ta1 nm1 fi1 la1 ba1 fo1 Q1 => ?_)
    obtain ⟨q1, q2, q3, q4, q5⟩ := Q1
    refine sy_amO (kk := 3) (by omega) (by omega) (by omega) hS.1 ?_
    refine sy_join3 (by omega) (nm_e (h _ _ _ _ _ _ ⟨by rw [pk_us]; exact Or.inr rfl, ?_, fun j hj => ?_, q4, q5⟩))
    · rw [pk_us]
      exact gl_F_eq (gl_opt q2) (fun _ => Iff.rfl) (fun _ => Iff.rfl) (fun _ => Iff.rfl) ⟨fun _ => trivial, fun _ => nb_10⟩ (fun u => Iff.rfl)
    · rw [pk_un (by omega)]; exact q3 j hj
  | add A B ihA ihB =>
    intro b f P fu ta nm fi la ba fo hS hQ hb hf h30 h
    exact two A B (ex_L id (.add A B)) 2 (by omega) (fun u => ⟨fun q => Or.inr ⟨rfl, q⟩, fun q => q.elim (fun q => absurd q.1 (by omega)) (fun q => q.2)⟩) ihA ihB b f P fu ta nm fi la ba fo hS.1 hS.2.1 hS.2.2 hQ.1 hQ.2 hb hf h30 h
  | mul A B ihA ihB =>
    intro b f P fu ta nm fi la ba fo hS hQ hb hf h30 h
    exact two A B (ex_L id (.mul A B)) 1 (by omega) (fun u => ⟨fun q => Or.inl ⟨rfl, q⟩, fun q => q.elim (fun q => q.2) (fun q => absurd q.1 (by omega))⟩) ihA ihB b f P fu ta nm fi la ba fo hS.1 hS.2.1 hS.2.2 hQ.1 hQ.2 hb hf h30 h
  | pow A k ih =>
    intro b f P fu ta nm fi la ba fo hS hQ hb hf h30 h
    have pA := ex_n_pos A
    have lA := ex_l_pos A
    obtain ⟨s1, sA⟩ := hS
    have em : ex_m k * ex_w A = ex_w A := by
      rcases s1 with ⟨q, _⟩ | ⟨q, _⟩ <;> subst q <;> exact Nat.one_mul _
    simp only [ex_n, ex_l, ex_w, em] at hb hf h30 h ⊢
    rw [show fu + (1 + ex_n A) = fu + 1 + ex_n A by omega, show b + (1 + ex_n A) = b + 1 + ex_n A by omega]
    refine ih (b + 1) f P (fu + 1) ta nm fi la ba fo sA hQ (by omega) (by omega) (by omega) (fun ta1 nm1 fi1 la1 ba1 fo1 Q1 => ?_)
    obtain ⟨q1, q2, q3, q4, q5⟩ := Q1
    have gp : gl_F (fun p q => bt (yk_f fo1 (la1 f) (fi1 f) 30 p) q = true) (fun p => (ta1 p).toNatClampNeg) (fun p => P ≤ p ∧ p < P + ex_w A) (fun q => bt (fi1 f) q = true) (fun q => bt (la1 f) q = true) (ba1 f ≠ 0) (fun u => ∃ j, 1 ≤ j ∧ ex_pw (ex_L id A) j u) := gl_plus q2 (fun p q => yk_I (fun i r => by have := (q2.2.1 i r).2; omega))
    have high : ∀ p, P + ex_w A ≤ p → ta1 p = ta p ∧ nm1 p = nm p ∧ yk_f fo1 (la1 f) (fi1 f) 30 p = fo p := fun p hp => by
      obtain ⟨c1, c2, c3⟩ := q4 p hp
      refine ⟨c1, c2, ?_⟩
      rw [yk_out, c3]
      cases hv : bt (la1 f) p with
      | false => rfl
      | true => have := q2.2.1 p hv; omega
    rcases s1 with ⟨q, ho⟩ | ⟨q, ho⟩
    · subst q
      refine sy_amO (kk := 4) (by omega) (by omega) (by omega) ho ?_
      refine sy_join4 (by omega) q1 (nm_e (h _ _ _ _ _ _ ⟨by rw [pk_us]; exact Or.inr rfl, ?_, fun j hj => ?_, high, q5⟩))
      · rw [pk_us]
        refine gl_F_eq (gl_opt gp) (fun _ => Iff.rfl) (fun _ => Iff.rfl) (fun _ => Iff.rfl) ⟨fun _ => trivial, fun _ => nb_10⟩ (fun u => ?_)
        constructor
        · rintro ⟨j, _, _, hj⟩
          cases j with
          | zero => exact Or.inl hj
          | succ j => exact Or.inr ⟨j + 1, by omega, hj⟩
        · rintro (q | ⟨j, _, hj⟩)
          · exact ⟨0, by decide, fun q => by omega, q⟩
          · exact ⟨j, Nat.zero_le _, fun q => by omega, hj⟩
      · rw [pk_un (by omega)]; exact q3 j hj
    · subst q
      refine sy_amO (kk := 5) (by omega) (by omega) (by omega) ho ?_
      refine sy_join5 (by omega) q1 (nm_e (h _ _ _ _ _ _ ⟨q1, ?_, q3, high, q5⟩))
      refine gl_F_eq gp (fun _ => Iff.rfl) (fun _ => Iff.rfl) (fun _ => Iff.rfl) Iff.rfl (fun u => ?_)
      constructor
      · rintro ⟨j, j1, _, hj⟩; exact ⟨j, j1, hj⟩
      · rintro ⟨j, j1, hj⟩; exact ⟨j, j1, fun q => by omega, hj⟩
/-- how many NAMEs -/
theorem sy_amC {post : Int32 → SY → Prop} {N : Nat} (hN : N ≤ 8000) : ∀ (T : ex_T) (b c fu : Nat), ou_S youtKind youtWith T b → b + ex_n T ≤ N → wY_ambiguous_4 post yplace yroot yrowLength yfirst (nI N) ytop ykind ywith ysize ysort ymany yuse ytypeOf yleast ygreatest ylisted ytypeOfName yused yvalued ygiven yname yparent ychildren ycount yrow yvalue yattributes yends ylack yshortest youtKind youtWith ywork yworkWith yweight yfollow yfirsts ylasts ybare ymet ynameAt ytokenAt ytodo fu (nI (c + ex_w T)) (nI (b + ex_n T)) → wY_ambiguous_4 post yplace yroot yrowLength yfirst (nI N) ytop ykind ywith ysize ysort ymany yuse ytypeOf yleast ygreatest ylisted ytypeOfName yused yvalued ygiven yname yparent ychildren ycount yrow yvalue yattributes yends ylack yshortest youtKind youtWith ywork yworkWith yweight yfollow yfirsts ylasts ybare ymet ynameAt ytokenAt ytodo (fu + ex_n T) (nI c) (nI b) := by
  have step : ∀ (kk b c fu : Nat), 0 < kk → kk < 9 → youtKind b = nI kk → b < N → wY_ambiguous_4 post yplace yroot yrowLength yfirst (nI N) ytop ykind ywith ysize ysort ymany yuse ytypeOf yleast ygreatest ylisted ytypeOfName yused yvalued ygiven yname yparent ychildren ycount yrow yvalue yattributes yends ylack yshortest youtKind youtWith ywork yworkWith yweight yfollow yfirsts ylasts ybare ymet ynameAt ytokenAt ytodo fu (nI c) (nI (b + 1)) → wY_ambiguous_4 post yplace yroot yrowLength yfirst (nI N) ytop ykind ywith ysize ysort ymany yuse ytypeOf yleast ygreatest ylisted ytypeOfName yused yvalued ygiven yname yparent ychildren ycount yrow yvalue yattributes yends ylack yshortest youtKind youtWith ywork yworkWith yweight yfollow yfirsts ylasts ybare ymet ynameAt ytokenAt ytodo (fu + 1) (nI c) (nI b) := by
    intro kk b c fu k0 k9 ho hb h
    refine br_f (nI_ge (by omega) (by omega)) ⟨vp_in_nI (by omega) (by omega), ?_⟩
    rw [nb_cl (n := b) (by omega), ho]
    exact br_f (nI_ne0 k0 (by omega)) (nm_r (nI_1 b) h)
  intro T
  induction T with
  | natCast k => intro b c fu hS; exact hS.elim
  | intCast k => intro b c fu hS; exact hS.elim
  | sub A B _ _ => intro b c fu hS; exact hS.elim
  | num k => intro b c fu hS hb h; simp only [ex_n, ex_w] at hb h ⊢; exact step 6 b c fu (by omega) (by omega) hS (by omega) h
  | var i =>
    intro b c fu hS hb h
    simp only [ex_n, ex_w] at hb h ⊢
    refine br_f (nI_ge (by omega) (by omega)) ⟨vp_in_nI (by omega) (by omega), ?_⟩
    rw [nb_cl (n := b) (by omega), hS.1]
    exact br_t rfl (nm_r (nI_1 c) (nm_r (nI_1 b) h))
  | neg A ih =>
    intro b c fu hS hb h
    simp only [ex_n, ex_w] at hb h ⊢
    rw [show fu + (1 + ex_n A) = fu + ex_n A + 1 by omega]
    refine step 3 b c _ (by omega) (by omega) hS.1 (by omega) (ih (b + 1) c fu hS.2 (by omega) ?_)
    rw [show b + 1 + ex_n A = b + (1 + ex_n A) by omega]
    exact h
  | add A B ihA ihB =>
    intro b c fu hS hb h
    simp only [ex_n, ex_w] at hb h ⊢
    rw [show fu + (1 + ex_n A + ex_n B) = fu + ex_n B + ex_n A + 1 by omega]
    refine step 2 b c _ (by omega) (by omega) hS.1 (by omega) (ihA (b + 1) c _ hS.2.1 (by omega) (ihB (b + 1 + ex_n A) _ fu hS.2.2 (by omega) ?_))
    rw [show b + 1 + ex_n A + ex_n B = b + (1 + ex_n A + ex_n B) by omega, Nat.add_assoc c]
    exact h
  | mul A B ihA ihB =>
    intro b c fu hS hb h
    simp only [ex_n, ex_w] at hb h ⊢
    rw [show fu + (1 + ex_n A + ex_n B) = fu + ex_n B + ex_n A + 1 by omega]
    refine step 1 b c _ (by omega) (by omega) hS.1 (by omega) (ihA (b + 1) c _ hS.2.1 (by omega) (ihB (b + 1 + ex_n A) _ fu hS.2.2 (by omega) ?_))
    rw [show b + 1 + ex_n A + ex_n B = b + (1 + ex_n A + ex_n B) by omega, Nat.add_assoc c]
    exact h
  | pow A k ih =>
    intro b c fu hS hb h
    obtain ⟨s1, sA⟩ := hS
    have em : ex_m k * ex_w A = ex_w A := by
      rcases s1 with ⟨q, _⟩ | ⟨q, _⟩ <;> subst q <;> exact Nat.one_mul _
    simp only [ex_n, ex_w, em] at hb h ⊢
    rw [show fu + (1 + ex_n A) = fu + ex_n A + 1 by omega]
    have h' : wY_ambiguous_4 post yplace yroot yrowLength yfirst (nI N) ytop ykind ywith ysize ysort ymany yuse ytypeOf yleast ygreatest ylisted ytypeOfName yused yvalued ygiven yname yparent ychildren ycount yrow yvalue yattributes yends ylack yshortest youtKind youtWith ywork yworkWith yweight yfollow yfirsts ylasts ybare ymet ynameAt ytokenAt ytodo fu (nI (c + ex_w A)) (nI (b + 1 + ex_n A)) := by
      rw [show b + 1 + ex_n A = b + (1 + ex_n A) by omega]; exact h
    rcases s1 with ⟨_, ho⟩ | ⟨_, ho⟩
    · exact step 4 b c _ (by omega) (by omega) ho (by omega) (ih (b + 1) c fu sA (by omega) h')
    · exact step 5 b c _ (by omega) (by omega) ho (by omega) (ih (b + 1) c fu sA (by omega) h')
theorem sy_ambig {post : Int32 → SY → Prop} {d : Nat} {kd vl : Nat → Nat} {T : ex_T} (hd : d ≤ 16) (hK : rl_K ykind ywith 96 d kd vl) (hS : ou_S youtKind youtWith T 0) (hQ : ex_Q (fun i => i < d ∧ kd i = 0) T) (hn : ex_n T ≤ 8000) (hl : ex_l T ≤ 1000) (hw : ex_w T ≤ 30)
    (h : ∀ ta nm fi la ba fo : Nat → Int32, yg_Q d kd vl (ex_w T) (ex_L id T) 0 0 ytokenAt ynameAt yfirsts ylasts ybare yfollow ta nm fi la ba fo → wpY_pairs post (yplace, yroot, yrowLength, yfirst, nI (ex_n T), ytop, ykind, ywith, ysize, ysort, ymany, yuse, ytypeOf, yleast, ygreatest, ylisted, ytypeOfName, yused, yvalued, ygiven, yname, yparent, ychildren, ycount, yrow, yvalue, yattributes, yends, ylack, yshortest, youtKind, youtWith, ywork, yworkWith, yweight, fo, fi, la, ba, ymet, nm, ta, ytodo) (nI (ex_w T))) : wpY_ambiguous post (yplace, yroot, yrowLength, yfirst, nI (ex_n T), ytop, ykind, ywith, ysize, ysort, ymany, yuse, ytypeOf, yleast, ygreatest, ylisted, ytypeOfName, yused, yvalued, ygiven, yname, yparent, ychildren, ycount, yrow, yvalue, yattributes, yends, ylack, yshortest, youtKind, youtWith, ywork, yworkWith, yweight, yfollow, yfirsts, ylasts, ybare, ymet, ynameAt, ytokenAt, ytodo) := by
  unfold wpY_ambiguous
  refine ⟨1 + ex_n T, sy_amC hn T 0 0 1 hS (by omega) ?_⟩
  rw [Nat.zero_add, Nat.zero_add]
  refine br_t (nI_le (Nat.le_refl _) (by omega)) (nm_r (e' := nI (0 + ex_n T) + (-1)) (by rw [nb_dec, Nat.zero_add]) ⟨1 + ex_n T, ?_⟩)
  have t := sy_amT (post := post) (x1 := nI (ex_w T)) (youts := nI (ex_n T)) (d := d) (kd := kd) (vl := vl) hd hK T 0 0 0 1 ytokenAt ynameAt yfirsts ylasts ybare yfollow hS hQ (by omega) (by omega) (by omega) (fun ta nm fi la ba fo Q => br_t nb_d0 (h ta nm fi la ba fo Q))
  rw [Nat.zero_add (ex_w T)] at t
  exact t
end
end
section
/-! ===== the reference's pairs ===== -/
theorem nb_vs {n : Nat} (h : n < 900) : vp_nar .short ((nI n).toInt16.toInt32) = nI n := by
  rw [pk_vs]
  exact (by decide +kernel : ∀ n, n < 900 → (nI n).toInt16.toInt32 = nI n) n h
def me_I (P : Nat → Nat → Prop) (W n : Nat) (mt td : Nat → Int32) : Prop := n ≤ cb_n (fun j => decide (mt j ≠ 0)) 900 ∧ (∀ k, k < n → ∃ p q, p < W ∧ q < W ∧ td k = nI (30 * p + q) ∧ P p q) ∧ (∀ p q, p < 30 → q < 30 → mt (30 * p + q) ≠ 0 → ∃ k, k < n ∧ td k = nI (30 * p + q))
def me_M (n0 : Nat) (mt0 td0 : Nat → Int32) (n : Nat) (mt td : Nat → Int32) : Prop := n0 ≤ n ∧ (∀ j, mt0 j ≠ 0 → mt j ≠ 0) ∧ (∀ k, k < n0 → td k = td0 k)
theorem me_add {P : Nat → Nat → Prop} {W n p q : Nat} {mt td : Nat → Int32} (h : me_I P W n mt td) (hW : W ≤ 30) (hp : p < W) (hq : q < W) (hP : P p q) (hm : mt (30 * p + q) = 0) : n < 900 ∧ me_I P W (n + 1) (upd mt (30 * p + q) 1) (upd td n (nI (30 * p + q))) := by
  obtain ⟨h1, h2, h3⟩ := h
  have lt : cb_n (fun j => decide (mt j ≠ 0)) 900 < cb_n (fun j => decide (upd mt (30 * p + q) 1 j ≠ 0)) 900 := by
    refine cb_lt (k := 30 * p + q) ?_ ?_ 900 (by omega) (fun i _ hi => ?_)
    · show decide (mt (30 * p + q) ≠ 0) = false
      rw [hm]; rfl
    · show decide (upd mt (30 * p + q) 1 (30 * p + q) ≠ 0) = true
      rw [pk_us]; rfl
    · have hi' : mt i ≠ 0 := of_decide_eq_true hi
      refine decide_eq_true ?_
      by_cases e : i = 30 * p + q
      · rw [e, pk_us]; exact nb_10
      · rw [pk_un e]; exact hi'
  have le := cb_le (fun j => decide (upd mt (30 * p + q) 1 j ≠ 0)) 900
  refine ⟨by omega, by omega, fun k hk => ?_, fun a b ha hb hab => ?_⟩
  · by_cases e : k = n
    · rw [e, pk_us]; exact ⟨p, q, hp, hq, rfl, hP⟩
    · rw [pk_un e]; exact h2 k (by omega)
  · by_cases e : 30 * a + b = 30 * p + q
    · rw [e]; exact ⟨n, by omega, pk_us⟩
    · rw [pk_un e] at hab
      obtain ⟨k, k1, k2⟩ := h3 a b ha hb hab
      exact ⟨k, by omega, by rw [pk_un (by omega)]; exact k2⟩
theorem gl_P_symm {φ : Nat → Nat → Prop} {F : Nat → Prop} {nm : Nat → Nat} : ∀ k p q, gl_P φ F nm k p q → gl_P φ F nm k q p := by
  intro k
  induction k with
  | zero => rintro p q ⟨a, b, c⟩; exact ⟨b, a, c.symm⟩
  | succ k ih => rintro p q ⟨c, p', q', h, a, b⟩; exact ⟨c.symm, q', p', ih p' q' h, b, a⟩
theorem ld_cg {D E : Nat → Prop} {x : Int32} (hDE : ∀ t, D t ↔ E t) (h : ld_S D x) : ld_S E x := by
  rcases h with ⟨e, r⟩ | ⟨t, t16, e, r1, r2⟩
  · exact Or.inl ⟨e, fun t r' => r t ((hDE t).mpr r')⟩
  · exact Or.inr ⟨t, t16, e, (hDE t).mp r1, fun t' r' => r2 t' ((hDE t').mpr r')⟩
def yp_n (ta : Nat → Int32) (vl : Nat → Nat) (p : Nat) : Nat := vl ((ta p).toNatClampNeg)
def yp_P (fi fo ta : Nat → Int32) (vl : Nat → Nat) (p q : Nat) : Prop := ∃ k, gl_P (fun p q => bt (fo p) q = true) (fun q => bt (fi 0) q = true) (yp_n ta vl) k p q
def yp_G (d W : Nat) (kd vl : Nat → Nat) (fi fo ta nm : Nat → Int32) : Prop := W ≤ 30 ∧ d ≤ 16 ∧ (∀ i, i < d → kd i = 0 → vl i < 6) ∧ (∀ q, bt (fi 0) q = true → q < W) ∧ (∀ p q, p < W → bt (fo p) q = true → q < W) ∧ (∀ p, p < W → ∃ i, i < d ∧ kd i = 0 ∧ ta p = nI i ∧ nm p = nI (vl i))
def yp_c (W : Nat) (ta : Nat → Int32) (vl : Nat → Nat) (A B : Int32) (mt : Nat → Int32) : Prop := ∀ p q, bt A p = true → bt B q = true → yp_n ta vl p = yp_n ta vl q → mt (30 * p + q) ≠ 0
section
variable {yplace yroot yrowLength yfirst youts ytop : Int32} {ykind ywith ysize ysort ymany yuse ytypeOf yleast ygreatest ylisted ytypeOfName yused yvalued ygiven yname yparent ychildren ycount yrow yvalue yattributes yends ylack yshortest youtKind youtWith ywork yworkWith yweight yfollow yfirsts ylasts ybare ymet ynameAt ytokenAt ytodo : Nat → Int32}
theorem sy_mt16 {post : Int32 → SY → Prop} {d W p n0 fu : Nat} {kd vl : Nat → Nat} {A B : Int32} {mt0 td0 : Nat → Int32} (hG : yp_G d W kd vl yfirsts yfollow ytokenAt ynameAt) (hp : p < 30) (hA : ∀ i, bt A i = true → i < W) (hB : ∀ i, bt B i = true → i < W) (hs : ∀ p q, bt A p = true → bt B q = true → yp_n ytokenAt vl p = yp_n ytokenAt vl q → yp_P yfirsts yfollow ytokenAt vl p q)
    (h : ∀ (n : Nat) (mt td : Nat → Int32), me_I (yp_P yfirsts yfollow ytokenAt vl) W n mt td → me_M n0 mt0 td0 n mt td → (∀ q, bt A p = true → bt B q = true → yp_n ytokenAt vl p = yp_n ytokenAt vl q → mt (30 * p + q) ≠ 0) → wY_meet_6 post A B yplace yroot yrowLength yfirst youts ytop fu (nI n) (nI (p + 1)) ykind ywith ysize ysort ymany yuse ytypeOf yleast ygreatest ylisted ytypeOfName yused yvalued ygiven yname yparent ychildren ycount yrow yvalue yattributes yends ylack yshortest youtKind youtWith ywork yworkWith yweight yfollow yfirsts ylasts ybare mt ynameAt ytokenAt td) :
    ∀ (m q n : Nat) (mt td : Nat → Int32), q + m = 30 → me_I (yp_P yfirsts yfollow ytokenAt vl) W n mt td → me_M n0 mt0 td0 n mt td → (∀ q', q' < q → bt A p = true → bt B q' = true → yp_n ytokenAt vl p = yp_n ytokenAt vl q' → mt (30 * p + q') ≠ 0) → wY_meet_16 post (wY_meet_6 post A B yplace yroot yrowLength yfirst youts ytop fu) A B (nI p) yplace yroot yrowLength yfirst youts ytop (m + 1) (nI n) (nI q) ykind ywith ysize ysort ymany yuse ytypeOf yleast ygreatest ylisted ytypeOfName yused yvalued ygiven yname yparent ychildren ycount yrow yvalue yattributes yends ylack yshortest youtKind youtWith ywork yworkWith yweight yfollow yfirsts ylasts ybare mt ynameAt ytokenAt td := by
  obtain ⟨hW, hd, hv, gF, gφ, gt⟩ := hG
  intro m
  induction m with
  | zero =>
    intro q n mt td hq hI hM hc
    obtain rfl : q = 30 := by omega
    refine br_t (by decide) (nm_r (nI_1 p) (h n mt td hI hM (fun q' b1 b2 b3 => hc q' (by have := hB q' b2; omega) b1 b2 b3)))
  | succ m ih =>
    intro q n mt td hq hI hM hc
    refine br_f (nI_ge (b := 30) (by omega) (by omega)) ?_
    cases hb : bt A p with
    | false => exact br_t ((bb_t A (by omega)).mpr hb) (nm_r (nI_1 p) (h n mt td hI hM (fun q' b1 => by rw [hb] at b1; cases b1)))
    | true =>
      refine br_f ((bb_t' A (by omega)).mpr hb) ?_
      have next : (bt B q = true → yp_n ytokenAt vl p = yp_n ytokenAt vl q → mt (30 * p + q) ≠ 0) → wY_meet_16 post (wY_meet_6 post A B yplace yroot yrowLength yfirst youts ytop fu) A B (nI p) yplace yroot yrowLength yfirst youts ytop (m + 1) (nI n) (nI (q + 1)) ykind ywith ysize ysort ymany yuse ytypeOf yleast ygreatest ylisted ytypeOfName yused yvalued ygiven yname yparent ychildren ycount yrow yvalue yattributes yends ylack yshortest youtKind youtWith ywork yworkWith yweight yfollow yfirsts ylasts ybare mt ynameAt ytokenAt td := by
        intro hn
        refine ih (q + 1) n mt td (by omega) hI hM (fun q' l b1 b2 b3 => ?_)
        by_cases e : q' = q
        · rw [e] at b2 b3 ⊢; exact hn b2 b3
        · exact hc q' (by omega) b1 b2 b3
      cases hb2 : bt B q with
      | false => exact br_t ((bb_t B (by omega)).mpr hb2) (nm_r (nI_1 q) (next (fun b => by rw [hb2] at b; cases b)))
      | true =>
        refine br_f ((bb_t' B (by omega)).mpr hb2) ⟨vp_in_nI hp (by omega), vp_in_nI (by omega) (by omega), ?_⟩
        have lp := hA p hb
        have lq := hB q hb2
        obtain ⟨i, i1, i2, i3, i4⟩ := gt p lp
        obtain ⟨j, j1, j2, j3, j4⟩ := gt q lq
        have vi := hv i i1 i2
        have vj := hv j j1 j2
        have ni : yp_n ytokenAt vl p = vl i := by unfold yp_n; rw [i3, nb_cl (by omega)]
        have nj : yp_n ytokenAt vl q = vl j := by unfold yp_n; rw [j3, nb_cl (by omega)]
        have e30 : (30 : Int32) * nI p + nI q = nI (30 * p + q) := by rw [show (30 : Int32) = nI 30 from rfl, pk_mul, nI_add]
        rw [e30, nb_cl (n := p) (by omega), nb_cl (n := q) (by omega), nb_cl (n := 30 * p + q) (by omega), i4, j4, nI_1 q]
        have v900 : vp_in (nI (30 * p + q)) 900 := vp_in_nI (by omega) (by omega)
        refine pk_eq (vl i) (vl j) (fun e => ⟨v900, ?_⟩) (fun e => nm_e (next (fun _ b => by rw [ni, nj] at b; exact absurd b e)))
        have eN : yp_n ytokenAt vl p = yp_n ytokenAt vl q := by rw [ni, nj, e]
        by_cases z : mt (30 * p + q) = 0
        · obtain ⟨n9, I'⟩ := me_add hI hW lp lq (hs p q hb hb2 eN) z
          refine br_t z ⟨v900, nm_r (e' := upd mt (30 * p + q) 1) (by rw [nb_b1]) (nm_r (nI_1 n) ⟨vp_in_nI n9 (by omega), nm_r (e' := upd td n (nI (30 * p + q))) (by rw [nb_cl (n := n) (by omega), nb_vs (by omega)]) (nm_e ?_)⟩)⟩
          refine ih (q + 1) (n + 1) _ _ (by omega) I' ⟨by have := hM.1; omega, fun x hx => ?_, fun k hk => ?_⟩ (fun q' l b1 b2 b3 => ?_)
          · by_cases e : x = 30 * p + q
            · rw [e, pk_us]; exact nb_10
            · rw [pk_un e]; exact hM.2.1 x hx
          · rw [pk_un (by have := hM.1; omega)]; exact hM.2.2 k hk
          · by_cases e : q' = q
            · rw [e, pk_us]; exact nb_10
            · rw [pk_un (by omega)]; exact hc q' (by omega) b1 b2 b3
        · exact br_f z (nm_e (next (fun _ _ => z)))
theorem sy_mt6 {post : Int32 → SY → Prop} {d W n0 : Nat} {kd vl : Nat → Nat} {A B : Int32} {mt0 td0 : Nat → Int32} (hG : yp_G d W kd vl yfirsts yfollow ytokenAt ynameAt) (hA : ∀ i, bt A i = true → i < W) (hB : ∀ i, bt B i = true → i < W) (hs : ∀ p q, bt A p = true → bt B q = true → yp_n ytokenAt vl p = yp_n ytokenAt vl q → yp_P yfirsts yfollow ytokenAt vl p q)
    (h : ∀ (n : Nat) (mt td : Nat → Int32), me_I (yp_P yfirsts yfollow ytokenAt vl) W n mt td → me_M n0 mt0 td0 n mt td → yp_c W ytokenAt vl A B mt → post (nI n) (yplace, yroot, yrowLength, yfirst, youts, ytop, ykind, ywith, ysize, ysort, ymany, yuse, ytypeOf, yleast, ygreatest, ylisted, ytypeOfName, yused, yvalued, ygiven, yname, yparent, ychildren, ycount, yrow, yvalue, yattributes, yends, ylack, yshortest, youtKind, youtWith, ywork, yworkWith, yweight, yfollow, yfirsts, ylasts, ybare, mt, ynameAt, ytokenAt, td)) :
    ∀ (m p n : Nat) (mt td : Nat → Int32), p + m = 30 → me_I (yp_P yfirsts yfollow ytokenAt vl) W n mt td → me_M n0 mt0 td0 n mt td → (∀ p' q, p' < p → bt A p' = true → bt B q = true → yp_n ytokenAt vl p' = yp_n ytokenAt vl q → mt (30 * p' + q) ≠ 0) → wY_meet_6 post A B yplace yroot yrowLength yfirst youts ytop (m + 1) (nI n) (nI p) ykind ywith ysize ysort ymany yuse ytypeOf yleast ygreatest ylisted ytypeOfName yused yvalued ygiven yname yparent ychildren ycount yrow yvalue yattributes yends ylack yshortest youtKind youtWith ywork yworkWith yweight yfollow yfirsts ylasts ybare mt ynameAt ytokenAt td := by
  have hW := hG.1
  intro m
  induction m with
  | zero =>
    intro p n mt td hp hI hM hc
    obtain rfl : p = 30 := by omega
    exact br_t (by decide) (h n mt td hI hM (fun p' q b1 b2 b3 => hc p' q (by have := hA p' b1; omega) b1 b2 b3))
  | succ m ih =>
    intro p n mt td hp hI hM hc
    refine br_f (nI_ge (b := 30) (by omega) (by omega)) ⟨31, ?_⟩
    refine sy_mt16 (n0 := n) (mt0 := mt) (td0 := td) (d := d) (kd := kd) hG (by omega) hA hB hs (fun n' mt' td' I' M' c' => ?_) 30 0 n mt td (by omega) hI ⟨Nat.le_refl _, fun _ r => r, fun _ _ => rfl⟩ (fun q' l => by omega)
    refine ih (p + 1) n' mt' td' (by omega) I' ⟨Nat.le_trans hM.1 M'.1, fun j hj => M'.2.1 j (hM.2.1 j hj), fun k hk => ?_⟩ (fun p' q l b1 b2 b3 => ?_)
    · rw [M'.2.2 k (by have := hM.1; omega)]; exact hM.2.2 k hk
    · by_cases e : p' = p
      · rw [e] at b1 b3 ⊢; exact c' q b1 b2 b3
      · exact M'.2.1 _ (hc p' q (by omega) b1 b2 b3)
theorem sy_meet {post : Int32 → SY → Prop} {d W n : Nat} {kd vl : Nat → Nat} {A B : Int32} (hG : yp_G d W kd vl yfirsts yfollow ytokenAt ynameAt) (hA : ∀ i, bt A i = true → i < W) (hB : ∀ i, bt B i = true → i < W) (hs : ∀ p q, bt A p = true → bt B q = true → yp_n ytokenAt vl p = yp_n ytokenAt vl q → yp_P yfirsts yfollow ytokenAt vl p q) (hI : me_I (yp_P yfirsts yfollow ytokenAt vl) W n ymet ytodo)
    (h : ∀ (n' : Nat) (mt td : Nat → Int32), me_I (yp_P yfirsts yfollow ytokenAt vl) W n' mt td → me_M n ymet ytodo n' mt td → yp_c W ytokenAt vl A B mt → post (nI n') (yplace, yroot, yrowLength, yfirst, youts, ytop, ykind, ywith, ysize, ysort, ymany, yuse, ytypeOf, yleast, ygreatest, ylisted, ytypeOfName, yused, yvalued, ygiven, yname, yparent, ychildren, ycount, yrow, yvalue, yattributes, yends, ylack, yshortest, youtKind, youtWith, ywork, yworkWith, yweight, yfollow, yfirsts, ylasts, ybare, mt, ynameAt, ytokenAt, td)) : wpY_meet post (yplace, yroot, yrowLength, yfirst, youts, ytop, ykind, ywith, ysize, ysort, ymany, yuse, ytypeOf, yleast, ygreatest, ylisted, ytypeOfName, yused, yvalued, ygiven, yname, yparent, ychildren, ycount, yrow, yvalue, yattributes, yends, ylack, yshortest, youtKind, youtWith, ywork, yworkWith, yweight, yfollow, yfirsts, ylasts, ybare, ymet, ynameAt, ytokenAt, ytodo) A B (nI n) :=
  ⟨31, sy_mt6 hG hA hB hs h 30 0 n ymet ytodo (by omega) hI ⟨Nat.le_refl _, fun _ r => r, fun _ _ => rfl⟩ (fun p' q l => by omega)⟩
/-- the tokens in doubt among the first k pairs -/
def yp_D (W k : Nat) (ta td : Nat → Int32) (t : Nat) : Prop := ∃ k' p q, k' < k ∧ p < W ∧ q < W ∧ td k' = nI (30 * p + q) ∧ (ta p).toNatClampNeg ≠ (ta q).toNatClampNeg ∧ (t = (ta p).toNatClampNeg ∨ t = (ta q).toNatClampNeg)
theorem sy_pr50 {post : Int32 → SY → Prop} {d W : Nat} {kd vl : Nat → Nat} (hG : yp_G d W kd vl yfirsts yfollow ytokenAt ynameAt)
    (h : ∀ (n : Nat) (x : Int32) (mt td : Nat → Int32), me_I (yp_P yfirsts yfollow ytokenAt vl) W n mt td → yp_c W ytokenAt vl (yfirsts 0) (yfirsts 0) mt → (∀ p q, p < W → q < W → (∃ k, k < n ∧ td k = nI (30 * p + q)) → yp_c W ytokenAt vl (yfollow p) (yfollow q) mt) → ld_S (yp_D W n ytokenAt td) x → post x (yplace, yroot, yrowLength, yfirst, youts, ytop, ykind, ywith, ysize, ysort, ymany, yuse, ytypeOf, yleast, ygreatest, ylisted, ytypeOfName, yused, yvalued, ygiven, yname, yparent, ychildren, ycount, yrow, yvalue, yattributes, yends, ylack, yshortest, youtKind, youtWith, ywork, yworkWith, yweight, yfollow, yfirsts, ylasts, ybare, mt, ynameAt, ytokenAt, td)) :
    ∀ (m k n : Nat) (x : Int32) (mt td : Nat → Int32), k + m = 900 → k ≤ n → me_I (yp_P yfirsts yfollow ytokenAt vl) W n mt td → yp_c W ytokenAt vl (yfirsts 0) (yfirsts 0) mt → (∀ p q, p < W → q < W → (∃ k', k' < k ∧ td k' = nI (30 * p + q)) → yp_c W ytokenAt vl (yfollow p) (yfollow q) mt) → ld_S (yp_D W k ytokenAt td) x → wY_pairs_50 post (m + 1) x (nI n) (nI k) yplace yroot yrowLength yfirst youts ytop ykind ywith ysize ysort ymany yuse ytypeOf yleast ygreatest ylisted ytypeOfName yused yvalued ygiven yname yparent ychildren ycount yrow yvalue yattributes yends ylack yshortest youtKind youtWith ywork yworkWith yweight yfollow yfirsts ylasts ybare mt ynameAt ytokenAt td := by
  have hG' := hG
  obtain ⟨hW, hd, hv, gF, gφ, gt⟩ := hG'
  intro m
  induction m with
  | zero =>
    intro k n x mt td hk hkn hI h0 hc hx
    have := Nat.le_trans hI.1 (cb_le _ 900)
    obtain rfl : n = k := by omega
    exact br_t (nI_le (Nat.le_refl _) (by omega)) (h n x mt td hI h0 hc hx)
  | succ m ih =>
    intro k n x mt td hk hkn hI h0 hc hx
    have n9 := Nat.le_trans hI.1 (cb_le _ 900)
    refine pk_le n k (fun e => ?_) (fun e => ?_)
    · obtain rfl : n = k := by omega
      exact h n x mt td hI h0 hc hx
    · obtain ⟨p, q, lp, lq, et, hP⟩ := hI.2.1 k e
      obtain ⟨i, i1, i2, i3, i4⟩ := gt p lp
      obtain ⟨j, j1, j2, j3, j4⟩ := gt q lq
      have ci : (ytokenAt p).toNatClampNeg = i := by rw [i3, nb_cl (by omega)]
      have cj : (ytokenAt q).toNatClampNeg = j := by rw [j3, nb_cl (by omega)]
      have vk : vp_in (nI k) 900 := vp_in_nI (by omega) (by omega)
      have vp : vp_in (nI p) 30 := vp_in_nI (by omega) (by omega)
      have vq : vp_in (nI q) 30 := vp_in_nI (by omega) (by omega)
      have d1 : nI (30 * p + q) / 30 = nI p := by
        rw [show (30 : Int32) = nI 30 from rfl, pk_div (by omega) (by omega) (by omega), show (30 * p + q) / 30 = p by omega]
      have d2 : nI (30 * p + q) - nI (30 * p + q) / 30 * 30 = nI q := by
        rw [show (30 : Int32) = nI 30 from rfl, pk_rem (by omega) (by omega) (by omega), show (30 * p + q) % 30 = q by omega]
      rw [nb_cl (n := k) (by omega), et]
      refine ⟨vk, by decide, nm_r d1 ⟨vk, by decide, nm_r d2 ⟨vp, vq, ?_⟩⟩⟩
      rw [nb_cl (n := p) (by omega), nb_cl (n := q) (by omega), i3, j3]
      have inj : ∀ a b, a < W → b < W → nI (30 * p + q) = nI (30 * a + b) → a = p ∧ b = q := by
        intro a b ha hb eq
        have := (nI_eq (by omega) (by omega)).mp eq
        omega
      have dd : ∀ t, yp_D W (k + 1) ytokenAt td t ↔ yp_D W k ytokenAt td t ∨ (i ≠ j ∧ (t = i ∨ t = j)) := by
        intro t
        constructor
        · rintro ⟨k', a, b, l, la, lb, eq, ne, ht⟩
          by_cases ek : k' = k
          · rw [ek, et] at eq
            obtain ⟨ea, eb⟩ := inj a b la lb eq
            rw [ea, eb, ci, cj] at ne ht
            exact Or.inr ⟨ne, ht⟩
          · exact Or.inl ⟨k', a, b, by omega, la, lb, eq, ne, ht⟩
        · rintro (⟨k', a, b, l, r⟩ | ⟨ne, ht⟩)
          · exact ⟨k', a, b, by omega, r⟩
          · exact ⟨k, p, q, by omega, lp, lq, et, by rw [ci, cj]; exact ne, by rw [ci, cj]; exact ht⟩
      have fin : ∀ x' : Int32, ld_S (yp_D W (k + 1) ytokenAt td) x' → wY_pairs_146 post (wY_pairs_50 post (m + 1)) x' (nI n) (nI k) (nI p) (nI q) yplace yroot yrowLength yfirst youts ytop ykind ywith ysize ysort ymany yuse ytypeOf yleast ygreatest ylisted ytypeOfName yused yvalued ygiven yname yparent ychildren ycount yrow yvalue yattributes yends ylack yshortest youtKind youtWith ywork yworkWith yweight yfollow yfirsts ylasts ybare mt ynameAt ytokenAt td := by
        intro x' hx'
        unfold wY_pairs_146
        rw [nb_cl (n := p) (by omega), nb_cl (n := q) (by omega), nI_1 k]
        refine ⟨vp, vq, sy_meet (d := d) (kd := kd) (W := W) (vl := vl) hG (fun r hr => gφ p r lp hr) (fun r hr => gφ q r lq hr) (fun a b ha hb hn => ?_) hI (fun n' mt' td' I' M' c' => nm_e (ih (k + 1) n' x' mt' td' (by omega) (by have := M'.1; omega) I' (fun a b b1 b2 b3 => M'.2.1 _ (h0 a b b1 b2 b3)) (fun a b la lb hk' => ?_) (ld_cg (fun t => ?_) hx')))⟩
        · obtain ⟨g, hg⟩ := hP
          exact ⟨g + 1, hn, p, q, hg, ha, hb⟩
        · obtain ⟨k', l, ek⟩ := hk'
          rw [M'.2.2 k' (by omega)] at ek
          by_cases e2 : k' = k
          · rw [e2, et] at ek
            obtain ⟨ea, eb⟩ := inj a b la lb ek
            rw [ea, eb]
            exact c'
          · exact fun a' b' b1 b2 b3 => M'.2.1 _ (hc a b la lb ⟨k', by omega, ek⟩ a' b' b1 b2 b3)
        · constructor
          · rintro ⟨k', a, b, l, la, lb, eq, r⟩; exact ⟨k', a, b, l, la, lb, by rw [M'.2.2 k' (by omega)]; exact eq, r⟩
          · rintro ⟨k', a, b, l, la, lb, eq, r⟩; rw [M'.2.2 k' (by omega)] at eq; exact ⟨k', a, b, l, la, lb, eq, r⟩
      have t114 : ∀ z : Nat, ((z = i ∧ i ≤ j) ∨ (z = j ∧ j ≤ i)) → wY_pairs_114 post (wY_pairs_50 post (m + 1)) x (nI n) (nI k) (nI p) (nI q) (nI z) yplace yroot yrowLength yfirst youts ytop ykind ywith ysize ysort ymany yuse ytypeOf yleast ygreatest ylisted ytypeOfName yused yvalued ygiven yname yparent ychildren ycount yrow yvalue yattributes yends ylack yshortest youtKind youtWith ywork yworkWith yweight yfollow yfirsts ylasts ybare mt ynameAt ytokenAt td := by
        intro z hz
        unfold wY_pairs_114
        rw [nb_cl (n := p) (by omega), nb_cl (n := q) (by omega), i3, j3]
        refine ⟨vp, vq, pk_eq i j (fun e2 => fin x (ld_cg (fun t => (dd t).symm.trans Iff.rfl) ?_)) (fun e2 => ?_)⟩
        · refine ld_cg (fun t => ?_) hx
          exact ⟨Or.inl, fun r => r.elim id (fun r => absurd e2 r.1)⟩
        · have new : (∀ t', yp_D W k ytokenAt td t' → z ≤ t') → ld_S (yp_D W (k + 1) ytokenAt td) (nI z) := by
            intro hmin
            refine Or.inr ⟨z, by omega, rfl, (dd z).mpr (Or.inr ⟨e2, by omega⟩), fun t' r => ?_⟩
            rcases (dd t').mp r with r | r
            · exact hmin t' r
            · have := r.2; omega
          rcases hx with ⟨ex, r⟩ | ⟨t, t16, ex, r1, r2⟩
          · rw [ex]
            exact br_t nb_m10 (fin (nI z) (new (fun t' r' => absurd r' (r t'))))
          · rw [ex]
            refine br_f (nI_pos (by omega)) (pk_le t z (fun l => fin (nI t) (Or.inr ⟨t, t16, rfl, (dd t).mpr (Or.inl r1), fun t' r => ?_⟩)) (fun l => fin (nI z) (new (fun t' r => by have := r2 t' r; omega))))
            rcases (dd t').mp r with r | r
            · exact r2 t' r
            · have := r.2; omega
      refine pk_le j i (fun l => ⟨vq, ?_⟩) (fun l => ⟨vp, ?_⟩)
      · exact t114 j (Or.inr ⟨rfl, l⟩)
      · exact t114 i (Or.inl ⟨rfl, by omega⟩)
theorem sy_pr7 {post : Int32 → SY → Prop} (h : ∀ mt : Nat → Int32, (∀ j, j < 900 → mt j = 0) → wpY_meet (fun r u => match u with | (yplace, yroot, yrowLength, yfirst, youts, ytop, ykind, ywith, ysize, ysort, ymany, yuse, ytypeOf, yleast, ygreatest, ylisted, ytypeOfName, yused, yvalued, ygiven, yname, yparent, ychildren, ycount, yrow, yvalue, yattributes, yends, ylack, yshortest, youtKind, youtWith, ywork, yworkWith, yweight, yfollow, yfirsts, ylasts, ybare, ymet, ynameAt, ytokenAt, ytodo) => ∃ n50 : Nat, wY_pairs_50 post n50 (-1) r 0 yplace yroot yrowLength yfirst youts ytop ykind ywith ysize ysort ymany yuse ytypeOf yleast ygreatest ylisted ytypeOfName yused yvalued ygiven yname yparent ychildren ycount yrow yvalue yattributes yends ylack yshortest youtKind youtWith ywork yworkWith yweight yfollow yfirsts ylasts ybare ymet ynameAt ytokenAt ytodo) (yplace, yroot, yrowLength, yfirst, youts, ytop, ykind, ywith, ysize, ysort, ymany, yuse, ytypeOf, yleast, ygreatest, ylisted, ytypeOfName, yused, yvalued, ygiven, yname, yparent, ychildren, ycount, yrow, yvalue, yattributes, yends, ylack, yshortest, youtKind, youtWith, ywork, yworkWith, yweight, yfollow, yfirsts, ylasts, ybare, mt, ynameAt, ytokenAt, ytodo) (yfirsts 0) (yfirsts 0) 0) : ∀ (m k : Nat) (mt : Nat → Int32), k + m = 900 → (∀ j, j < k → mt j = 0) → wY_pairs_7 post (-1) 0 yplace yroot yrowLength yfirst youts ytop (m + 1) (nI k) ykind ywith ysize ysort ymany yuse ytypeOf yleast ygreatest ylisted ytypeOfName yused yvalued ygiven yname yparent ychildren ycount yrow yvalue yattributes yends ylack yshortest youtKind youtWith ywork yworkWith yweight yfollow yfirsts ylasts ybare mt ynameAt ytokenAt ytodo := by
  intro m
  induction m with
  | zero =>
    intro k mt hk hz
    obtain rfl : k = 900 := by omega
    exact br_t (by decide) (h mt hz)
  | succ m ih =>
    intro k mt hk hz
    refine br_f (nI_ge (b := 900) (by omega) (by omega)) ⟨vp_in_nI (by omega) (by omega), nm_r (e' := upd mt k 0) (by rw [nb_cl (by omega), nb_b0]) (nm_r (nI_1 k) (ih (k + 1) _ (by omega) (fun j hj => ?_)))⟩
    by_cases q : j = k
    · rw [q, pk_us]
    · rw [pk_un q]; exact hz j (by omega)
theorem sy_pairs {post : Int32 → SY → Prop} {d W : Nat} {kd vl : Nat → Nat} {x1 : Int32} (hG : yp_G d W kd vl yfirsts yfollow ytokenAt ynameAt) (h : ∀ (x : Int32) (mt td : Nat → Int32), cf_best (fun a b => ∃ p q, yp_P yfirsts yfollow ytokenAt vl p q ∧ (ytokenAt p).toNatClampNeg = a ∧ (ytokenAt q).toNatClampNeg = b) x → post x (yplace, yroot, yrowLength, yfirst, youts, ytop, ykind, ywith, ysize, ysort, ymany, yuse, ytypeOf, yleast, ygreatest, ylisted, ytypeOfName, yused, yvalued, ygiven, yname, yparent, ychildren, ycount, yrow, yvalue, yattributes, yends, ylack, yshortest, youtKind, youtWith, ywork, yworkWith, yweight, yfollow, yfirsts, ylasts, ybare, mt, ynameAt, ytokenAt, td)) : wpY_pairs post (yplace, yroot, yrowLength, yfirst, youts, ytop, ykind, ywith, ysize, ysort, ymany, yuse, ytypeOf, yleast, ygreatest, ylisted, ytypeOfName, yused, yvalued, ygiven, yname, yparent, ychildren, ycount, yrow, yvalue, yattributes, yends, ylack, yshortest, youtKind, youtWith, ywork, yworkWith, yweight, yfollow, yfirsts, ylasts, ybare, ymet, ynameAt, ytokenAt, ytodo) x1 := by
  have hG' := hG
  obtain ⟨hW, hd, hv, gF, gφ, gt⟩ := hG'
  refine ⟨901, sy_pr7 (fun mt hz => ?_) 900 0 ymet (by omega) (fun j hj => by omega)⟩
  refine sy_meet (d := d) (kd := kd) (W := W) (vl := vl) (n := 0) hG gF gF (fun p q h1 h2 hn => ⟨0, h1, h2, hn⟩) ⟨Nat.zero_le _, fun k hk => by omega, fun p q hp hq hm => absurd (hz _ (by omega)) hm⟩ (fun n1 mt1 td1 I1 M1 c1 => ⟨901, ?_⟩)
  refine sy_pr50 (d := d) (kd := kd) (W := W) (vl := vl) hG (fun n x mt td I c0 cc hx => h x mt td ?_) 900 0 n1 (-1) mt1 td1 (by omega) (by omega) I1 c1 (fun p q _ _ hk => by obtain ⟨k, l, _⟩ := hk; omega) (Or.inl ⟨rfl, fun t ht => by obtain ⟨k, _, _, l, _⟩ := ht; omega⟩)
  have full : ∀ g p q, gl_P (fun p q => bt (yfollow p) q = true) (fun q => bt (yfirsts 0) q = true) (yp_n ytokenAt vl) g p q → p < W ∧ q < W ∧ mt (30 * p + q) ≠ 0 := by
    intro g
    induction g with
    | zero =>
      rintro p q ⟨a, b, c⟩
      exact ⟨gF p a, gF q b, c0 p q a b c⟩
    | succ g ih =>
      rintro p q ⟨c, p', q', hg, a, b⟩
      obtain ⟨l1, l2, l3⟩ := ih p' q' hg
      exact ⟨gφ p' p l1 a, gφ q' q l2 b, cc p' q' l1 l2 (I.2.2 p' q' (by omega) (by omega) l3) p q a b c⟩
  have inD : ∀ p q, yp_P yfirsts yfollow ytokenAt vl p q → (ytokenAt p).toNatClampNeg ≠ (ytokenAt q).toNatClampNeg → yp_D W n ytokenAt td (ytokenAt p).toNatClampNeg := by
    rintro p q ⟨g, hg⟩ ne
    obtain ⟨l1, l2, l3⟩ := full g p q hg
    obtain ⟨k, k1, k2⟩ := I.2.2 p q (by omega) (by omega) l3
    exact ⟨k, p, q, k1, l1, l2, k2, ne, Or.inl rfl⟩
  rcases hx with ⟨ex, r⟩ | ⟨t, t16, ex, ⟨k', p, q, l, lp, lq, et, ne, ht⟩, r2⟩
  · refine Or.inl ⟨ex, fun a b hab ⟨p, q, hP, ea, eb⟩ => r _ (inD p q hP (by rw [ea, eb]; exact hab))⟩
  · obtain ⟨p0, q0, l1, l2, e0, hP⟩ := I.2.1 k' l
    rw [et] at e0
    have := (nI_eq (by omega) (by omega)).mp e0
    obtain ⟨rfl, rfl⟩ : p = p0 ∧ q = q0 := by omega
    refine Or.inr ⟨t, t16, ex, ?_, fun a b hab ⟨p', q', hP', ea, eb⟩ => r2 a (by have := inD p' q' hP' (by rw [ea, eb]; exact hab); rw [ea] at this; exact this)⟩
    rcases ht with ht | ht
    · exact ⟨(ytokenAt q).toNatClampNeg, by rw [ht]; exact fun e => ne e.symm, p, q, hP, ht.symm, rfl⟩
    · obtain ⟨g, hg⟩ := hP
      exact ⟨(ytokenAt p).toNatClampNeg, by rw [ht]; exact ne, q, p, ⟨g, gl_P_symm g p q hg⟩, ht.symm, rfl⟩
end
end
section
/-! ===== the component takes the draft over ===== -/
def cy_f (f : Nat → Int32) (o b m : Nat) : Nat → Int32 := fun j => if b ≤ j ∧ j < b + m then f (o + (j - b)) else f j
theorem cy_0 (f : Nat → Int32) (o b : Nat) : cy_f f o b 0 = f := by
  funext j
  unfold cy_f
  rw [if_neg (by omega)]
theorem cy_s {f : Nat → Int32} {o b m : Nat} (h : b + m ≤ o) : upd (cy_f f o b m) (b + m) (cy_f f o b m (o + m)) = cy_f f o b (m + 1) := by
  funext j
  unfold upd
  by_cases e : j = b + m
  · rw [if_pos e]
    unfold cy_f
    rw [if_neg (by omega), if_pos (by omega), show o + (j - b) = o + m by omega]
  · rw [if_neg e]
    unfold cy_f
    by_cases q : b ≤ j ∧ j < b + m
    · rw [if_pos q, if_pos (by omega)]
    · rw [if_neg q, if_neg (by omega)]
theorem cy_in {f : Nat → Int32} {o b m i : Nat} (h : i < m) : cy_f f o b m (b + i) = f (o + i) := by
  unfold cy_f
  rw [if_pos (by omega), show b + i - b = i by omega]
theorem cy_out {f : Nat → Int32} {o b m j : Nat} (h : j < b ∨ b + m ≤ j) : cy_f f o b m j = f j := by
  unfold cy_f
  rw [if_neg (by omega)]
theorem nb_mul (t c i : Nat) : nI t * nI c + nI i = nI (c * t + i) := by rw [pk_mul, nI_add, Nat.mul_comm]
theorem nb_mul' (t c i : Nat) : nI c * nI t + nI i = nI (c * t + i) := by rw [pk_mul, nI_add]
section
variable {drafted latestPlace positions fragments elementCount : Int32} {draftKind draftValue weights tokenAt fragmentBegin fragmentFirst fragmentLast fragmentEmpty reachedWith follow bearing accepting kindOfType leastOf greatestOf listedCount listedValue attributeUse attributeType typeOfName inUse nameOf parentOf kidCount kids hasValue valueOf hasAttribute attributeValue walked waiting : Nat → Int32}
theorem sx_ad84 {post : SX → Prop} {t : Nat} (ht : t < 6) (h : post (drafted, latestPlace, positions, fragments, elementCount, draftKind, draftValue, weights, tokenAt, fragmentBegin, fragmentFirst, fragmentLast, fragmentEmpty, reachedWith, follow, bearing, accepting, upd kindOfType t 2, leastOf, greatestOf, listedCount, listedValue, ha_clr attributeUse t 4, attributeType, typeOfName, inUse, nameOf, parentOf, kidCount, kids, hasValue, valueOf, hasAttribute, attributeValue, walked, waiting)) : ∀ m i, i + m = 4 → wX_adoptDraft_84 post (nI t) drafted latestPlace positions fragments elementCount (m + 1) (nI i) draftKind draftValue weights tokenAt fragmentBegin fragmentFirst fragmentLast fragmentEmpty reachedWith follow bearing accepting kindOfType leastOf greatestOf listedCount listedValue (ha_clr attributeUse t i) attributeType typeOfName inUse nameOf parentOf kidCount kids hasValue valueOf hasAttribute attributeValue walked waiting := by
  intro m
  induction m with
  | zero =>
    intro i hi
    obtain rfl : i = 4 := by omega
    exact br_t (by decide) ⟨vp_in_nI ht (by omega), nm_r (e' := upd kindOfType t 2) (by rw [nb_cl (by omega)]) h⟩
  | succ m ih =>
    intro i hi
    refine br_f (nI_ge (b := 4) (by omega) (by omega)) ?_
    rw [show nI t * 4 + nI i = nI (4 * t + i) from nb_mul t 4 i]
    exact ⟨vp_in_nI (by omega) (by omega), nm_r (e' := ha_clr attributeUse t (i + 1)) (by rw [nb_cl (by omega)]; exact ha_s _ _ _) (nm_r (nI_1 i) (ih (i + 1) (by omega)))⟩
theorem sx_ad37 {post : SX → Prop} {t : Nat} (ht : t < 6) (h : post (drafted, latestPlace, positions, fragments, elementCount, draftKind, draftValue, weights, tokenAt, fragmentBegin, fragmentFirst, fragmentLast, fragmentEmpty, reachedWith, follow, cy_f bearing 36 (6 * t) 6, upd accepting t (accepting 6), upd kindOfType t 2, leastOf, greatestOf, listedCount, listedValue, ha_clr attributeUse t 4, attributeType, typeOfName, inUse, nameOf, parentOf, kidCount, kids, hasValue, valueOf, hasAttribute, attributeValue, walked, waiting)) : ∀ m i, i + m = 6 → wX_adoptDraft_37 post (nI t) drafted latestPlace positions fragments elementCount (m + 1) (nI i) draftKind draftValue weights tokenAt fragmentBegin fragmentFirst fragmentLast fragmentEmpty reachedWith follow (cy_f bearing 36 (6 * t) i) accepting kindOfType leastOf greatestOf listedCount listedValue attributeUse attributeType typeOfName inUse nameOf parentOf kidCount kids hasValue valueOf hasAttribute attributeValue walked waiting := by
  intro m
  induction m with
  | zero =>
    intro i hi
    obtain rfl : i = 6 := by omega
    refine br_t (by decide) ⟨vp_in_nI (by omega) (by omega), nm_r (e' := upd accepting t (accepting 6)) (by rw [nb_cl (by omega)]) ⟨5, ?_⟩⟩
    have z := sx_ad84 (post := post) (t := t) (bearing := cy_f bearing 36 (6 * t) 6) (accepting := upd accepting t (accepting 6)) ht h 4 0 (by omega)
    rw [ha_0] at z
    exact z
  | succ m ih =>
    intro i hi
    refine br_f (nI_ge (b := 6) (by omega) (by omega)) ?_
    rw [show nI t * 6 + nI i = nI (6 * t + i) from nb_mul t 6 i, show (36 : Int32) + nI i = nI (36 + i) from nI_add 36 i]
    exact ⟨vp_in_nI (by omega) (by omega), vp_in_nI (by omega) (by omega), nm_r (e' := cy_f bearing 36 (6 * t) (i + 1)) (by rw [nb_cl (by omega), nb_cl (by omega)]; exact cy_s (by omega)) (nm_r (nI_1 i) (ih (i + 1) (by omega)))⟩
theorem sx_ad2 {post : SX → Prop} {t : Nat} (ht : t < 6) (h : post (drafted, latestPlace, positions, fragments, elementCount, draftKind, draftValue, weights, tokenAt, fragmentBegin, fragmentFirst, fragmentLast, fragmentEmpty, reachedWith, cy_f follow 186 (31 * t) 31, cy_f bearing 36 (6 * t) 6, upd accepting t (accepting 6), upd kindOfType t 2, leastOf, greatestOf, listedCount, listedValue, ha_clr attributeUse t 4, attributeType, typeOfName, inUse, nameOf, parentOf, kidCount, kids, hasValue, valueOf, hasAttribute, attributeValue, walked, waiting)) : ∀ m i, i + m = 31 → wX_adoptDraft_2 post (nI t) drafted latestPlace positions fragments elementCount (m + 1) (nI i) draftKind draftValue weights tokenAt fragmentBegin fragmentFirst fragmentLast fragmentEmpty reachedWith (cy_f follow 186 (31 * t) i) bearing accepting kindOfType leastOf greatestOf listedCount listedValue attributeUse attributeType typeOfName inUse nameOf parentOf kidCount kids hasValue valueOf hasAttribute attributeValue walked waiting := by
  intro m
  induction m with
  | zero =>
    intro i hi
    obtain rfl : i = 31 := by omega
    refine br_t (by decide) ⟨7, ?_⟩
    have z := sx_ad37 (post := post) (t := t) (follow := cy_f follow 186 (31 * t) 31) ht h 6 0 (by omega)
    rw [cy_0] at z
    exact z
  | succ m ih =>
    intro i hi
    refine br_f (nI_ge (b := 31) (by omega) (by omega)) ?_
    rw [show nI t * 31 + nI i = nI (31 * t + i) from nb_mul t 31 i, show (186 : Int32) + nI i = nI (186 + i) from nI_add 186 i]
    exact ⟨vp_in_nI (by omega) (by omega), vp_in_nI (by omega) (by omega), nm_r (e' := cy_f follow 186 (31 * t) (i + 1)) (by rw [nb_cl (by omega), nb_cl (by omega)]; exact cy_s (by omega)) (nm_r (nI_1 i) (ih (i + 1) (by omega)))⟩
theorem sx_adopt {post : SX → Prop} {t : Nat} (ht : t < 6) (h : post (drafted, latestPlace, positions, fragments, elementCount, draftKind, draftValue, weights, tokenAt, fragmentBegin, fragmentFirst, fragmentLast, fragmentEmpty, reachedWith, cy_f follow 186 (31 * t) 31, cy_f bearing 36 (6 * t) 6, upd accepting t (accepting 6), upd kindOfType t 2, leastOf, greatestOf, listedCount, listedValue, ha_clr attributeUse t 4, attributeType, typeOfName, inUse, nameOf, parentOf, kidCount, kids, hasValue, valueOf, hasAttribute, attributeValue, walked, waiting)) : wpX_adoptDraft post (drafted, latestPlace, positions, fragments, elementCount, draftKind, draftValue, weights, tokenAt, fragmentBegin, fragmentFirst, fragmentLast, fragmentEmpty, reachedWith, follow, bearing, accepting, kindOfType, leastOf, greatestOf, listedCount, listedValue, attributeUse, attributeType, typeOfName, inUse, nameOf, parentOf, kidCount, kids, hasValue, valueOf, hasAttribute, attributeValue, walked, waiting) (nI t) := by
  refine ⟨32, ?_⟩
  have z := sx_ad2 (post := post) ht h 31 0 (by omega)
  rw [cy_0] at z
  exact z
theorem sx_judge5 {post : Int32 → SX → Prop} {d : Nat} {kd vl : Nat → Nat} (hd : d ≤ 16) (hk : dr_K d draftKind draftValue kd vl) (hsc : ¬ ex_sc kd d 0 1) (h : post 5 (nI d, latestPlace, positions, fragments, elementCount, draftKind, draftValue, weights, tokenAt, fragmentBegin, fragmentFirst, fragmentLast, fragmentEmpty, reachedWith, follow, bearing, accepting, kindOfType, leastOf, greatestOf, listedCount, listedValue, attributeUse, attributeType, typeOfName, inUse, nameOf, parentOf, kidCount, kids, hasValue, valueOf, hasAttribute, attributeValue, walked, waiting)) : wpX_judgeDraft post (nI d, latestPlace, positions, fragments, elementCount, draftKind, draftValue, weights, tokenAt, fragmentBegin, fragmentFirst, fragmentLast, fragmentEmpty, reachedWith, follow, bearing, accepting, kindOfType, leastOf, greatestOf, listedCount, listedValue, attributeUse, attributeType, typeOfName, inUse, nameOf, parentOf, kidCount, kids, hasValue, valueOf, hasAttribute, attributeValue, walked, waiting) := by
  unfold wpX_judgeDraft
  exact sx_isOne (kd := kd) hd (fun i hi => ⟨(hk i hi).1, (hk i hi).2.1⟩) (fun q => absurd q hsc) (fun _ => br_t rfl h)
theorem sx_judge6 {post : Int32 → SX → Prop} {kd vl : Nat → Nat} {R : ex_T} (hd : ex_n R ≤ 16) (hk : dr_K (ex_n R) draftKind draftValue kd vl) (hsc : ex_sc kd (ex_n R) 0 1) (hS : ex_S kd vl R 0) (hW : ex_W R) (hw : 30 < ex_w R) (h : ∀ wt : Nat → Int32, post 6 (nI (ex_n R), latestPlace, positions, fragments, elementCount, draftKind, draftValue, wt, tokenAt, fragmentBegin, fragmentFirst, fragmentLast, fragmentEmpty, reachedWith, follow, bearing, accepting, kindOfType, leastOf, greatestOf, listedCount, listedValue, attributeUse, attributeType, typeOfName, inUse, nameOf, parentOf, kidCount, kids, hasValue, valueOf, hasAttribute, attributeValue, walked, waiting)) : wpX_judgeDraft post (nI (ex_n R), latestPlace, positions, fragments, elementCount, draftKind, draftValue, weights, tokenAt, fragmentBegin, fragmentFirst, fragmentLast, fragmentEmpty, reachedWith, follow, bearing, accepting, kindOfType, leastOf, greatestOf, listedCount, listedValue, attributeUse, attributeType, typeOfName, inUse, nameOf, parentOf, kidCount, kids, hasValue, valueOf, hasAttribute, attributeValue, walked, waiting) := by
  have l := ex_w_lt hW hd
  unfold wpX_judgeDraft
  refine sx_isOne (kd := kd) hd (fun i hi => ⟨(hk i hi).1, (hk i hi).2.1⟩) (fun _ => br_f nb_10 ?_) (fun q => absurd hsc q)
  exact sx_draftWeight (kd := kd) (vl := vl) hd (fun i hi => ⟨(hk i hi).1, (hk i hi).2.1, fun q => ⟨(hk i hi).2.2.2.2 (Or.inr q), ((hk i hi).2.2.2.1 q).1⟩⟩) hS (fun wt => br_f (nI_ge (b := ex_w R) (a := 30) hw (by omega)) (h wt))
theorem sx_judge0 {post : Int32 → SX → Prop} {kd vl : Nat → Nat} {R : ex_T} (hd : ex_n R ≤ 16) (hk : dr_K (ex_n R) draftKind draftValue kd vl) (hsc : ex_sc kd (ex_n R) 0 1) (hS : ex_S kd vl R 0) (hW : ex_W R) (hw : ex_w R ≤ 30)
    (h : ∀ (x fr : Int32) (wt ta fb ff fl fe rw fo be ac : Nat → Int32), cf_best (gl_C (ex_L id R) vl) x → xb_D (ex_n R) (ex_w R) (ex_L id R) kd vl ta fo be ac follow bearing accepting → (x = -1 → post 0 (nI (ex_n R), latestPlace, nI (ex_w R), fr, elementCount, draftKind, draftValue, wt, ta, fb, ff, fl, fe, rw, fo, be, ac, kindOfType, leastOf, greatestOf, listedCount, listedValue, attributeUse, attributeType, typeOfName, inUse, nameOf, parentOf, kidCount, kids, hasValue, valueOf, hasAttribute, attributeValue, walked, waiting)) ∧ (¬ x = -1 → post 7 (nI (ex_n R), x, nI (ex_w R), fr, elementCount, draftKind, draftValue, wt, ta, fb, ff, fl, fe, rw, fo, be, ac, kindOfType, leastOf, greatestOf, listedCount, listedValue, attributeUse, attributeType, typeOfName, inUse, nameOf, parentOf, kidCount, kids, hasValue, valueOf, hasAttribute, attributeValue, walked, waiting))) : wpX_judgeDraft post (nI (ex_n R), latestPlace, positions, fragments, elementCount, draftKind, draftValue, weights, tokenAt, fragmentBegin, fragmentFirst, fragmentLast, fragmentEmpty, reachedWith, follow, bearing, accepting, kindOfType, leastOf, greatestOf, listedCount, listedValue, attributeUse, attributeType, typeOfName, inUse, nameOf, parentOf, kidCount, kids, hasValue, valueOf, hasAttribute, attributeValue, walked, waiting) := by
  unfold wpX_judgeDraft
  refine sx_isOne (kd := kd) hd (fun i hi => ⟨(hk i hi).1, (hk i hi).2.1⟩) (fun _ => br_f nb_10 ?_) (fun q => absurd hsc q)
  refine sx_draftWeight (kd := kd) (vl := vl) hd (fun i hi => ⟨(hk i hi).1, (hk i hi).2.1, fun q => ⟨(hk i hi).2.2.2.2 (Or.inr q), ((hk i hi).2.2.2.1 q).1⟩⟩) hS (fun wt => br_t (nI_le (b := 30) hw (by omega)) ?_)
  refine sx_build (kd := kd) (vl := vl) hd hk hS hW hw (fun fr ta fb ff fl fe fo be ac D => ?_)
  obtain ⟨A, em, gF, gz, ga, ge, gb, f1, f2, f3, gt⟩ := D
  have G : pr_G (ex_n R) (ex_w R) kd vl ta fo be := ⟨hw, hd, gF.1, gF.2.2.1, gz, gb, gt⟩
  refine sx_pairStates (kd := kd) (vl := vl) (d := ex_n R) (W := ex_w R) (tokenAt := ta) (follow := fo) (bearing := be) hk G (fun rw hr => ?_)
  refine sx_least (kd := kd) (vl := vl) (d := ex_n R) (W := ex_w R) (tokenAt := ta) (follow := fo) (bearing := be) (reachedWith := rw) G hr (fun x hx => ?_)
  refine h x fr wt ta fb ff fl fe rw fo be ac (cf_iff (fun a b => ?_) hx) ⟨A, em, gF, gz, ga, ge, gb, f1, f2, f3, gt⟩
  rw [← gl_pairs gF (g := vl) (nm := pr_n ta vl) (fun p _ => rfl) a b]
  constructor
  · rintro ⟨p, q, ⟨k, hk'⟩, ea, eb⟩; exact ⟨k, p, q, hk', ea, eb⟩
  · rintro ⟨k, p, q, hk', ea, eb⟩; exact ⟨p, q, ⟨k, hk'⟩, ea, eb⟩
end
end
section
/-! ===== the reference's model ===== -/
/-- the tokens are copied to the type -/
def cp_K (t d : Nat) (kd vl : Nat → Nat) (yk yw kn wi : Nat → Int32) : Prop := (∀ j, (j < 16 * t ∨ 16 * t + d ≤ j) → kn j = yk j ∧ wi j = yw j) ∧ (∀ i, i < d → kn (16 * t + i) = nI (kd i) ∧ (kd i = 0 ∨ kd i = 8 → wi (16 * t + i) = nI (vl i)))
section
variable {yplace yroot yrowLength yfirst youts ytop : Int32} {ykind ywith ysize ysort ymany yuse ytypeOf yleast ygreatest ylisted ytypeOfName yused yvalued ygiven yname yparent ychildren ycount yrow yvalue yattributes yends ylack yshortest youtKind youtWith ywork yworkWith yweight yfollow yfirsts ylasts ybare ymet ynameAt ytokenAt ytodo : Nat → Int32}
theorem sy_md164 {post : Int32 → SY → Prop} {t : Nat} (ht : t < 6) (h : post 0 (yplace, yroot, yrowLength, yfirst, youts, ytop, ykind, ywith, ysize, ysort, ymany, ha_clr yuse t 4, ytypeOf, yleast, ygreatest, ylisted, ytypeOfName, yused, yvalued, ygiven, yname, yparent, ychildren, ycount, yrow, yvalue, yattributes, yends, ylack, yshortest, youtKind, youtWith, ywork, yworkWith, yweight, yfollow, yfirsts, ylasts, ybare, ymet, ynameAt, ytokenAt, ytodo)) : ∀ m i, i + m = 4 → wY_model_164 post (nI t) yplace yroot yrowLength yfirst youts ytop (m + 1) (nI i) ykind ywith ysize ysort ymany (ha_clr yuse t i) ytypeOf yleast ygreatest ylisted ytypeOfName yused yvalued ygiven yname yparent ychildren ycount yrow yvalue yattributes yends ylack yshortest youtKind youtWith ywork yworkWith yweight yfollow yfirsts ylasts ybare ymet ynameAt ytokenAt ytodo := by
  intro m
  induction m with
  | zero =>
    intro i hi
    obtain rfl : i = 4 := by omega
    exact br_t (by decide) h
  | succ m ih =>
    intro i hi
    refine br_f (nI_ge (b := 4) (by omega) (by omega)) ?_
    rw [show (4 : Int32) * nI t + nI i = nI (4 * t + i) from nb_mul' t 4 i]
    exact ⟨vp_in_nI (by omega) (by omega), nm_r (e' := ha_clr yuse t (i + 1)) (by rw [nb_cl (by omega), nb_0]; exact ha_s _ _ _) (nm_r (nI_1 i) (ih (i + 1) (by omega)))⟩
theorem sy_md90 {post : Int32 → SY → Prop} {t d : Nat} {kd vl : Nat → Nat} (ht : t < 6) (hd : d ≤ 16) (hK : rl_K ykind ywith 96 d kd vl) (h : ∀ kn wi : Nat → Int32, cp_K t d kd vl ykind ywith kn wi → post 0 (yplace, yroot, yrowLength, yfirst, youts, ytop, kn, wi, upd ysize t (nI d), upd ysort t 2, ymany, ha_clr yuse t 4, ytypeOf, yleast, ygreatest, ylisted, ytypeOfName, yused, yvalued, ygiven, yname, yparent, ychildren, ycount, yrow, yvalue, yattributes, yends, ylack, yshortest, youtKind, youtWith, ywork, yworkWith, yweight, yfollow, yfirsts, ylasts, ybare, ymet, ynameAt, ytokenAt, ytodo)) : ∀ (m i : Nat) (kn wi : Nat → Int32), i + m = d → cp_K t i kd vl ykind ywith kn wi → wY_model_90 post (nI t) (nI d) yplace yroot yrowLength yfirst youts ytop (m + 1) (nI i) kn wi ysize ysort ymany yuse ytypeOf yleast ygreatest ylisted ytypeOfName yused yvalued ygiven yname yparent ychildren ycount yrow yvalue yattributes yends ylack yshortest youtKind youtWith ywork yworkWith yweight yfollow yfirsts ylasts ybare ymet ynameAt ytokenAt ytodo := by
  intro m
  induction m with
  | zero =>
    intro i kn wi hi hc
    obtain rfl : i = d := by omega
    refine br_t (nI_le (Nat.le_refl _) (by omega)) ⟨vp_in_nI (by omega) (by omega), nm_r (e' := upd ysize t (nI i)) (by rw [nb_cl (by omega), nb_v8 (by omega)]) ⟨vp_in_nI ht (by omega), nm_r (e' := upd ysort t 2) (by rw [nb_cl (by omega), nb_2]) ⟨5, ?_⟩⟩⟩
    have z := sy_md164 (post := post) (t := t) (ykind := kn) (ywith := wi) (ysize := upd ysize t (nI i)) (ysort := upd ysort t 2) ht (h kn wi hc) 4 0 (by omega)
    rw [ha_0] at z
    exact z
  | succ m ih =>
    intro i kn wi hi hc
    obtain ⟨k1, k2, k3, k4, k5⟩ := hK i (by omega)
    obtain ⟨c1, c2⟩ := hc.1 (96 + i) (by omega)
    refine br_f (nI_ge (by omega) (by omega)) ?_
    rw [show (16 : Int32) * nI t + nI i = nI (16 * t + i) from nb_mul' t 16 i, show (96 : Int32) + nI i = nI (96 + i) from nI_add 96 i, nb_cl (n := 96 + i) (by omega), nb_cl (n := 16 * t + i) (by omega), c1, c2]
    have v1 : vp_in (nI (96 + i)) 112 := vp_in_nI (by omega) (by omega)
    have v2 : vp_in (nI (16 * t + i)) 112 := vp_in_nI (by omega) (by omega)
    refine ⟨v1, v2, nm_e ⟨v1, v2, nm_e (nm_r (nI_1 i) (ih (i + 1) _ _ (by omega) ⟨fun j hj => ?_, fun i' hi' => ?_⟩))⟩⟩
    · rw [pk_un (by omega), pk_un (by omega)]; exact hc.1 j (by omega)
    · by_cases e : i' = i
      · rw [e, pk_us, pk_us, k1, nb_vb (by omega)]
        refine ⟨rfl, fun q => ?_⟩
        rw [k5 q, nb_vb]
        rcases q with q | q
        · have := k3 q; omega
        · have := (k4 q).1; omega
      · rw [pk_un (by omega), pk_un (by omega)]; exact hc.2 i' (by omega)
theorem sy_model5 {post : Int32 → SY → Prop} {t d : Nat} {kd vl : Nat → Nat} (ht : t < 6) (hd : d ≤ 16) (hs : ysize 6 = nI d) (hK : rl_K ykind ywith 96 d kd vl) (hsc : ¬ ex_sc kd d 0 1) (h : post 5 (yplace, yroot, yrowLength, yfirst, youts, ytop, ykind, ywith, upd ysize 6 0, ysort, ymany, yuse, ytypeOf, yleast, ygreatest, ylisted, ytypeOfName, yused, yvalued, ygiven, yname, yparent, ychildren, ycount, yrow, yvalue, yattributes, yends, ylack, yshortest, youtKind, youtWith, ywork, yworkWith, yweight, yfollow, yfirsts, ylasts, ybare, ymet, ynameAt, ytokenAt, ytodo)) : wpY_model post (yplace, yroot, yrowLength, yfirst, youts, ytop, ykind, ywith, ysize, ysort, ymany, yuse, ytypeOf, yleast, ygreatest, ylisted, ytypeOfName, yused, yvalued, ygiven, yname, yparent, ychildren, ycount, yrow, yvalue, yattributes, yends, ylack, yshortest, youtKind, youtWith, ywork, yworkWith, yweight, yfollow, yfirsts, ylasts, ybare, ymet, ynameAt, ytokenAt, ytodo) (nI t) := by
  unfold wpY_model
  refine sy_out0 (n := 6) (by omega) ht (br_t rfl (nm_r hs (nm_r (e' := upd ysize 6 0) (by rw [nb_0]) ?_)))
  rw [show (96 : Int32) + nI d = nI (96 + d) from nI_add 96 d]
  exact sy_one (kd := kd) hd (fun i hi => ⟨(hK i hi).1, (hK i hi).2.1⟩) (fun q => absurd q hsc) (fun _ r hr => br_f hr h)
theorem sy_model6 {post : Int32 → SY → Prop} {t : Nat} {kd vl : Nat → Nat} {R : ex_T} (ht : t < 6) (hd : ex_n R ≤ 16) (hs : ysize 6 = nI (ex_n R)) (hK : rl_K ykind ywith 96 (ex_n R) kd vl) (hsc : ex_sc kd (ex_n R) 0 1) (hS : ex_S kd vl R 0) (hW : ex_W R) (hw : 30 < ex_w R) (h : ∀ wt : Nat → Int32, post 6 (yplace, yroot, yrowLength, yfirst, youts, ytop, ykind, ywith, upd ysize 6 0, ysort, ymany, yuse, ytypeOf, yleast, ygreatest, ylisted, ytypeOfName, yused, yvalued, ygiven, yname, yparent, ychildren, ycount, yrow, yvalue, yattributes, yends, ylack, yshortest, youtKind, youtWith, ywork, yworkWith, wt, yfollow, yfirsts, ylasts, ybare, ymet, ynameAt, ytokenAt, ytodo)) : wpY_model post (yplace, yroot, yrowLength, yfirst, youts, ytop, ykind, ywith, ysize, ysort, ymany, yuse, ytypeOf, yleast, ygreatest, ylisted, ytypeOfName, yused, yvalued, ygiven, yname, yparent, ychildren, ycount, yrow, yvalue, yattributes, yends, ylack, yshortest, youtKind, youtWith, ywork, yworkWith, yweight, yfollow, yfirsts, ylasts, ybare, ymet, ynameAt, ytokenAt, ytodo) (nI t) := by
  unfold wpY_model
  refine sy_out0 (n := 6) (by omega) ht (br_t rfl (nm_r hs (nm_r (e' := upd ysize 6 0) (by rw [nb_0]) ?_)))
  rw [show (96 : Int32) + nI (ex_n R) = nI (96 + ex_n R) from nI_add 96 _]
  refine sy_one (kd := kd) hd (fun i hi => ⟨(hK i hi).1, (hK i hi).2.1⟩) (fun _ => br_t rfl ?_) (fun q => absurd hsc q)
  refine sy_weigh (kd := kd) (vl := vl) hd hK hS hW (fun wt hg => br_f ?_ (h wt))
  have l := wc_le (ex_w R)
  rw [wg_b hg]
  refine nI_ge (a := 30) (b := wc_n (ex_w R)) ?_ (by omega)
  have := wc_30 (ex_w R)
  omega
theorem sy_model0 {post : Int32 → SY → Prop} {t : Nat} {kd vl : Nat → Nat} {R : ex_T} (ht : t < 6) (hd : ex_n R ≤ 16) (hs : ysize 6 = nI (ex_n R)) (hK : rl_K ykind ywith 96 (ex_n R) kd vl) (hsc : ex_sc kd (ex_n R) 0 1) (hS : ex_S kd vl R 0) (hW : ex_W R) (hw : ex_w R ≤ 30)
    (h : ∀ (x os tp : Int32) (ok ow wo ww wt fo fi la ba mt nm ta td : Nat → Int32), cf_best (gl_C (ex_L id R) vl) x → (x = -1 → ∀ kn wi : Nat → Int32, cp_K t (ex_n R) kd vl ykind ywith kn wi → post 0 (yplace, yroot, yrowLength, yfirst, os, tp, kn, wi, upd (upd ysize 6 0) t (nI (ex_n R)), upd ysort t 2, ymany, ha_clr yuse t 4, ytypeOf, yleast, ygreatest, ylisted, ytypeOfName, yused, yvalued, ygiven, yname, yparent, ychildren, ycount, yrow, yvalue, yattributes, yends, ylack, yshortest, ok, ow, wo, ww, wt, fo, fi, la, ba, mt, nm, ta, td)) ∧ (¬ x = -1 → post 7 (x, yroot, yrowLength, yfirst, os, tp, ykind, ywith, upd ysize 6 0, ysort, ymany, yuse, ytypeOf, yleast, ygreatest, ylisted, ytypeOfName, yused, yvalued, ygiven, yname, yparent, ychildren, ycount, yrow, yvalue, yattributes, yends, ylack, yshortest, ok, ow, wo, ww, wt, fo, fi, la, ba, mt, nm, ta, td))) : wpY_model post (yplace, yroot, yrowLength, yfirst, youts, ytop, ykind, ywith, ysize, ysort, ymany, yuse, ytypeOf, yleast, ygreatest, ylisted, ytypeOfName, yused, yvalued, ygiven, yname, yparent, ychildren, ycount, yrow, yvalue, yattributes, yends, ylack, yshortest, youtKind, youtWith, ywork, yworkWith, yweight, yfollow, yfirsts, ylasts, ybare, ymet, ynameAt, ytokenAt, ytodo) (nI t) := by
  have hn : ex_n (ex_E R) ≤ 1440 ∧ ex_l (ex_E R) ≤ 480 := by
    rcases Nat.eq_zero_or_pos (ex_w R) with q | q
    · rw [ex_E_0 R q]; simp only [ex_n, ex_l]; omega
    · have h1 := ex_E_n R hW q
      have h3 := ex_E_l R hW q
      have h2 : ex_n R * ex_w R ≤ 16 * 30 := Nat.mul_le_mul hd hw
      omega
  have ew := ex_E_w R hW
  unfold wpY_model
  refine sy_out0 (n := 6) (by omega) ht (br_t rfl (nm_r hs (nm_r (e' := upd ysize 6 0) (by rw [nb_0]) ?_)))
  rw [show (96 : Int32) + nI (ex_n R) = nI (96 + ex_n R) from nI_add 96 _]
  refine sy_one (kd := kd) hd (fun i hi => ⟨(hK i hi).1, (hK i hi).2.1⟩) (fun _ => br_t rfl ?_) (fun q => absurd hsc q)
  refine sy_weigh (kd := kd) (vl := vl) hd hK hS hW (fun wt hg => br_t ?_ ?_)
  · have l := wc_le (ex_w R)
    rw [wg_b hg]
    exact nI_le (b := 30) ((wc_30 _).mpr hw) (by omega)
  refine sy_writeOut (kd := kd) (vl := vl) hd hK hS hW hw hg (fun tp wo ww ok ow hO => ?_)
  refine sy_ambig (d := ex_n R) (kd := kd) (vl := vl) (T := ex_E R) hd hK hO (ex_Q_E R (ex_Q_S R 0 hS (by omega))) (by omega) (by omega) (by omega) (fun ta nm fi la ba fo Q => ?_)
  obtain ⟨_, gF, _, _, gt⟩ := Q
  rw [Nat.zero_add] at gF gt
  have G : yp_G (ex_n R) (ex_w (ex_E R)) kd vl fi fo ta nm := ⟨by omega, hd, fun i hi ki => (hK i hi).2.2.1 ki, fun q hq => (gF.1 q hq).2, fun p q hp hq => (gF.2.2.1 p q ⟨Nat.zero_le _, hp⟩ hq).2, fun p hp => gt p (Nat.zero_le _) hp⟩
  refine sy_pairs (d := ex_n R) (W := ex_w (ex_E R)) (kd := kd) (vl := vl) (yfirsts := fi) (yfollow := fo) (ytokenAt := ta) (ynameAt := nm) G (fun x mt td hx => ?_)
  have hb : cf_best (gl_C (ex_L id R) vl) x := by
    refine cf_iff (fun a b => ?_) hx
    rw [← gl_C_congr (ex_E_L id R hW) a b, ← gl_pairs gF (g := vl) (nm := yp_n ta vl) (fun p _ => rfl) a b]
    constructor
    · rintro ⟨p, q, ⟨k, hk'⟩, ea, eb⟩; exact ⟨k, p, q, hk', ea, eb⟩
    · rintro ⟨k, p, q, hk', ea, eb⟩; exact ⟨p, q, ⟨k, hk'⟩, ea, eb⟩
  obtain ⟨h0, h7⟩ := h x (nI (ex_n (ex_E R))) tp ok ow wo ww wt fo fi la ba mt nm ta td hb
  rcases hx with ⟨ex, _⟩ | ⟨t', t16, ex, _⟩
  · refine br_t (by rw [ex]; exact nb_m10) ⟨ex_n R + 1, ?_⟩
    exact sy_md90 (t := t) (d := ex_n R) (kd := kd) (vl := vl) (ykind := ykind) (ywith := ywith) (ysize := upd ysize 6 0) ht hd hK (fun kn wi c => h0 ex kn wi c) (ex_n R) 0 ykind ywith (by omega) ⟨fun j _ => ⟨rfl, rfl⟩, fun i hi => by omega⟩
  · refine br_f (by rw [ex]; exact nI_pos (by omega)) (h7 ?_)
    rw [ex]
    exact nb_nm (by omega)
end
end
section
/-! ===== model ===== -/
theorem rl_T_clr {so mn us ty tn : Nat → Int32} {t : Nat} (h : rl_T so mn us ty tn) : rl_T so mn (ha_clr us t 4) ty tn := by
  refine ⟨h.1, h.2.1, fun j hj => ⟨?_, (h.2.2.1 j hj).2⟩, h.2.2.2⟩
  unfold ha_clr
  by_cases q : 4 * t ≤ j ∧ j < 4 * t + 4
  · rw [if_pos q]; exact ⟨0, by omega, rfl⟩
  · rw [if_neg q]; exact (h.2.2.1 j hj).1
theorem rl_D_0 {dk dv yk yw ys : Nat → Int32} (h : ys 6 = nI 0) : rl_D 0 dk dv yk yw ys := ⟨by omega, h, fun _ => 0, fun _ => 0, fun i hi => by omega, fun i hi => by omega⟩
theorem ex_parse0 {kd vl : Nat → Nat} {d : Nat} (hV : ex_V kd vl d) (h : ex_sc kd d 0 1) : ∃ R, ex_S kd vl R 0 ∧ ex_W R ∧ ex_n R = d := by
  obtain ⟨R, h1, h2, h3, h4⟩ := ex_parse (kd := kd) (vl := vl) d 0 0 (by rw [Nat.zero_add]; exact hV) h
  refine ⟨R, h1, h2, ?_⟩
  cases e : d - ex_n R with
  | zero => omega
  | succ m => rw [e] at h4; exact absurd rfl h4.1
theorem xb_OK {d W : Nat} {R : ex_T} {kd vl : Nat → Nat} {ta fo be ac fo0 be0 ac0 : Nat → Int32} (hd : d ≤ 16) (hW : W ≤ 30) (hv : ∀ i, i < d → kd i = 0 → vl i < 6) (D : xb_D d W (ex_L id R) kd vl ta fo be ac fo0 be0 ac0) : xa_OK (fun s => fo (186 + s)) (fun c => be (36 + c)) (ac 6) (ex_L vl R) := by
  obtain ⟨A, em, gF, gz, ga, ge, gb, f1, f2, f3, gt⟩ := D
  have e : (fun w => ∃ u, ex_L id R u ∧ u.map vl = w) = ex_L vl R := funext (fun w => propext (ex_L_map vl R w).symm)
  rw [← e]
  refine xa_of (g := vl) gF hW (fun p hp => ?_) (fun p q hp => Iff.rfl) (fun p q h1 h2 => ?_) (fun q => Iff.rfl) ga ge (fun n q hn => gb n hn q)
  · obtain ⟨i, i1, i2, i3⟩ := gt p hp
    show vl ((ta p).toNatClampNeg) < 6
    rw [i1, nb_cl (by omega)]
    exact hv i i2 i3
  · show bt (fo (186 + p)) q = false
    rw [gz p h1 h2, b_0]
theorem i_vc_model {k : Nat} {u : SX} {v : SY} (I : i_Rel k u v) (hk : k + 5 ≤ 2560) (v1 : Int32) : wpX_model (fun r u' => wpY_model (fun r' v' => r' = r ∧ i_Rel (k + 5) u' v') v v1) u v1 := by
  refine i_el I (P := fun u v => wpX_model (fun r u' => wpY_model (fun r' v' => r' = r ∧ i_Rel (k + 5) u' v') v v1) u v1) ?_
  intro d latestPlace positions fragments elementCount draftKind draftValue weights tokenAt fragmentBegin fragmentFirst fragmentLast fragmentEmpty reachedWith follow bearing accepting kindOfType leastOf greatestOf listedCount listedValue attributeUse attributeType typeOfName inUse nameOf parentOf kidCount kids hasValue valueOf hasAttribute attributeValue walked waiting yroot yrowLength yfirst youts ytop ykind ywith ysize yparent yrow yends ylack yshortest youtKind youtWith ywork yworkWith yweight yfollow yfirsts ylasts ybare ymet ynameAt ytokenAt ytodo hD hT hM hE
  unfold wpX_model
  rcases nb_ix v1 6 (by omega) with hv | ⟨t, ht, rfl⟩
  · refine sx_type0 hv ?_
    refine br_t rfl ?_
    try unfold wpY_model
    refine sy_out1 (n := 6) (by omega) hv ?_
    refine br_f nb_10 ?_
    exact ⟨rfl, i_mk hD hT hM hE⟩
  · refine sx_type1 ht ?_
    refine br_f nb_10 ?_
    have hD' := hD
    obtain ⟨hd, hs, kd, vl, hK, hdk⟩ := hD'
    have hdr : dr_K d draftKind draftValue kd vl := fun i hi => by
      obtain ⟨a1, a2, a3, a4, a5⟩ := hK i hi
      exact ⟨(hdk i hi).1, a2, a3, a4, (hdk i hi).2⟩
    have hV : ex_V kd vl d := fun b hb => ⟨(hK b hb).2.1, (hK b hb).2.2.2.1⟩
    have z6 : ∀ f : Nat → Int32, upd f 6 0 6 = nI 0 := fun f => pk_us
    have M6 : ∀ fo be ac : Nat → Int32, (∀ j, j < 186 → fo j = follow j) → (∀ j, j < 36 → be j = bearing j) → (∀ j, j < 6 → ac j = accepting j) → rl_M kindOfType fo be ac ykind ywith (upd ysize 6 0) := fun fo be ac h1 h2 h3 => rl_M_cg hM (fun _ _ q => q) h1 h2 h3 (fun _ _ => rfl) (fun _ _ => rfl) (fun t ht => pk_un (by omega))
    by_cases hsc : ex_sc kd d 0 1
    · obtain ⟨R, hS, hW, hn⟩ := ex_parse0 hV hsc
      subst hn
      by_cases hw : ex_w R ≤ 30
      · refine sx_judge0 (kd := kd) (vl := vl) hd hdr hsc hS hW hw (fun x fr wt ta fb ff fl fe rw fo be ac hx D => ?_)
        have D' := D
        obtain ⟨A, em, gF, gz, ga, ge, gb, f1, f2, f3, gt⟩ := D'
        refine ⟨fun ex => br_t rfl ?_, fun nx => br_f (by decide) ?_⟩
        · refine sx_adopt ht ?_
          refine sy_model0 (kd := kd) (vl := vl) ht hd hs hK hsc hS hW hw (fun y os tp ok ow wo ww yt yfo fi la ba mt nm yta td hy => ⟨fun ey kn wi c => ?_, fun ny => absurd ((cf_uniq hy hx).trans ex) ny⟩)
          refine ⟨rfl, i_mk (d := 0) (rl_D_0 (by rw [pk_un (by omega), pk_us]; rfl)) (rl_T_clr (rl_T_so (s := 2) hT (by omega))) ?_ hE⟩
          intro t' ht' hs'
          by_cases e : t' = t
          · subst e
            refine ⟨kd, vl, R, hd, pk_us, fun i hi => ?_, hS, hW, hw, ?_⟩
            · obtain ⟨a1, a2, a3, a4, a5⟩ := hK i hi
              exact ⟨(c.2 i hi).1, a2, a3, a4, (c.2 i hi).2⟩
            · exact xa_OK_cg (xb_OK hd hw (fun i hi => (hK i hi).2.2.1) D) (fun s hs => cy_in hs) (fun n hn => cy_in hn) pk_us
          · rw [pk_un e] at hs'
            obtain ⟨kd', vl', R', a1, a2, a3, a4, a5, a6, a7⟩ := hM t' ht' hs'
            refine ⟨kd', vl', R', a1, ?_, rl_K_cg a3 (fun i hi => (c.1 _ (by omega)).1) (fun i hi => (c.1 _ (by omega)).2), a4, a5, a6, xa_OK_cg a7 (fun s hs => ?_) (fun n hn => ?_) ?_⟩
            · rw [pk_un e, pk_un (by omega)]; exact a2
            · show cy_f fo 186 (31 * t) 31 (31 * t' + s) = follow (31 * t' + s)
              rw [cy_out (by omega)]
              exact f1 _ (by omega)
            · show cy_f be 36 (6 * t) 6 (6 * t' + n) = bearing (6 * t' + n)
              rw [cy_out (by omega)]
              exact f2 _ (by omega)
            · rw [pk_un e]; exact f3 t' ht'
        · refine sy_model0 (kd := kd) (vl := vl) ht hd hs hK hsc hS hW hw (fun y os tp ok ow wo ww yt yfo fi la ba mt nm yta td hy => ⟨fun ey => absurd ((cf_uniq hx hy).trans ey) nx, fun ny => ?_⟩)
          rw [cf_uniq hy hx]
          exact ⟨rfl, i_mk (d := 0) (rl_D_0 (z6 _)) hT (M6 fo be ac f1 f2 f3) hE⟩
      · refine sx_judge6 (kd := kd) (vl := vl) hd hdr hsc hS hW (by omega) (fun wt => br_f (by decide) ?_)
        refine sy_model6 (kd := kd) (vl := vl) ht hd hs hK hsc hS hW (by omega) (fun yt => ?_)
        exact ⟨rfl, i_mk (d := 0) (rl_D_0 (z6 _)) hT (M6 _ _ _ (fun _ _ => rfl) (fun _ _ => rfl) (fun _ _ => rfl)) hE⟩
    · refine sx_judge5 (kd := kd) (vl := vl) hd hdr hsc (br_f (by decide) ?_)
      refine sy_model5 (kd := kd) (vl := vl) ht hd hs hK hsc ?_
      exact ⟨rfl, i_mk (d := 0) (rl_D_0 (z6 _)) hT (M6 _ _ _ (fun _ _ => rfl) (fun _ _ => rfl) (fun _ _ => rfl)) hE⟩
end
