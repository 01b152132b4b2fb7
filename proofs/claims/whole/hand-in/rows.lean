section
/-! pure rows to paste: stores, nI and lN arithmetic, masks, shifts, narrowing, branches by naturals (pk_le, pk_lt, pk_eq), loops (lp1 .. lp16: the measure of the state; rp1 ..: recursion), negatives. Take what you need -/
theorem pk_us {f : Nat → Int32} {k : Nat} {x : Int32} : upd f k x k = x := if_pos rfl
theorem pk_un {f : Nat → Int32} {k j : Nat} {x : Int32} (h : j ≠ k) : upd f k x j = f j := if_neg h
theorem pk_uLs {f : Nat → Int64} {k : Nat} {x : Int64} : vp_updL f k x k = x := if_pos rfl
theorem pk_uLn {f : Nat → Int64} {k j : Nat} {x : Int64} (h : j ≠ k) : vp_updL f k x j = f j := if_neg h
theorem pk_sub {a b : Nat} (h : b ≤ a) : nI a - nI b = nI (a - b) := by
  obtain ⟨c, rfl⟩ : ∃ c, a = c + b := ⟨a - b, by omega⟩
  rw [← nI_add, Int32.add_sub_cancel, Nat.add_sub_cancel]
theorem pk_m1 (n : Nat) : nI (n + 1) + (-1) = nI n := by
  rw [← nI_1, Int32.add_assoc, show (1 : Int32) + (-1) = 0 from rfl, Int32.add_zero]
theorem pk_mul (a b : Nat) : nI a * nI b = nI (a * b) := (Int32.ofNat_mul a b).symm
theorem pk_div {a d : Nat} (ha : a < 2 ^ 31) (h0 : 0 < d) (hd : d < 2 ^ 31) : nI a / nI d = nI (a / d) := by
  apply Int32.toInt_inj.mp
  rw [lg_idiv_nonneg (by rw [nI_toInt ha]; omega) (by rw [nI_toInt hd]; omega), nI_toInt ha, nI_toInt hd, nI_toInt (Nat.lt_of_le_of_lt (Nat.div_le_self a d) ha)]
  first | rfl | exact (Int.natCast_ediv _ _).symm
theorem pk_rem {a d : Nat} (ha : a < 2 ^ 31) (h0 : 0 < d) (hd : d < 2 ^ 31) : nI a - nI a / nI d * nI d = nI (a % d) := by
  rw [pk_div ha h0 hd, pk_mul, pk_sub (Nat.div_mul_le_self a d)]
  exact congrArg nI (by have := Nat.div_add_mod' a d; omega)
theorem pk_sub_toInt {a b : Nat} (ha : a < 2 ^ 30) (hb : b < 2 ^ 30) : (nI a - nI b).toInt = (a : Int) - b := by
  rw [Int32.toInt_sub, nI_toInt (by omega), nI_toInt (by omega)]
  exact Int.bmod_eq_of_le (by omega) (by omega)
theorem pk_sneg {a b : Nat} (hb : b < 2 ^ 30) (h : a < b) : nI a - nI b < 0 := by
  rw [Int32.lt_iff_toInt_lt, pk_sub_toInt (by omega) hb, show (0 : Int32).toInt = 0 from by decide]
  omega
theorem pk_ix (x : Int32) {n : Nat} (hn : n < 2 ^ 31) : x < 0 ∨ nI n ≤ x ∨ ∃ j : Nat, j < n ∧ x = nI j := by
  by_cases h : x < 0
  · exact Or.inl h
  · obtain ⟨j, hj, rfl⟩ := nI_of h
    by_cases h2 : j < n
    · exact Or.inr (Or.inr ⟨j, h2, rfl⟩)
    · exact Or.inr (Or.inl (nI_le (by omega) hj))
theorem pk_le {x y : Int32} {A B : Prop} (a b : Nat) (f : a ≤ b → A) (g : b < a → B) (hx : x = nI a := by rfl) (hy : y = nI b := by rfl) (ha : a < 2 ^ 31 := by omega) (hb : b < 2 ^ 31 := by omega) : (x ≤ y → A) ∧ (¬ x ≤ y → B) := by
  subst hx hy
  rw [nI_leI ha hb]
  exact ⟨f, fun z => g (by omega)⟩
theorem pk_lt {x y : Int32} {A B : Prop} (a b : Nat) (f : a < b → A) (g : b ≤ a → B) (hx : x = nI a := by rfl) (hy : y = nI b := by rfl) (ha : a < 2 ^ 31 := by omega) (hb : b < 2 ^ 31 := by omega) : (x < y → A) ∧ (¬ x < y → B) := by
  subst hx hy
  rw [nI_ltI ha hb]
  exact ⟨f, fun z => g (by omega)⟩
theorem pk_eq {x y : Int32} {A B : Prop} (a b : Nat) (f : a = b → A) (g : a ≠ b → B) (hx : x = nI a := by rfl) (hy : y = nI b := by rfl) (ha : a < 2 ^ 31 := by omega) (hb : b < 2 ^ 31 := by omega) : (x = y → A) ∧ (¬ x = y → B) := by
  subst hx hy
  rw [nI_eq ha hb]
  exact ⟨f, g⟩
theorem pk_in {x : Int32} (n N : Nat) (h : n < N) (hx : x = nI n := by rfl) (hN : N < 2 ^ 31 := by omega) : vp_in x N := by
  subst hx
  exact vp_in_nI h hN
theorem pk_cl {x : Int32} (n : Nat) (hx : x = nI n := by rfl) (h : n < 2 ^ 31 := by omega) : x.toNatClampNeg = n := by
  subst hx
  exact nI_clamp h
theorem pk_tn {n : Nat} (h : n < 2 ^ 32) : (nI n).toBitVec.toNat = n := Nat.mod_eq_of_lt h
theorem pk_and (x : Int32) {m : Int32} (k : Nat) (hm : m.toBitVec.toNat = 2 ^ k - 1) : x &&& m = nI (x.toBitVec.toNat % 2 ^ k) := by
  apply Int32.toBitVec_inj.mp
  apply BitVec.eq_of_toNat_eq
  rw [Int32.toBitVec_and, BitVec.toNat_and, hm, Nat.and_two_pow_sub_one_eq_mod]
  show _ = (BitVec.ofNat 32 _).toNat
  rw [BitVec.toNat_ofNat]
  exact (Nat.mod_eq_of_lt (Nat.lt_of_le_of_lt (Nat.mod_le _ _) x.toBitVec.isLt)).symm
theorem pk_andN {n : Nat} (h : n < 2 ^ 32) {m : Int32} (k : Nat) (hm : m.toBitVec.toNat = 2 ^ k - 1) : nI n &&& m = nI (n % 2 ^ k) := by
  rw [pk_and _ k hm, pk_tn h]
theorem pk_andE (x : Int32) {m : Int32} (k : Nat) (hm : m.toBitVec.toNat = 2 ^ k - 1) : ∃ j : Nat, j < 2 ^ k ∧ x &&& m = nI j := ⟨_, Nat.mod_lt _ (Nat.two_pow_pos k), pk_and x k hm⟩
theorem pk_andIn (x : Int32) {m : Int32} (k : Nat) (hm : m.toBitVec.toNat = 2 ^ k - 1) (hk : k ≤ 30) : vp_in (x &&& m) (2 ^ k) := by
  obtain ⟨j, hj, e⟩ := pk_andE x k hm
  rw [e]
  exact vp_in_nI hj (Nat.lt_of_le_of_lt (Nat.pow_le_pow_right (by decide) hk) (by decide))
theorem pk_shl (a s : Int32) (k : Nat) (hs : (s.toBitVec.smod 32).toNat = k) : (a <<< s).toBitVec.toNat = a.toBitVec.toNat * 2 ^ k % 2 ^ 32 := by
  show (a.toBitVec <<< (s.toBitVec.smod 32).toNat).toNat = _
  rw [hs, BitVec.toNat_shiftLeft, Nat.shiftLeft_eq]
theorem pk_shlN {n : Nat} (s : Int32) (k : Nat) (hs : (s.toBitVec.smod 32).toNat = k) (h : n * 2 ^ k < 2 ^ 32) : nI n <<< s = nI (n * 2 ^ k) := by
  apply Int32.toBitVec_inj.mp
  apply BitVec.eq_of_toNat_eq
  have hn : n < 2 ^ 32 := Nat.lt_of_le_of_lt (Nat.le_mul_of_pos_right n (Nat.two_pow_pos k)) h
  rw [pk_shl _ _ k hs, pk_tn hn, pk_tn h, Nat.mod_eq_of_lt h]
theorem pk_shr (a s : Int32) (k : Nat) (hs : (s.toBitVec.smod 32).toNat = k) : (a >>> s).toInt = a.toInt >>> k := by
  show (a.toBitVec.sshiftRight (s.toBitVec.smod 32).toNat).toInt = _
  rw [hs, BitVec.toInt_sshiftRight]
  rfl
theorem pk_shrN {n : Nat} (h : n < 2 ^ 31) (s : Int32) (k : Nat) (hs : (s.toBitVec.smod 32).toNat = k) : nI n >>> s = nI (n / 2 ^ k) := by
  apply Int32.toInt_inj.mp
  have h2 : n / 2 ^ k ≤ n := Nat.div_le_self _ _
  rw [pk_shr _ _ k hs, nI_toInt h, nI_toInt (by omega), Int.shiftRight_eq_div_pow]
  rfl
theorem pk_ushr (x s : Int32) (k : Nat) (hs : ((s.toUInt32 &&& Int32.toUInt32 31).toBitVec % 32).toNat = k) : (x.toUInt32 >>> (s.toUInt32 &&& Int32.toUInt32 31)).toInt32.toBitVec.toNat = x.toBitVec.toNat / 2 ^ k := by
  have e : (x.toUInt32 >>> (s.toUInt32 &&& Int32.toUInt32 31)).toInt32.toBitVec = x.toBitVec >>> k := by
    rw [← hs]
    exact UInt32.toBitVec_shiftRight _ _
  rw [e, BitVec.toNat_ushiftRight, Nat.shiftRight_eq_div_pow]
theorem pk_ushrN {n : Nat} (hn : n < 2 ^ 32) (s : Int32) (k : Nat) (hs : ((s.toUInt32 &&& Int32.toUInt32 31).toBitVec % 32).toNat = k) : ((nI n).toUInt32 >>> (s.toUInt32 &&& Int32.toUInt32 31)).toInt32 = nI (n / 2 ^ k) := by
  apply Int32.toBitVec_inj.mp
  apply BitVec.eq_of_toNat_eq
  rw [pk_ushr _ s k hs, pk_tn hn, pk_tn (Nat.lt_of_le_of_lt (Nat.div_le_self _ _) hn)]
theorem pk_nb (z : Int32) : narrow .byte (.int z.toInt8.toInt32) = .int z.toInt8.toInt32 := congrArg Value.int (by simp)
theorem pk_ns (z : Int32) : narrow .short (.int z.toInt16.toInt32) = .int z.toInt16.toInt32 := congrArg Value.int (by simp)
theorem pk_fb (r : Int32) : fits .byte (.int r.toInt8.toInt32) = true := by
  have ⟨a, b⟩ := lg_i2b_range r
  have h1 : (-128 : Int32).toInt = -128 := by decide
  have h2 : (127 : Int32).toInt = 127 := by decide
  simp only [fits, Bool.and_eq_true, decide_eq_true_eq, Int32.le_iff_toInt_le, h1, h2]
  omega
theorem pk_fs (r : Int32) : fits .short (.int r.toInt16.toInt32) = true := by
  have ⟨a, b⟩ := lg_i2s_range r
  have h1 : (-32768 : Int32).toInt = -32768 := by decide
  have h2 : (32767 : Int32).toInt = 32767 := by decide
  simp only [fits, Bool.and_eq_true, decide_eq_true_eq, Int32.le_iff_toInt_le, h1, h2]
  omega
theorem pk_charN {q : Nat} (hq : q < 65536) : narrow .char (.int (nI q)) = .int (nI q) ∧ fits .char (.int (nI q)) = true := by
  constructor
  · have e : (nI q).toUInt32.toUInt16.toUInt32.toInt32 = nI q := by
      apply Int32.toBitVec_inj.mp
      apply BitVec.eq_of_toNat_eq
      show (nI q).toUInt32.toUInt16.toUInt32.toNat = q % 2 ^ 32
      rw [UInt16.toNat_toUInt32, UInt32.toNat_toUInt16, show (nI q).toUInt32.toNat = q % 2 ^ 32 from rfl]
      omega
    exact congrArg Value.int e
  · have a : (0 : Int32) ≤ nI q := nI_pos' (by omega)
    have b : nI q ≤ 65535 := nI_le (b := 65535) (by omega) (by decide)
    show (decide ((0 : Int32) ≤ nI q) && decide (nI q ≤ 65535)) = true
    rw [decide_eq_true a, decide_eq_true b]
    rfl
theorem pk_char (x : Int32) : (x.toUInt32 % 65536).toInt32 = nI (x.toBitVec.toNat % 65536) := by
  apply Int32.toBitVec_inj.mp
  apply BitVec.eq_of_toNat_eq
  rw [pk_tn (by omega)]
  show (x.toUInt32 % 65536).toNat = _
  rw [UInt32.toNat_mod]
  rfl
theorem pk_nc (x : Int32) : narrow .char (.int (x.toUInt32 % 65536).toInt32) = .int (x.toUInt32 % 65536).toInt32 := by
  rw [pk_char]
  exact (pk_charN (Nat.mod_lt _ (by decide))).1
theorem pk_fc (x : Int32) : fits .char (.int (x.toUInt32 % 65536).toInt32) = true := by
  rw [pk_char]
  exact (pk_charN (Nat.mod_lt _ (by decide))).2
theorem pk_vb (z : Int32) : vp_nar .byte z.toInt8.toInt32 = z.toInt8.toInt32 := by rw [vp_nar_byte]; simp
theorem pk_vs (z : Int32) : vp_nar .short z.toInt16.toInt32 = z.toInt16.toInt32 := by rw [vp_nar_short]; simp
theorem pk_vc (z : Int32) : vp_nar .char (z.toUInt32 % 65536).toInt32 = (z.toUInt32 % 65536).toInt32 := Value.int.inj (pk_nc z)
theorem pk_lT {n : Nat} (h : n < 2 ^ 63) : (lN n).toInt = (n : Int) := lg_ofNat_toInt h
theorem pk_lLT {a b : Nat} (ha : a < 2 ^ 63) (hb : b < 2 ^ 63) : lN a < lN b ↔ a < b := by
  rw [Int64.lt_iff_toInt_lt, pk_lT ha, pk_lT hb]; omega
theorem pk_lLE {a b : Nat} (ha : a < 2 ^ 63) (hb : b < 2 ^ 63) : lN a ≤ lN b ↔ a ≤ b := by
  rw [Int64.le_iff_toInt_le, pk_lT ha, pk_lT hb]; omega
theorem pk_lEQ {a b : Nat} (ha : a < 2 ^ 63) (hb : b < 2 ^ 63) : lN a = lN b ↔ a = b := by
  rw [← Int64.toInt_inj, pk_lT ha, pk_lT hb]; omega
theorem pk_lOf {x : Int64} (h : ¬ x < 0) : ∃ k : Nat, k < 2 ^ 63 ∧ x = lN k := by
  rw [Int64.lt_iff_toInt_lt] at h
  have h0 : (0 : Int64).toInt = 0 := by decide
  have hx := Int64.toInt_lt x
  refine ⟨x.toInt.toNat, by omega, Int64.toInt_inj.mp ?_⟩
  rw [pk_lT (by omega)]
  omega
theorem pk_lDiv {a b : Nat} (ha : a < 2 ^ 63) (h0 : 0 < b) (hb : b < 2 ^ 63) : lN a / lN b = lN (a / b) := by
  apply Int64.toInt_inj.mp
  rw [lg_ldiv_nonneg (by rw [pk_lT ha]; omega) (by rw [pk_lT hb]; omega), pk_lT ha, pk_lT hb, pk_lT (Nat.lt_of_le_of_lt (Nat.div_le_self a b) ha)]
  rfl
theorem pk_lRem {a b : Nat} (ha : a < 2 ^ 63) (h0 : 0 < b) (hb : b < 2 ^ 63) : lN a - lN a / lN b * lN b = lN (a % b) := by
  rw [pk_lDiv ha h0 hb, lN_mul, lN_sub (Nat.div_mul_le_self a b)]
  exact congrArg lN (by have := Nat.div_add_mod' a b; omega)
theorem pk_loop {σ : Type} (W : Nat → Nat → σ → Prop) (I : Nat → σ → Prop) (e i0 : Nat) (s : σ) (hi : i0 ≤ e) (h0 : I i0 s) (hx : ∀ n s, I e s → W (n + 1) e s)
    (hs : ∀ n i s, i < e → I i s → (∀ s', I (i + 1) s' → W n (i + 1) s') → W (n + 1) i s) : ∃ n, W n i0 s :=
  ⟨e + 1, loop_i W I e hx hs (e + 1) i0 s hi (by omega) h0⟩
theorem pk_loopD {σ : Type} (W : Nat → Nat → σ → Prop) (I : Nat → σ → Prop) (hx : ∀ n s, I 0 s → W (n + 1) 0 s)
    (hs : ∀ n i s, I (i + 1) s → (∀ s', I i s' → W n i s') → W (n + 1) (i + 1) s) : ∀ (e : Nat) (s : σ), I e s → W (e + 1) e s := by
  intro e
  induction e with
  | zero => exact fun s h => hx 0 s h
  | succ e ih => exact fun s h => hs (e + 1) e s h (fun s' h' => ih s' h')
theorem lp1 {A1 : Type} (W : Nat → A1 → Prop) (I : A1 → Prop) (μ : A1 → Nat) (hs : ∀ (n : Nat) (a1 : A1), I a1 → (∀ (b1 : A1), I b1 → μ b1 < μ a1 → W n b1) → W (n + 1) a1) (a1 : A1) (h : I a1) : ∃ n, W n a1 :=
  loop_m (σ := A1) (fun n s => W n s) (fun s => I s) (fun s => μ s) (fun n s hI hk => hs n s hI (fun b1 h9 hm => hk b1 h9 hm)) a1 h
theorem lp2 {A1 A2 : Type} (W : Nat → A1 → A2 → Prop) (I : A1 → A2 → Prop) (μ : A1 → A2 → Nat) (hs : ∀ (n : Nat) (a1 : A1) (a2 : A2), I a1 a2 → (∀ (b1 : A1) (b2 : A2), I b1 b2 → μ b1 b2 < μ a1 a2 → W n b1 b2) → W (n + 1) a1 a2) (a1 : A1) (a2 : A2) (h : I a1 a2) : ∃ n, W n a1 a2 :=
  loop_m (σ := A1 × A2) (fun n s => W n s.1 s.2) (fun s => I s.1 s.2) (fun s => μ s.1 s.2) (fun n s hI hk => hs n s.1 s.2 hI (fun b1 b2 h9 hm => hk (b1, b2) h9 hm)) (a1, a2) h
theorem lp3 {A1 A2 A3 : Type} (W : Nat → A1 → A2 → A3 → Prop) (I : A1 → A2 → A3 → Prop) (μ : A1 → A2 → A3 → Nat) (hs : ∀ (n : Nat) (a1 : A1) (a2 : A2) (a3 : A3), I a1 a2 a3 → (∀ (b1 : A1) (b2 : A2) (b3 : A3), I b1 b2 b3 → μ b1 b2 b3 < μ a1 a2 a3 → W n b1 b2 b3) → W (n + 1) a1 a2 a3) (a1 : A1) (a2 : A2) (a3 : A3) (h : I a1 a2 a3) : ∃ n, W n a1 a2 a3 :=
  loop_m (σ := A1 × A2 × A3) (fun n s => W n s.1 s.2.1 s.2.2) (fun s => I s.1 s.2.1 s.2.2) (fun s => μ s.1 s.2.1 s.2.2) (fun n s hI hk => hs n s.1 s.2.1 s.2.2 hI (fun b1 b2 b3 h9 hm => hk (b1, b2, b3) h9 hm)) (a1, a2, a3) h
theorem lp4 {A1 A2 A3 A4 : Type} (W : Nat → A1 → A2 → A3 → A4 → Prop) (I : A1 → A2 → A3 → A4 → Prop) (μ : A1 → A2 → A3 → A4 → Nat) (hs : ∀ (n : Nat) (a1 : A1) (a2 : A2) (a3 : A3) (a4 : A4), I a1 a2 a3 a4 → (∀ (b1 : A1) (b2 : A2) (b3 : A3) (b4 : A4), I b1 b2 b3 b4 → μ b1 b2 b3 b4 < μ a1 a2 a3 a4 → W n b1 b2 b3 b4) → W (n + 1) a1 a2 a3 a4) (a1 : A1) (a2 : A2) (a3 : A3) (a4 : A4) (h : I a1 a2 a3 a4) : ∃ n, W n a1 a2 a3 a4 :=
  loop_m (σ := A1 × A2 × A3 × A4) (fun n s => W n s.1 s.2.1 s.2.2.1 s.2.2.2) (fun s => I s.1 s.2.1 s.2.2.1 s.2.2.2) (fun s => μ s.1 s.2.1 s.2.2.1 s.2.2.2) (fun n s hI hk => hs n s.1 s.2.1 s.2.2.1 s.2.2.2 hI (fun b1 b2 b3 b4 h9 hm => hk (b1, b2, b3, b4) h9 hm)) (a1, a2, a3, a4) h
theorem lp5 {A1 A2 A3 A4 A5 : Type} (W : Nat → A1 → A2 → A3 → A4 → A5 → Prop) (I : A1 → A2 → A3 → A4 → A5 → Prop) (μ : A1 → A2 → A3 → A4 → A5 → Nat) (hs : ∀ (n : Nat) (a1 : A1) (a2 : A2) (a3 : A3) (a4 : A4) (a5 : A5), I a1 a2 a3 a4 a5 → (∀ (b1 : A1) (b2 : A2) (b3 : A3) (b4 : A4) (b5 : A5), I b1 b2 b3 b4 b5 → μ b1 b2 b3 b4 b5 < μ a1 a2 a3 a4 a5 → W n b1 b2 b3 b4 b5) → W (n + 1) a1 a2 a3 a4 a5) (a1 : A1) (a2 : A2) (a3 : A3) (a4 : A4) (a5 : A5) (h : I a1 a2 a3 a4 a5) : ∃ n, W n a1 a2 a3 a4 a5 :=
  loop_m (σ := A1 × A2 × A3 × A4 × A5) (fun n s => W n s.1 s.2.1 s.2.2.1 s.2.2.2.1 s.2.2.2.2) (fun s => I s.1 s.2.1 s.2.2.1 s.2.2.2.1 s.2.2.2.2) (fun s => μ s.1 s.2.1 s.2.2.1 s.2.2.2.1 s.2.2.2.2) (fun n s hI hk => hs n s.1 s.2.1 s.2.2.1 s.2.2.2.1 s.2.2.2.2 hI (fun b1 b2 b3 b4 b5 h9 hm => hk (b1, b2, b3, b4, b5) h9 hm)) (a1, a2, a3, a4, a5) h
theorem lp6 {A1 A2 A3 A4 A5 A6 : Type} (W : Nat → A1 → A2 → A3 → A4 → A5 → A6 → Prop) (I : A1 → A2 → A3 → A4 → A5 → A6 → Prop) (μ : A1 → A2 → A3 → A4 → A5 → A6 → Nat) (hs : ∀ (n : Nat) (a1 : A1) (a2 : A2) (a3 : A3) (a4 : A4) (a5 : A5) (a6 : A6), I a1 a2 a3 a4 a5 a6 → (∀ (b1 : A1) (b2 : A2) (b3 : A3) (b4 : A4) (b5 : A5) (b6 : A6), I b1 b2 b3 b4 b5 b6 → μ b1 b2 b3 b4 b5 b6 < μ a1 a2 a3 a4 a5 a6 → W n b1 b2 b3 b4 b5 b6) → W (n + 1) a1 a2 a3 a4 a5 a6) (a1 : A1) (a2 : A2) (a3 : A3) (a4 : A4) (a5 : A5) (a6 : A6) (h : I a1 a2 a3 a4 a5 a6) : ∃ n, W n a1 a2 a3 a4 a5 a6 :=
  loop_m (σ := A1 × A2 × A3 × A4 × A5 × A6) (fun n s => W n s.1 s.2.1 s.2.2.1 s.2.2.2.1 s.2.2.2.2.1 s.2.2.2.2.2) (fun s => I s.1 s.2.1 s.2.2.1 s.2.2.2.1 s.2.2.2.2.1 s.2.2.2.2.2) (fun s => μ s.1 s.2.1 s.2.2.1 s.2.2.2.1 s.2.2.2.2.1 s.2.2.2.2.2) (fun n s hI hk => hs n s.1 s.2.1 s.2.2.1 s.2.2.2.1 s.2.2.2.2.1 s.2.2.2.2.2 hI (fun b1 b2 b3 b4 b5 b6 h9 hm => hk (b1, b2, b3, b4, b5, b6) h9 hm)) (a1, a2, a3, a4, a5, a6) h
theorem lp7 {A1 A2 A3 A4 A5 A6 A7 : Type} (W : Nat → A1 → A2 → A3 → A4 → A5 → A6 → A7 → Prop) (I : A1 → A2 → A3 → A4 → A5 → A6 → A7 → Prop) (μ : A1 → A2 → A3 → A4 → A5 → A6 → A7 → Nat) (hs : ∀ (n : Nat) (a1 : A1) (a2 : A2) (a3 : A3) (a4 : A4) (a5 : A5) (a6 : A6) (a7 : A7), I a1 a2 a3 a4 a5 a6 a7 → (∀ (b1 : A1) (b2 : A2) (b3 : A3) (b4 : A4) (b5 : A5) (b6 : A6) (b7 : A7), I b1 b2 b3 b4 b5 b6 b7 → μ b1 b2 b3 b4 b5 b6 b7 < μ a1 a2 a3 a4 a5 a6 a7 → W n b1 b2 b3 b4 b5 b6 b7) → W (n + 1) a1 a2 a3 a4 a5 a6 a7) (a1 : A1) (a2 : A2) (a3 : A3) (a4 : A4) (a5 : A5) (a6 : A6) (a7 : A7) (h : I a1 a2 a3 a4 a5 a6 a7) : ∃ n, W n a1 a2 a3 a4 a5 a6 a7 :=
  loop_m (σ := A1 × A2 × A3 × A4 × A5 × A6 × A7) (fun n s => W n s.1 s.2.1 s.2.2.1 s.2.2.2.1 s.2.2.2.2.1 s.2.2.2.2.2.1 s.2.2.2.2.2.2) (fun s => I s.1 s.2.1 s.2.2.1 s.2.2.2.1 s.2.2.2.2.1 s.2.2.2.2.2.1 s.2.2.2.2.2.2) (fun s => μ s.1 s.2.1 s.2.2.1 s.2.2.2.1 s.2.2.2.2.1 s.2.2.2.2.2.1 s.2.2.2.2.2.2) (fun n s hI hk => hs n s.1 s.2.1 s.2.2.1 s.2.2.2.1 s.2.2.2.2.1 s.2.2.2.2.2.1 s.2.2.2.2.2.2 hI (fun b1 b2 b3 b4 b5 b6 b7 h9 hm => hk (b1, b2, b3, b4, b5, b6, b7) h9 hm)) (a1, a2, a3, a4, a5, a6, a7) h
theorem lp8 {A1 A2 A3 A4 A5 A6 A7 A8 : Type} (W : Nat → A1 → A2 → A3 → A4 → A5 → A6 → A7 → A8 → Prop) (I : A1 → A2 → A3 → A4 → A5 → A6 → A7 → A8 → Prop) (μ : A1 → A2 → A3 → A4 → A5 → A6 → A7 → A8 → Nat) (hs : ∀ (n : Nat) (a1 : A1) (a2 : A2) (a3 : A3) (a4 : A4) (a5 : A5) (a6 : A6) (a7 : A7) (a8 : A8), I a1 a2 a3 a4 a5 a6 a7 a8 → (∀ (b1 : A1) (b2 : A2) (b3 : A3) (b4 : A4) (b5 : A5) (b6 : A6) (b7 : A7) (b8 : A8), I b1 b2 b3 b4 b5 b6 b7 b8 → μ b1 b2 b3 b4 b5 b6 b7 b8 < μ a1 a2 a3 a4 a5 a6 a7 a8 → W n b1 b2 b3 b4 b5 b6 b7 b8) → W (n + 1) a1 a2 a3 a4 a5 a6 a7 a8) (a1 : A1) (a2 : A2) (a3 : A3) (a4 : A4) (a5 : A5) (a6 : A6) (a7 : A7) (a8 : A8) (h : I a1 a2 a3 a4 a5 a6 a7 a8) : ∃ n, W n a1 a2 a3 a4 a5 a6 a7 a8 :=
  loop_m (σ := A1 × A2 × A3 × A4 × A5 × A6 × A7 × A8) (fun n s => W n s.1 s.2.1 s.2.2.1 s.2.2.2.1 s.2.2.2.2.1 s.2.2.2.2.2.1 s.2.2.2.2.2.2.1 s.2.2.2.2.2.2.2) (fun s => I s.1 s.2.1 s.2.2.1 s.2.2.2.1 s.2.2.2.2.1 s.2.2.2.2.2.1 s.2.2.2.2.2.2.1 s.2.2.2.2.2.2.2) (fun s => μ s.1 s.2.1 s.2.2.1 s.2.2.2.1 s.2.2.2.2.1 s.2.2.2.2.2.1 s.2.2.2.2.2.2.1 s.2.2.2.2.2.2.2) (fun n s hI hk => hs n s.1 s.2.1 s.2.2.1 s.2.2.2.1 s.2.2.2.2.1 s.2.2.2.2.2.1 s.2.2.2.2.2.2.1 s.2.2.2.2.2.2.2 hI (fun b1 b2 b3 b4 b5 b6 b7 b8 h9 hm => hk (b1, b2, b3, b4, b5, b6, b7, b8) h9 hm)) (a1, a2, a3, a4, a5, a6, a7, a8) h
theorem lp9 {A1 A2 A3 A4 A5 A6 A7 A8 A9 : Type} (W : Nat → A1 → A2 → A3 → A4 → A5 → A6 → A7 → A8 → A9 → Prop) (I : A1 → A2 → A3 → A4 → A5 → A6 → A7 → A8 → A9 → Prop) (μ : A1 → A2 → A3 → A4 → A5 → A6 → A7 → A8 → A9 → Nat) (hs : ∀ (n : Nat) (a1 : A1) (a2 : A2) (a3 : A3) (a4 : A4) (a5 : A5) (a6 : A6) (a7 : A7) (a8 : A8) (a9 : A9), I a1 a2 a3 a4 a5 a6 a7 a8 a9 → (∀ (b1 : A1) (b2 : A2) (b3 : A3) (b4 : A4) (b5 : A5) (b6 : A6) (b7 : A7) (b8 : A8) (b9 : A9), I b1 b2 b3 b4 b5 b6 b7 b8 b9 → μ b1 b2 b3 b4 b5 b6 b7 b8 b9 < μ a1 a2 a3 a4 a5 a6 a7 a8 a9 → W n b1 b2 b3 b4 b5 b6 b7 b8 b9) → W (n + 1) a1 a2 a3 a4 a5 a6 a7 a8 a9) (a1 : A1) (a2 : A2) (a3 : A3) (a4 : A4) (a5 : A5) (a6 : A6) (a7 : A7) (a8 : A8) (a9 : A9) (h : I a1 a2 a3 a4 a5 a6 a7 a8 a9) : ∃ n, W n a1 a2 a3 a4 a5 a6 a7 a8 a9 :=
  loop_m (σ := A1 × A2 × A3 × A4 × A5 × A6 × A7 × A8 × A9) (fun n s => W n s.1 s.2.1 s.2.2.1 s.2.2.2.1 s.2.2.2.2.1 s.2.2.2.2.2.1 s.2.2.2.2.2.2.1 s.2.2.2.2.2.2.2.1 s.2.2.2.2.2.2.2.2) (fun s => I s.1 s.2.1 s.2.2.1 s.2.2.2.1 s.2.2.2.2.1 s.2.2.2.2.2.1 s.2.2.2.2.2.2.1 s.2.2.2.2.2.2.2.1 s.2.2.2.2.2.2.2.2) (fun s => μ s.1 s.2.1 s.2.2.1 s.2.2.2.1 s.2.2.2.2.1 s.2.2.2.2.2.1 s.2.2.2.2.2.2.1 s.2.2.2.2.2.2.2.1 s.2.2.2.2.2.2.2.2) (fun n s hI hk => hs n s.1 s.2.1 s.2.2.1 s.2.2.2.1 s.2.2.2.2.1 s.2.2.2.2.2.1 s.2.2.2.2.2.2.1 s.2.2.2.2.2.2.2.1 s.2.2.2.2.2.2.2.2 hI (fun b1 b2 b3 b4 b5 b6 b7 b8 b9 h9 hm => hk (b1, b2, b3, b4, b5, b6, b7, b8, b9) h9 hm)) (a1, a2, a3, a4, a5, a6, a7, a8, a9) h
theorem lp10 {A1 A2 A3 A4 A5 A6 A7 A8 A9 A10 : Type} (W : Nat → A1 → A2 → A3 → A4 → A5 → A6 → A7 → A8 → A9 → A10 → Prop) (I : A1 → A2 → A3 → A4 → A5 → A6 → A7 → A8 → A9 → A10 → Prop) (μ : A1 → A2 → A3 → A4 → A5 → A6 → A7 → A8 → A9 → A10 → Nat) (hs : ∀ (n : Nat) (a1 : A1) (a2 : A2) (a3 : A3) (a4 : A4) (a5 : A5) (a6 : A6) (a7 : A7) (a8 : A8) (a9 : A9) (a10 : A10), I a1 a2 a3 a4 a5 a6 a7 a8 a9 a10 → (∀ (b1 : A1) (b2 : A2) (b3 : A3) (b4 : A4) (b5 : A5) (b6 : A6) (b7 : A7) (b8 : A8) (b9 : A9) (b10 : A10), I b1 b2 b3 b4 b5 b6 b7 b8 b9 b10 → μ b1 b2 b3 b4 b5 b6 b7 b8 b9 b10 < μ a1 a2 a3 a4 a5 a6 a7 a8 a9 a10 → W n b1 b2 b3 b4 b5 b6 b7 b8 b9 b10) → W (n + 1) a1 a2 a3 a4 a5 a6 a7 a8 a9 a10) (a1 : A1) (a2 : A2) (a3 : A3) (a4 : A4) (a5 : A5) (a6 : A6) (a7 : A7) (a8 : A8) (a9 : A9) (a10 : A10) (h : I a1 a2 a3 a4 a5 a6 a7 a8 a9 a10) : ∃ n, W n a1 a2 a3 a4 a5 a6 a7 a8 a9 a10 :=
  loop_m (σ := A1 × A2 × A3 × A4 × A5 × A6 × A7 × A8 × A9 × A10) (fun n s => W n s.1 s.2.1 s.2.2.1 s.2.2.2.1 s.2.2.2.2.1 s.2.2.2.2.2.1 s.2.2.2.2.2.2.1 s.2.2.2.2.2.2.2.1 s.2.2.2.2.2.2.2.2.1 s.2.2.2.2.2.2.2.2.2) (fun s => I s.1 s.2.1 s.2.2.1 s.2.2.2.1 s.2.2.2.2.1 s.2.2.2.2.2.1 s.2.2.2.2.2.2.1 s.2.2.2.2.2.2.2.1 s.2.2.2.2.2.2.2.2.1 s.2.2.2.2.2.2.2.2.2) (fun s => μ s.1 s.2.1 s.2.2.1 s.2.2.2.1 s.2.2.2.2.1 s.2.2.2.2.2.1 s.2.2.2.2.2.2.1 s.2.2.2.2.2.2.2.1 s.2.2.2.2.2.2.2.2.1 s.2.2.2.2.2.2.2.2.2) (fun n s hI hk => hs n s.1 s.2.1 s.2.2.1 s.2.2.2.1 s.2.2.2.2.1 s.2.2.2.2.2.1 s.2.2.2.2.2.2.1 s.2.2.2.2.2.2.2.1 s.2.2.2.2.2.2.2.2.1 s.2.2.2.2.2.2.2.2.2 hI (fun b1 b2 b3 b4 b5 b6 b7 b8 b9 b10 h9 hm => hk (b1, b2, b3, b4, b5, b6, b7, b8, b9, b10) h9 hm)) (a1, a2, a3, a4, a5, a6, a7, a8, a9, a10) h
theorem lp11 {A1 A2 A3 A4 A5 A6 A7 A8 A9 A10 A11 : Type} (W : Nat → A1 → A2 → A3 → A4 → A5 → A6 → A7 → A8 → A9 → A10 → A11 → Prop) (I : A1 → A2 → A3 → A4 → A5 → A6 → A7 → A8 → A9 → A10 → A11 → Prop) (μ : A1 → A2 → A3 → A4 → A5 → A6 → A7 → A8 → A9 → A10 → A11 → Nat) (hs : ∀ (n : Nat) (a1 : A1) (a2 : A2) (a3 : A3) (a4 : A4) (a5 : A5) (a6 : A6) (a7 : A7) (a8 : A8) (a9 : A9) (a10 : A10) (a11 : A11), I a1 a2 a3 a4 a5 a6 a7 a8 a9 a10 a11 → (∀ (b1 : A1) (b2 : A2) (b3 : A3) (b4 : A4) (b5 : A5) (b6 : A6) (b7 : A7) (b8 : A8) (b9 : A9) (b10 : A10) (b11 : A11), I b1 b2 b3 b4 b5 b6 b7 b8 b9 b10 b11 → μ b1 b2 b3 b4 b5 b6 b7 b8 b9 b10 b11 < μ a1 a2 a3 a4 a5 a6 a7 a8 a9 a10 a11 → W n b1 b2 b3 b4 b5 b6 b7 b8 b9 b10 b11) → W (n + 1) a1 a2 a3 a4 a5 a6 a7 a8 a9 a10 a11) (a1 : A1) (a2 : A2) (a3 : A3) (a4 : A4) (a5 : A5) (a6 : A6) (a7 : A7) (a8 : A8) (a9 : A9) (a10 : A10) (a11 : A11) (h : I a1 a2 a3 a4 a5 a6 a7 a8 a9 a10 a11) : ∃ n, W n a1 a2 a3 a4 a5 a6 a7 a8 a9 a10 a11 :=
  loop_m (σ := A1 × A2 × A3 × A4 × A5 × A6 × A7 × A8 × A9 × A10 × A11) (fun n s => W n s.1 s.2.1 s.2.2.1 s.2.2.2.1 s.2.2.2.2.1 s.2.2.2.2.2.1 s.2.2.2.2.2.2.1 s.2.2.2.2.2.2.2.1 s.2.2.2.2.2.2.2.2.1 s.2.2.2.2.2.2.2.2.2.1 s.2.2.2.2.2.2.2.2.2.2) (fun s => I s.1 s.2.1 s.2.2.1 s.2.2.2.1 s.2.2.2.2.1 s.2.2.2.2.2.1 s.2.2.2.2.2.2.1 s.2.2.2.2.2.2.2.1 s.2.2.2.2.2.2.2.2.1 s.2.2.2.2.2.2.2.2.2.1 s.2.2.2.2.2.2.2.2.2.2) (fun s => μ s.1 s.2.1 s.2.2.1 s.2.2.2.1 s.2.2.2.2.1 s.2.2.2.2.2.1 s.2.2.2.2.2.2.1 s.2.2.2.2.2.2.2.1 s.2.2.2.2.2.2.2.2.1 s.2.2.2.2.2.2.2.2.2.1 s.2.2.2.2.2.2.2.2.2.2) (fun n s hI hk => hs n s.1 s.2.1 s.2.2.1 s.2.2.2.1 s.2.2.2.2.1 s.2.2.2.2.2.1 s.2.2.2.2.2.2.1 s.2.2.2.2.2.2.2.1 s.2.2.2.2.2.2.2.2.1 s.2.2.2.2.2.2.2.2.2.1 s.2.2.2.2.2.2.2.2.2.2 hI (fun b1 b2 b3 b4 b5 b6 b7 b8 b9 b10 b11 h9 hm => hk (b1, b2, b3, b4, b5, b6, b7, b8, b9, b10, b11) h9 hm)) (a1, a2, a3, a4, a5, a6, a7, a8, a9, a10, a11) h
theorem lp12 {A1 A2 A3 A4 A5 A6 A7 A8 A9 A10 A11 A12 : Type} (W : Nat → A1 → A2 → A3 → A4 → A5 → A6 → A7 → A8 → A9 → A10 → A11 → A12 → Prop) (I : A1 → A2 → A3 → A4 → A5 → A6 → A7 → A8 → A9 → A10 → A11 → A12 → Prop) (μ : A1 → A2 → A3 → A4 → A5 → A6 → A7 → A8 → A9 → A10 → A11 → A12 → Nat) (hs : ∀ (n : Nat) (a1 : A1) (a2 : A2) (a3 : A3) (a4 : A4) (a5 : A5) (a6 : A6) (a7 : A7) (a8 : A8) (a9 : A9) (a10 : A10) (a11 : A11) (a12 : A12), I a1 a2 a3 a4 a5 a6 a7 a8 a9 a10 a11 a12 → (∀ (b1 : A1) (b2 : A2) (b3 : A3) (b4 : A4) (b5 : A5) (b6 : A6) (b7 : A7) (b8 : A8) (b9 : A9) (b10 : A10) (b11 : A11) (b12 : A12), I b1 b2 b3 b4 b5 b6 b7 b8 b9 b10 b11 b12 → μ b1 b2 b3 b4 b5 b6 b7 b8 b9 b10 b11 b12 < μ a1 a2 a3 a4 a5 a6 a7 a8 a9 a10 a11 a12 → W n b1 b2 b3 b4 b5 b6 b7 b8 b9 b10 b11 b12) → W (n + 1) a1 a2 a3 a4 a5 a6 a7 a8 a9 a10 a11 a12) (a1 : A1) (a2 : A2) (a3 : A3) (a4 : A4) (a5 : A5) (a6 : A6) (a7 : A7) (a8 : A8) (a9 : A9) (a10 : A10) (a11 : A11) (a12 : A12) (h : I a1 a2 a3 a4 a5 a6 a7 a8 a9 a10 a11 a12) : ∃ n, W n a1 a2 a3 a4 a5 a6 a7 a8 a9 a10 a11 a12 :=
  loop_m (σ := A1 × A2 × A3 × A4 × A5 × A6 × A7 × A8 × A9 × A10 × A11 × A12) (fun n s => W n s.1 s.2.1 s.2.2.1 s.2.2.2.1 s.2.2.2.2.1 s.2.2.2.2.2.1 s.2.2.2.2.2.2.1 s.2.2.2.2.2.2.2.1 s.2.2.2.2.2.2.2.2.1 s.2.2.2.2.2.2.2.2.2.1 s.2.2.2.2.2.2.2.2.2.2.1 s.2.2.2.2.2.2.2.2.2.2.2) (fun s => I s.1 s.2.1 s.2.2.1 s.2.2.2.1 s.2.2.2.2.1 s.2.2.2.2.2.1 s.2.2.2.2.2.2.1 s.2.2.2.2.2.2.2.1 s.2.2.2.2.2.2.2.2.1 s.2.2.2.2.2.2.2.2.2.1 s.2.2.2.2.2.2.2.2.2.2.1 s.2.2.2.2.2.2.2.2.2.2.2) (fun s => μ s.1 s.2.1 s.2.2.1 s.2.2.2.1 s.2.2.2.2.1 s.2.2.2.2.2.1 s.2.2.2.2.2.2.1 s.2.2.2.2.2.2.2.1 s.2.2.2.2.2.2.2.2.1 s.2.2.2.2.2.2.2.2.2.1 s.2.2.2.2.2.2.2.2.2.2.1 s.2.2.2.2.2.2.2.2.2.2.2) (fun n s hI hk => hs n s.1 s.2.1 s.2.2.1 s.2.2.2.1 s.2.2.2.2.1 s.2.2.2.2.2.1 s.2.2.2.2.2.2.1 s.2.2.2.2.2.2.2.1 s.2.2.2.2.2.2.2.2.1 s.2.2.2.2.2.2.2.2.2.1 s.2.2.2.2.2.2.2.2.2.2.1 s.2.2.2.2.2.2.2.2.2.2.2 hI (fun b1 b2 b3 b4 b5 b6 b7 b8 b9 b10 b11 b12 h9 hm => hk (b1, b2, b3, b4, b5, b6, b7, b8, b9, b10, b11, b12) h9 hm)) (a1, a2, a3, a4, a5, a6, a7, a8, a9, a10, a11, a12) h
theorem lp13 {A1 A2 A3 A4 A5 A6 A7 A8 A9 A10 A11 A12 A13 : Type} (W : Nat → A1 → A2 → A3 → A4 → A5 → A6 → A7 → A8 → A9 → A10 → A11 → A12 → A13 → Prop) (I : A1 → A2 → A3 → A4 → A5 → A6 → A7 → A8 → A9 → A10 → A11 → A12 → A13 → Prop) (μ : A1 → A2 → A3 → A4 → A5 → A6 → A7 → A8 → A9 → A10 → A11 → A12 → A13 → Nat) (hs : ∀ (n : Nat) (a1 : A1) (a2 : A2) (a3 : A3) (a4 : A4) (a5 : A5) (a6 : A6) (a7 : A7) (a8 : A8) (a9 : A9) (a10 : A10) (a11 : A11) (a12 : A12) (a13 : A13), I a1 a2 a3 a4 a5 a6 a7 a8 a9 a10 a11 a12 a13 → (∀ (b1 : A1) (b2 : A2) (b3 : A3) (b4 : A4) (b5 : A5) (b6 : A6) (b7 : A7) (b8 : A8) (b9 : A9) (b10 : A10) (b11 : A11) (b12 : A12) (b13 : A13), I b1 b2 b3 b4 b5 b6 b7 b8 b9 b10 b11 b12 b13 → μ b1 b2 b3 b4 b5 b6 b7 b8 b9 b10 b11 b12 b13 < μ a1 a2 a3 a4 a5 a6 a7 a8 a9 a10 a11 a12 a13 → W n b1 b2 b3 b4 b5 b6 b7 b8 b9 b10 b11 b12 b13) → W (n + 1) a1 a2 a3 a4 a5 a6 a7 a8 a9 a10 a11 a12 a13) (a1 : A1) (a2 : A2) (a3 : A3) (a4 : A4) (a5 : A5) (a6 : A6) (a7 : A7) (a8 : A8) (a9 : A9) (a10 : A10) (a11 : A11) (a12 : A12) (a13 : A13) (h : I a1 a2 a3 a4 a5 a6 a7 a8 a9 a10 a11 a12 a13) : ∃ n, W n a1 a2 a3 a4 a5 a6 a7 a8 a9 a10 a11 a12 a13 :=
  loop_m (σ := A1 × A2 × A3 × A4 × A5 × A6 × A7 × A8 × A9 × A10 × A11 × A12 × A13) (fun n s => W n s.1 s.2.1 s.2.2.1 s.2.2.2.1 s.2.2.2.2.1 s.2.2.2.2.2.1 s.2.2.2.2.2.2.1 s.2.2.2.2.2.2.2.1 s.2.2.2.2.2.2.2.2.1 s.2.2.2.2.2.2.2.2.2.1 s.2.2.2.2.2.2.2.2.2.2.1 s.2.2.2.2.2.2.2.2.2.2.2.1 s.2.2.2.2.2.2.2.2.2.2.2.2) (fun s => I s.1 s.2.1 s.2.2.1 s.2.2.2.1 s.2.2.2.2.1 s.2.2.2.2.2.1 s.2.2.2.2.2.2.1 s.2.2.2.2.2.2.2.1 s.2.2.2.2.2.2.2.2.1 s.2.2.2.2.2.2.2.2.2.1 s.2.2.2.2.2.2.2.2.2.2.1 s.2.2.2.2.2.2.2.2.2.2.2.1 s.2.2.2.2.2.2.2.2.2.2.2.2) (fun s => μ s.1 s.2.1 s.2.2.1 s.2.2.2.1 s.2.2.2.2.1 s.2.2.2.2.2.1 s.2.2.2.2.2.2.1 s.2.2.2.2.2.2.2.1 s.2.2.2.2.2.2.2.2.1 s.2.2.2.2.2.2.2.2.2.1 s.2.2.2.2.2.2.2.2.2.2.1 s.2.2.2.2.2.2.2.2.2.2.2.1 s.2.2.2.2.2.2.2.2.2.2.2.2) (fun n s hI hk => hs n s.1 s.2.1 s.2.2.1 s.2.2.2.1 s.2.2.2.2.1 s.2.2.2.2.2.1 s.2.2.2.2.2.2.1 s.2.2.2.2.2.2.2.1 s.2.2.2.2.2.2.2.2.1 s.2.2.2.2.2.2.2.2.2.1 s.2.2.2.2.2.2.2.2.2.2.1 s.2.2.2.2.2.2.2.2.2.2.2.1 s.2.2.2.2.2.2.2.2.2.2.2.2 hI (fun b1 b2 b3 b4 b5 b6 b7 b8 b9 b10 b11 b12 b13 h9 hm => hk (b1, b2, b3, b4, b5, b6, b7, b8, b9, b10, b11, b12, b13) h9 hm)) (a1, a2, a3, a4, a5, a6, a7, a8, a9, a10, a11, a12, a13) h
theorem lp14 {A1 A2 A3 A4 A5 A6 A7 A8 A9 A10 A11 A12 A13 A14 : Type} (W : Nat → A1 → A2 → A3 → A4 → A5 → A6 → A7 → A8 → A9 → A10 → A11 → A12 → A13 → A14 → Prop) (I : A1 → A2 → A3 → A4 → A5 → A6 → A7 → A8 → A9 → A10 → A11 → A12 → A13 → A14 → Prop) (μ : A1 → A2 → A3 → A4 → A5 → A6 → A7 → A8 → A9 → A10 → A11 → A12 → A13 → A14 → Nat) (hs : ∀ (n : Nat) (a1 : A1) (a2 : A2) (a3 : A3) (a4 : A4) (a5 : A5) (a6 : A6) (a7 : A7) (a8 : A8) (a9 : A9) (a10 : A10) (a11 : A11) (a12 : A12) (a13 : A13) (a14 : A14), I a1 a2 a3 a4 a5 a6 a7 a8 a9 a10 a11 a12 a13 a14 → (∀ (b1 : A1) (b2 : A2) (b3 : A3) (b4 : A4) (b5 : A5) (b6 : A6) (b7 : A7) (b8 : A8) (b9 : A9) (b10 : A10) (b11 : A11) (b12 : A12) (b13 : A13) (b14 : A14), I b1 b2 b3 b4 b5 b6 b7 b8 b9 b10 b11 b12 b13 b14 → μ b1 b2 b3 b4 b5 b6 b7 b8 b9 b10 b11 b12 b13 b14 < μ a1 a2 a3 a4 a5 a6 a7 a8 a9 a10 a11 a12 a13 a14 → W n b1 b2 b3 b4 b5 b6 b7 b8 b9 b10 b11 b12 b13 b14) → W (n + 1) a1 a2 a3 a4 a5 a6 a7 a8 a9 a10 a11 a12 a13 a14) (a1 : A1) (a2 : A2) (a3 : A3) (a4 : A4) (a5 : A5) (a6 : A6) (a7 : A7) (a8 : A8) (a9 : A9) (a10 : A10) (a11 : A11) (a12 : A12) (a13 : A13) (a14 : A14) (h : I a1 a2 a3 a4 a5 a6 a7 a8 a9 a10 a11 a12 a13 a14) : ∃ n, W n a1 a2 a3 a4 a5 a6 a7 a8 a9 a10 a11 a12 a13 a14 :=
  loop_m (σ := A1 × A2 × A3 × A4 × A5 × A6 × A7 × A8 × A9 × A10 × A11 × A12 × A13 × A14) (fun n s => W n s.1 s.2.1 s.2.2.1 s.2.2.2.1 s.2.2.2.2.1 s.2.2.2.2.2.1 s.2.2.2.2.2.2.1 s.2.2.2.2.2.2.2.1 s.2.2.2.2.2.2.2.2.1 s.2.2.2.2.2.2.2.2.2.1 s.2.2.2.2.2.2.2.2.2.2.1 s.2.2.2.2.2.2.2.2.2.2.2.1 s.2.2.2.2.2.2.2.2.2.2.2.2.1 s.2.2.2.2.2.2.2.2.2.2.2.2.2) (fun s => I s.1 s.2.1 s.2.2.1 s.2.2.2.1 s.2.2.2.2.1 s.2.2.2.2.2.1 s.2.2.2.2.2.2.1 s.2.2.2.2.2.2.2.1 s.2.2.2.2.2.2.2.2.1 s.2.2.2.2.2.2.2.2.2.1 s.2.2.2.2.2.2.2.2.2.2.1 s.2.2.2.2.2.2.2.2.2.2.2.1 s.2.2.2.2.2.2.2.2.2.2.2.2.1 s.2.2.2.2.2.2.2.2.2.2.2.2.2) (fun s => μ s.1 s.2.1 s.2.2.1 s.2.2.2.1 s.2.2.2.2.1 s.2.2.2.2.2.1 s.2.2.2.2.2.2.1 s.2.2.2.2.2.2.2.1 s.2.2.2.2.2.2.2.2.1 s.2.2.2.2.2.2.2.2.2.1 s.2.2.2.2.2.2.2.2.2.2.1 s.2.2.2.2.2.2.2.2.2.2.2.1 s.2.2.2.2.2.2.2.2.2.2.2.2.1 s.2.2.2.2.2.2.2.2.2.2.2.2.2) (fun n s hI hk => hs n s.1 s.2.1 s.2.2.1 s.2.2.2.1 s.2.2.2.2.1 s.2.2.2.2.2.1 s.2.2.2.2.2.2.1 s.2.2.2.2.2.2.2.1 s.2.2.2.2.2.2.2.2.1 s.2.2.2.2.2.2.2.2.2.1 s.2.2.2.2.2.2.2.2.2.2.1 s.2.2.2.2.2.2.2.2.2.2.2.1 s.2.2.2.2.2.2.2.2.2.2.2.2.1 s.2.2.2.2.2.2.2.2.2.2.2.2.2 hI (fun b1 b2 b3 b4 b5 b6 b7 b8 b9 b10 b11 b12 b13 b14 h9 hm => hk (b1, b2, b3, b4, b5, b6, b7, b8, b9, b10, b11, b12, b13, b14) h9 hm)) (a1, a2, a3, a4, a5, a6, a7, a8, a9, a10, a11, a12, a13, a14) h
theorem lp15 {A1 A2 A3 A4 A5 A6 A7 A8 A9 A10 A11 A12 A13 A14 A15 : Type} (W : Nat → A1 → A2 → A3 → A4 → A5 → A6 → A7 → A8 → A9 → A10 → A11 → A12 → A13 → A14 → A15 → Prop) (I : A1 → A2 → A3 → A4 → A5 → A6 → A7 → A8 → A9 → A10 → A11 → A12 → A13 → A14 → A15 → Prop) (μ : A1 → A2 → A3 → A4 → A5 → A6 → A7 → A8 → A9 → A10 → A11 → A12 → A13 → A14 → A15 → Nat) (hs : ∀ (n : Nat) (a1 : A1) (a2 : A2) (a3 : A3) (a4 : A4) (a5 : A5) (a6 : A6) (a7 : A7) (a8 : A8) (a9 : A9) (a10 : A10) (a11 : A11) (a12 : A12) (a13 : A13) (a14 : A14) (a15 : A15), I a1 a2 a3 a4 a5 a6 a7 a8 a9 a10 a11 a12 a13 a14 a15 → (∀ (b1 : A1) (b2 : A2) (b3 : A3) (b4 : A4) (b5 : A5) (b6 : A6) (b7 : A7) (b8 : A8) (b9 : A9) (b10 : A10) (b11 : A11) (b12 : A12) (b13 : A13) (b14 : A14) (b15 : A15), I b1 b2 b3 b4 b5 b6 b7 b8 b9 b10 b11 b12 b13 b14 b15 → μ b1 b2 b3 b4 b5 b6 b7 b8 b9 b10 b11 b12 b13 b14 b15 < μ a1 a2 a3 a4 a5 a6 a7 a8 a9 a10 a11 a12 a13 a14 a15 → W n b1 b2 b3 b4 b5 b6 b7 b8 b9 b10 b11 b12 b13 b14 b15) → W (n + 1) a1 a2 a3 a4 a5 a6 a7 a8 a9 a10 a11 a12 a13 a14 a15) (a1 : A1) (a2 : A2) (a3 : A3) (a4 : A4) (a5 : A5) (a6 : A6) (a7 : A7) (a8 : A8) (a9 : A9) (a10 : A10) (a11 : A11) (a12 : A12) (a13 : A13) (a14 : A14) (a15 : A15) (h : I a1 a2 a3 a4 a5 a6 a7 a8 a9 a10 a11 a12 a13 a14 a15) : ∃ n, W n a1 a2 a3 a4 a5 a6 a7 a8 a9 a10 a11 a12 a13 a14 a15 :=
  loop_m (σ := A1 × A2 × A3 × A4 × A5 × A6 × A7 × A8 × A9 × A10 × A11 × A12 × A13 × A14 × A15) (fun n s => W n s.1 s.2.1 s.2.2.1 s.2.2.2.1 s.2.2.2.2.1 s.2.2.2.2.2.1 s.2.2.2.2.2.2.1 s.2.2.2.2.2.2.2.1 s.2.2.2.2.2.2.2.2.1 s.2.2.2.2.2.2.2.2.2.1 s.2.2.2.2.2.2.2.2.2.2.1 s.2.2.2.2.2.2.2.2.2.2.2.1 s.2.2.2.2.2.2.2.2.2.2.2.2.1 s.2.2.2.2.2.2.2.2.2.2.2.2.2.1 s.2.2.2.2.2.2.2.2.2.2.2.2.2.2) (fun s => I s.1 s.2.1 s.2.2.1 s.2.2.2.1 s.2.2.2.2.1 s.2.2.2.2.2.1 s.2.2.2.2.2.2.1 s.2.2.2.2.2.2.2.1 s.2.2.2.2.2.2.2.2.1 s.2.2.2.2.2.2.2.2.2.1 s.2.2.2.2.2.2.2.2.2.2.1 s.2.2.2.2.2.2.2.2.2.2.2.1 s.2.2.2.2.2.2.2.2.2.2.2.2.1 s.2.2.2.2.2.2.2.2.2.2.2.2.2.1 s.2.2.2.2.2.2.2.2.2.2.2.2.2.2) (fun s => μ s.1 s.2.1 s.2.2.1 s.2.2.2.1 s.2.2.2.2.1 s.2.2.2.2.2.1 s.2.2.2.2.2.2.1 s.2.2.2.2.2.2.2.1 s.2.2.2.2.2.2.2.2.1 s.2.2.2.2.2.2.2.2.2.1 s.2.2.2.2.2.2.2.2.2.2.1 s.2.2.2.2.2.2.2.2.2.2.2.1 s.2.2.2.2.2.2.2.2.2.2.2.2.1 s.2.2.2.2.2.2.2.2.2.2.2.2.2.1 s.2.2.2.2.2.2.2.2.2.2.2.2.2.2) (fun n s hI hk => hs n s.1 s.2.1 s.2.2.1 s.2.2.2.1 s.2.2.2.2.1 s.2.2.2.2.2.1 s.2.2.2.2.2.2.1 s.2.2.2.2.2.2.2.1 s.2.2.2.2.2.2.2.2.1 s.2.2.2.2.2.2.2.2.2.1 s.2.2.2.2.2.2.2.2.2.2.1 s.2.2.2.2.2.2.2.2.2.2.2.1 s.2.2.2.2.2.2.2.2.2.2.2.2.1 s.2.2.2.2.2.2.2.2.2.2.2.2.2.1 s.2.2.2.2.2.2.2.2.2.2.2.2.2.2 hI (fun b1 b2 b3 b4 b5 b6 b7 b8 b9 b10 b11 b12 b13 b14 b15 h9 hm => hk (b1, b2, b3, b4, b5, b6, b7, b8, b9, b10, b11, b12, b13, b14, b15) h9 hm)) (a1, a2, a3, a4, a5, a6, a7, a8, a9, a10, a11, a12, a13, a14, a15) h
theorem lp16 {A1 A2 A3 A4 A5 A6 A7 A8 A9 A10 A11 A12 A13 A14 A15 A16 : Type} (W : Nat → A1 → A2 → A3 → A4 → A5 → A6 → A7 → A8 → A9 → A10 → A11 → A12 → A13 → A14 → A15 → A16 → Prop) (I : A1 → A2 → A3 → A4 → A5 → A6 → A7 → A8 → A9 → A10 → A11 → A12 → A13 → A14 → A15 → A16 → Prop) (μ : A1 → A2 → A3 → A4 → A5 → A6 → A7 → A8 → A9 → A10 → A11 → A12 → A13 → A14 → A15 → A16 → Nat) (hs : ∀ (n : Nat) (a1 : A1) (a2 : A2) (a3 : A3) (a4 : A4) (a5 : A5) (a6 : A6) (a7 : A7) (a8 : A8) (a9 : A9) (a10 : A10) (a11 : A11) (a12 : A12) (a13 : A13) (a14 : A14) (a15 : A15) (a16 : A16), I a1 a2 a3 a4 a5 a6 a7 a8 a9 a10 a11 a12 a13 a14 a15 a16 → (∀ (b1 : A1) (b2 : A2) (b3 : A3) (b4 : A4) (b5 : A5) (b6 : A6) (b7 : A7) (b8 : A8) (b9 : A9) (b10 : A10) (b11 : A11) (b12 : A12) (b13 : A13) (b14 : A14) (b15 : A15) (b16 : A16), I b1 b2 b3 b4 b5 b6 b7 b8 b9 b10 b11 b12 b13 b14 b15 b16 → μ b1 b2 b3 b4 b5 b6 b7 b8 b9 b10 b11 b12 b13 b14 b15 b16 < μ a1 a2 a3 a4 a5 a6 a7 a8 a9 a10 a11 a12 a13 a14 a15 a16 → W n b1 b2 b3 b4 b5 b6 b7 b8 b9 b10 b11 b12 b13 b14 b15 b16) → W (n + 1) a1 a2 a3 a4 a5 a6 a7 a8 a9 a10 a11 a12 a13 a14 a15 a16) (a1 : A1) (a2 : A2) (a3 : A3) (a4 : A4) (a5 : A5) (a6 : A6) (a7 : A7) (a8 : A8) (a9 : A9) (a10 : A10) (a11 : A11) (a12 : A12) (a13 : A13) (a14 : A14) (a15 : A15) (a16 : A16) (h : I a1 a2 a3 a4 a5 a6 a7 a8 a9 a10 a11 a12 a13 a14 a15 a16) : ∃ n, W n a1 a2 a3 a4 a5 a6 a7 a8 a9 a10 a11 a12 a13 a14 a15 a16 :=
  loop_m (σ := A1 × A2 × A3 × A4 × A5 × A6 × A7 × A8 × A9 × A10 × A11 × A12 × A13 × A14 × A15 × A16) (fun n s => W n s.1 s.2.1 s.2.2.1 s.2.2.2.1 s.2.2.2.2.1 s.2.2.2.2.2.1 s.2.2.2.2.2.2.1 s.2.2.2.2.2.2.2.1 s.2.2.2.2.2.2.2.2.1 s.2.2.2.2.2.2.2.2.2.1 s.2.2.2.2.2.2.2.2.2.2.1 s.2.2.2.2.2.2.2.2.2.2.2.1 s.2.2.2.2.2.2.2.2.2.2.2.2.1 s.2.2.2.2.2.2.2.2.2.2.2.2.2.1 s.2.2.2.2.2.2.2.2.2.2.2.2.2.2.1 s.2.2.2.2.2.2.2.2.2.2.2.2.2.2.2) (fun s => I s.1 s.2.1 s.2.2.1 s.2.2.2.1 s.2.2.2.2.1 s.2.2.2.2.2.1 s.2.2.2.2.2.2.1 s.2.2.2.2.2.2.2.1 s.2.2.2.2.2.2.2.2.1 s.2.2.2.2.2.2.2.2.2.1 s.2.2.2.2.2.2.2.2.2.2.1 s.2.2.2.2.2.2.2.2.2.2.2.1 s.2.2.2.2.2.2.2.2.2.2.2.2.1 s.2.2.2.2.2.2.2.2.2.2.2.2.2.1 s.2.2.2.2.2.2.2.2.2.2.2.2.2.2.1 s.2.2.2.2.2.2.2.2.2.2.2.2.2.2.2) (fun s => μ s.1 s.2.1 s.2.2.1 s.2.2.2.1 s.2.2.2.2.1 s.2.2.2.2.2.1 s.2.2.2.2.2.2.1 s.2.2.2.2.2.2.2.1 s.2.2.2.2.2.2.2.2.1 s.2.2.2.2.2.2.2.2.2.1 s.2.2.2.2.2.2.2.2.2.2.1 s.2.2.2.2.2.2.2.2.2.2.2.1 s.2.2.2.2.2.2.2.2.2.2.2.2.1 s.2.2.2.2.2.2.2.2.2.2.2.2.2.1 s.2.2.2.2.2.2.2.2.2.2.2.2.2.2.1 s.2.2.2.2.2.2.2.2.2.2.2.2.2.2.2) (fun n s hI hk => hs n s.1 s.2.1 s.2.2.1 s.2.2.2.1 s.2.2.2.2.1 s.2.2.2.2.2.1 s.2.2.2.2.2.2.1 s.2.2.2.2.2.2.2.1 s.2.2.2.2.2.2.2.2.1 s.2.2.2.2.2.2.2.2.2.1 s.2.2.2.2.2.2.2.2.2.2.1 s.2.2.2.2.2.2.2.2.2.2.2.1 s.2.2.2.2.2.2.2.2.2.2.2.2.1 s.2.2.2.2.2.2.2.2.2.2.2.2.2.1 s.2.2.2.2.2.2.2.2.2.2.2.2.2.2.1 s.2.2.2.2.2.2.2.2.2.2.2.2.2.2.2 hI (fun b1 b2 b3 b4 b5 b6 b7 b8 b9 b10 b11 b12 b13 b14 b15 b16 h9 hm => hk (b1, b2, b3, b4, b5, b6, b7, b8, b9, b10, b11, b12, b13, b14, b15, b16) h9 hm)) (a1, a2, a3, a4, a5, a6, a7, a8, a9, a10, a11, a12, a13, a14, a15, a16) h
theorem pk_least (P : Nat → Prop) (h : ∃ k, P k) : ∃ k, P k ∧ ∀ j, j < k → ¬ P j := by
  obtain ⟨k, hk⟩ := h
  induction k using Nat.strongRecOn with
  | ind k ih =>
    by_cases e : ∃ j, j < k ∧ P j
    · obtain ⟨j, hj, pj⟩ := e
      exact ih j hj pj
    · exact ⟨k, hk, fun j hj pj => e ⟨j, hj, pj⟩⟩
theorem rp1 {ρ A1 : Type} (W : Nat → (ρ → Prop) → A1 → Prop) (ok : A1 → Prop) (μ : A1 → Nat) (val : A1 → ρ)
    (hs : ∀ (d : Nat) (post : ρ → Prop) (a1 : A1), ok a1 → post (val a1) → (∀ (post' : ρ → Prop) (b1 : A1), ok b1 → μ b1 < μ a1 → post' (val b1) → W d post' b1) → W (d + 1) post a1) :
    ∀ (d : Nat) (post : ρ → Prop) (a1 : A1), ok a1 → μ a1 < d → post (val a1) → W d post a1 := by
  intro d
  induction d with
  | zero => intro post a1 _ h; omega
  | succ d ih =>
    intro post a1 ho hm hp
    exact hs d post a1 ho hp (fun post' b1 ho' hm' hp' => ih post' b1 ho' (by omega) hp')
theorem rp2 {ρ A1 A2 : Type} (W : Nat → (ρ → Prop) → A1 → A2 → Prop) (ok : A1 → A2 → Prop) (μ : A1 → A2 → Nat) (val : A1 → A2 → ρ)
    (hs : ∀ (d : Nat) (post : ρ → Prop) (a1 : A1) (a2 : A2), ok a1 a2 → post (val a1 a2) → (∀ (post' : ρ → Prop) (b1 : A1) (b2 : A2), ok b1 b2 → μ b1 b2 < μ a1 a2 → post' (val b1 b2) → W d post' b1 b2) → W (d + 1) post a1 a2) :
    ∀ (d : Nat) (post : ρ → Prop) (a1 : A1) (a2 : A2), ok a1 a2 → μ a1 a2 < d → post (val a1 a2) → W d post a1 a2 := by
  intro d
  induction d with
  | zero => intro post a1 a2 _ h; omega
  | succ d ih =>
    intro post a1 a2 ho hm hp
    exact hs d post a1 a2 ho hp (fun post' b1 b2 ho' hm' hp' => ih post' b1 b2 ho' (by omega) hp')
theorem rp3 {ρ A1 A2 A3 : Type} (W : Nat → (ρ → Prop) → A1 → A2 → A3 → Prop) (ok : A1 → A2 → A3 → Prop) (μ : A1 → A2 → A3 → Nat) (val : A1 → A2 → A3 → ρ)
    (hs : ∀ (d : Nat) (post : ρ → Prop) (a1 : A1) (a2 : A2) (a3 : A3), ok a1 a2 a3 → post (val a1 a2 a3) → (∀ (post' : ρ → Prop) (b1 : A1) (b2 : A2) (b3 : A3), ok b1 b2 b3 → μ b1 b2 b3 < μ a1 a2 a3 → post' (val b1 b2 b3) → W d post' b1 b2 b3) → W (d + 1) post a1 a2 a3) :
    ∀ (d : Nat) (post : ρ → Prop) (a1 : A1) (a2 : A2) (a3 : A3), ok a1 a2 a3 → μ a1 a2 a3 < d → post (val a1 a2 a3) → W d post a1 a2 a3 := by
  intro d
  induction d with
  | zero => intro post a1 a2 a3 _ h; omega
  | succ d ih =>
    intro post a1 a2 a3 ho hm hp
    exact hs d post a1 a2 a3 ho hp (fun post' b1 b2 b3 ho' hm' hp' => ih post' b1 b2 b3 ho' (by omega) hp')
theorem rp4 {ρ A1 A2 A3 A4 : Type} (W : Nat → (ρ → Prop) → A1 → A2 → A3 → A4 → Prop) (ok : A1 → A2 → A3 → A4 → Prop) (μ : A1 → A2 → A3 → A4 → Nat) (val : A1 → A2 → A3 → A4 → ρ)
    (hs : ∀ (d : Nat) (post : ρ → Prop) (a1 : A1) (a2 : A2) (a3 : A3) (a4 : A4), ok a1 a2 a3 a4 → post (val a1 a2 a3 a4) → (∀ (post' : ρ → Prop) (b1 : A1) (b2 : A2) (b3 : A3) (b4 : A4), ok b1 b2 b3 b4 → μ b1 b2 b3 b4 < μ a1 a2 a3 a4 → post' (val b1 b2 b3 b4) → W d post' b1 b2 b3 b4) → W (d + 1) post a1 a2 a3 a4) :
    ∀ (d : Nat) (post : ρ → Prop) (a1 : A1) (a2 : A2) (a3 : A3) (a4 : A4), ok a1 a2 a3 a4 → μ a1 a2 a3 a4 < d → post (val a1 a2 a3 a4) → W d post a1 a2 a3 a4 := by
  intro d
  induction d with
  | zero => intro post a1 a2 a3 a4 _ h; omega
  | succ d ih =>
    intro post a1 a2 a3 a4 ho hm hp
    exact hs d post a1 a2 a3 a4 ho hp (fun post' b1 b2 b3 b4 ho' hm' hp' => ih post' b1 b2 b3 b4 ho' (by omega) hp')
theorem rp5 {ρ A1 A2 A3 A4 A5 : Type} (W : Nat → (ρ → Prop) → A1 → A2 → A3 → A4 → A5 → Prop) (ok : A1 → A2 → A3 → A4 → A5 → Prop) (μ : A1 → A2 → A3 → A4 → A5 → Nat) (val : A1 → A2 → A3 → A4 → A5 → ρ)
    (hs : ∀ (d : Nat) (post : ρ → Prop) (a1 : A1) (a2 : A2) (a3 : A3) (a4 : A4) (a5 : A5), ok a1 a2 a3 a4 a5 → post (val a1 a2 a3 a4 a5) → (∀ (post' : ρ → Prop) (b1 : A1) (b2 : A2) (b3 : A3) (b4 : A4) (b5 : A5), ok b1 b2 b3 b4 b5 → μ b1 b2 b3 b4 b5 < μ a1 a2 a3 a4 a5 → post' (val b1 b2 b3 b4 b5) → W d post' b1 b2 b3 b4 b5) → W (d + 1) post a1 a2 a3 a4 a5) :
    ∀ (d : Nat) (post : ρ → Prop) (a1 : A1) (a2 : A2) (a3 : A3) (a4 : A4) (a5 : A5), ok a1 a2 a3 a4 a5 → μ a1 a2 a3 a4 a5 < d → post (val a1 a2 a3 a4 a5) → W d post a1 a2 a3 a4 a5 := by
  intro d
  induction d with
  | zero => intro post a1 a2 a3 a4 a5 _ h; omega
  | succ d ih =>
    intro post a1 a2 a3 a4 a5 ho hm hp
    exact hs d post a1 a2 a3 a4 a5 ho hp (fun post' b1 b2 b3 b4 b5 ho' hm' hp' => ih post' b1 b2 b3 b4 b5 ho' (by omega) hp')
theorem rp6 {ρ A1 A2 A3 A4 A5 A6 : Type} (W : Nat → (ρ → Prop) → A1 → A2 → A3 → A4 → A5 → A6 → Prop) (ok : A1 → A2 → A3 → A4 → A5 → A6 → Prop) (μ : A1 → A2 → A3 → A4 → A5 → A6 → Nat) (val : A1 → A2 → A3 → A4 → A5 → A6 → ρ)
    (hs : ∀ (d : Nat) (post : ρ → Prop) (a1 : A1) (a2 : A2) (a3 : A3) (a4 : A4) (a5 : A5) (a6 : A6), ok a1 a2 a3 a4 a5 a6 → post (val a1 a2 a3 a4 a5 a6) → (∀ (post' : ρ → Prop) (b1 : A1) (b2 : A2) (b3 : A3) (b4 : A4) (b5 : A5) (b6 : A6), ok b1 b2 b3 b4 b5 b6 → μ b1 b2 b3 b4 b5 b6 < μ a1 a2 a3 a4 a5 a6 → post' (val b1 b2 b3 b4 b5 b6) → W d post' b1 b2 b3 b4 b5 b6) → W (d + 1) post a1 a2 a3 a4 a5 a6) :
    ∀ (d : Nat) (post : ρ → Prop) (a1 : A1) (a2 : A2) (a3 : A3) (a4 : A4) (a5 : A5) (a6 : A6), ok a1 a2 a3 a4 a5 a6 → μ a1 a2 a3 a4 a5 a6 < d → post (val a1 a2 a3 a4 a5 a6) → W d post a1 a2 a3 a4 a5 a6 := by
  intro d
  induction d with
  | zero => intro post a1 a2 a3 a4 a5 a6 _ h; omega
  | succ d ih =>
    intro post a1 a2 a3 a4 a5 a6 ho hm hp
    exact hs d post a1 a2 a3 a4 a5 a6 ho hp (fun post' b1 b2 b3 b4 b5 b6 ho' hm' hp' => ih post' b1 b2 b3 b4 b5 b6 ho' (by omega) hp')
theorem rec_p {σ ρ : Type} (W : Nat → (ρ → Prop) → σ → Prop) (ok : σ → Prop) (μ : σ → Nat) (val : σ → ρ)
    (hs : ∀ d s post, ok s → post (val s) → (∀ s' post', ok s' → μ s' < μ s → post' (val s') → W d post' s') → W (d + 1) post s) :
    ∀ d s post, ok s → μ s < d → post (val s) → W d post s := by
  intro d
  induction d with
  | zero => intro s post _ h; omega
  | succ d ih =>
    intro s post ho hm hp
    exact hs d s post ho hp (fun s' post' ho' hm' hp' => ih s' post' ho' (by omega) hp')
theorem rec_q {σ ρ : Type} (W : Nat → (ρ → Prop) → σ → Prop) (ok : σ → Prop) (μ : σ → Nat) (Q : σ → ρ → Prop)
    (hs : ∀ d s post, ok s → (∀ r, Q s r → post r) → (∀ s' post', ok s' → μ s' < μ s → (∀ r, Q s' r → post' r) → W d post' s') → W (d + 1) post s) :
    ∀ d s post, ok s → μ s < d → (∀ r, Q s r → post r) → W d post s := by
  intro d
  induction d with
  | zero => intro s post _ h; omega
  | succ d ih =>
    intro s post ho hm hp
    exact hs d s post ho hp (fun s' post' ho' hm' hp' => ih s' post' ho' (by omega) hp')
def bx_sum (f : Nat → Int32) : Nat → Int32
  | 0 => 0
  | n + 1 => bx_sum f n + f n
theorem ek_u {A : Prop} {B : Nat → Prop} {k N : Nat} (hk : k < N) (h : B k) : (some k = none → A) ∧ (∀ y : Nat, some k = some y → (y < N ∧ B y)) :=
  ⟨fun z => absurd z (Option.some_ne_none k), fun _ e => (by cases e; exact ⟨hk, h⟩)⟩
theorem ek_nu {A : Prop} {B : Nat → Prop} (h : A) : ((none : Option Nat) = none → A) ∧ (∀ y : Nat, (none : Option Nat) = some y → B y) :=
  ⟨fun _ => h, fun _ e => (by cases e)⟩
theorem ek_if {c d A B : Prop} (e : c ↔ d) (f : d → A) (g : ¬ d → B) : (c → A) ∧ (¬ c → B) :=
  ⟨fun z => f (e.mp z), fun z => g (fun y => z (e.mpr y))⟩
theorem ek_v {α : Sort _} {P : α → Prop} {a b : α} (e : a = b) (h : P b) : P a := e ▸ h
theorem co_some {x : Option Nat} {A : Prop} {B : Nat → Prop} (i : Nat) (h : B i) (hx : x = some i := by rfl) : (x = none → A) ∧ (∀ y : Nat, x = some y → B y) := by
  subst hx
  exact ⟨fun e => (nomatch e), fun y e => Option.some.inj e ▸ h⟩
theorem co_none {x : Option Nat} {A : Prop} {B : Nat → Prop} (h : A) (hx : x = none := by rfl) : (x = none → A) ∧ (∀ y : Nat, x = some y → B y) := by
  subst hx
  exact ⟨fun _ => h, fun y e => (nomatch e)⟩
theorem co_any {x : Option Nat} {A : Prop} {B : Nat → Prop} (hn : x = none → A) (hs : ∀ i : Nat, x = some i → B i) : (x = none → A) ∧ (∀ y : Nat, x = some y → B y) := ⟨hn, hs⟩
theorem co_2 {P : Nat → Prop} (h0 : P 0) (h1 : P 1) {i : Nat} (hi : i < 2) : P i :=
  match i, hi with
  | 0, _ => h0
  | 1, _ => h1
theorem co_3 {P : Nat → Prop} (h0 : P 0) (h1 : P 1) (h2 : P 2) {i : Nat} (hi : i < 3) : P i :=
  match i, hi with
  | 0, _ => h0
  | 1, _ => h1
  | 2, _ => h2
theorem co_4 {P : Nat → Prop} (h0 : P 0) (h1 : P 1) (h2 : P 2) (h3 : P 3) {i : Nat} (hi : i < 4) : P i :=
  match i, hi with
  | 0, _ => h0
  | 1, _ => h1
  | 2, _ => h2
  | 3, _ => h3
theorem co_dec {N : Nat} {P : Nat → Prop} [DecidablePred P] (h : (List.range N).all (fun i => decide (P i)) = true) {i : Nat} (hi : i < N) : P i := by
  have := List.all_eq_true.mp h i (List.mem_range.mpr hi)
  exact of_decide_eq_true this
theorem co_tab {α : Type} {l : List α} {d : α} {P : α → Prop} (h : ∀ a, a ∈ l → P a) {i : Nat} (hi : i < l.length) : P (l.getD i d) := by
  rw [List.getD_eq_getElem?_getD, List.getElem?_eq_getElem hi]
  exact h _ (List.getElem_mem hi)
theorem pk_mu {x : Int32} {L : Nat} (h0 : ¬ x < 0) (h : ¬ nI L ≤ x) (hL : L < 2 ^ 31) : ∃ j : Nat, j < L ∧ x = nI j ∧ x + 1 = nI (j + 1) ∧ x.toNatClampNeg = j ∧ L - (x + 1).toNatClampNeg < L - x.toNatClampNeg := by
  obtain ⟨j, hj, rfl⟩ := nI_of h0
  have hl : j < L := Nat.not_le.mp fun q => h (nI_le q hj)
  refine ⟨j, hl, rfl, nI_1 j, nI_clamp hj, ?_⟩
  rw [nI_1, nI_clamp (by omega), nI_clamp hj]
  omega
theorem op_s {α : Type} {r : Option α} {A : Prop} {B : α → Prop} {y : α} (h : r = some y) (b : B y) : (r = none → A) ∧ ∀ z, r = some z → B z :=
  ⟨fun e => (by rw [h] at e; cases e), fun z e => (by rw [h] at e; cases e; exact b)⟩
def l_holds {α : Type} (a : Nat → Option Nat) (LP : List Nat) (p : Nat → α) (c : Nat) (b : Nat → α) : Prop :=
  ∀ j, j < c → ∃ y, a j = some y ∧ y ∈ LP ∧ p y = b j
theorem l_holds_0 {α : Type} {a : Nat → Option Nat} {LP : List Nat} {p b : Nat → α} : l_holds a LP p 0 b := fun j h => absurd h (Nat.not_lt_zero j)
theorem l_in_new (LP : List Nat) (q : Nat) : q ∈ LP ++ [q] := List.mem_append.mpr (Or.inr (List.mem_singleton.mpr rfl))
def l_sum (b : Nat → Int32) : Nat → Int32
  | 0 => 0
  | k + 1 => l_sum b k + b k
theorem sb_shr0 (x : Int32) : x >>> ((0 : Int32) &&& 31) = x := by
  rw [show ((0 : Int32) &&& 31) = 0 by decide]
  simp
theorem sb_shl0 (x : Int32) : x <<< ((0 : Int32) &&& 31) = x := by
  rw [show ((0 : Int32) &&& 31) = 0 by decide]
  simp
theorem sb_cl0 : (0 : Int32).toNatClampNeg = 0 := by decide
theorem sb_m1 {p : Nat} (h : 0 < p) : nI p + (-1) = nI (p - 1) := by
  obtain ⟨q, rfl⟩ : ∃ q, p = q + 1 := ⟨p - 1, by omega⟩
  exact pk_m1 q
def sb_b (c : Nat) : Int32 := (nI c).toInt8.toInt32
theorem sb_byte : ∀ c, c < 256 → sb_b c &&& 255 = nI c ∧ ((nI c).toUInt32 % 65536).toInt32 = nI c ∧ nI c ≤ 255 := by decide +kernel
def sb_Fit (a : Nat → Int32) : Prop := ∀ j, fits .byte (.int (a j)) = true
def sb_Lat (t : Nat → Nat) (n : Nat) (a : Nat → Int32) : Prop := ∀ j, j < n → t j < 256 ∧ a j = sb_b (t j)
theorem sb_fitB (c : Nat) : fits .byte (.int (sb_b c)) = true := pk_fb _
theorem sb_fit0 : sb_Fit (fun _ => 0) := fun _ => by
  show fits .byte (.int 0) = true
  decide
theorem sb_fitU {a : Nat → Int32} {k : Nat} {x : Int32} (h : sb_Fit a) (hx : fits .byte (.int x) = true) : sb_Fit (upd a k x) := by
  intro j
  by_cases e : j = k
  · subst e
    rw [pk_us]
    exact hx
  · rw [pk_un e]
    exact h j
def sb_cat (t : Nat → Nat) (n : Nat) (s : Nat → Nat) : Nat → Nat := fun j => if j < n then t j else s (j - n)
theorem sb_cat_lo {t s : Nat → Nat} {n j : Nat} (h : j < n) : sb_cat t n s j = t j := if_pos h
theorem sb_cat_hi {t s : Nat → Nat} {n j : Nat} : sb_cat t n s (n + j) = s j := by
  show (if n + j < n then t (n + j) else s (n + j - n)) = s j
  rw [if_neg (by omega), Nat.add_sub_cancel_left]
theorem sb_latPut {t s : Nat → Nat} {n w : Nat} {a a' : Nat → Int32} (h : sb_Lat t n a) (hk : ∀ j, j < n → a' j = a j) (hs : ∀ i, i < w → s i < 256 ∧ a' (n + i) = sb_b (s i)) : sb_Lat (sb_cat t n s) (n + w) a' := by
  intro j hj
  by_cases e : j < n
  · rw [sb_cat_lo e, hk j e]
    exact h j e
  · obtain ⟨i, rfl⟩ : ∃ i, j = n + i := ⟨j - n, by omega⟩
    rw [sb_cat_hi]
    exact hs i (by omega)
theorem sb_latKeep {t : Nat → Nat} {n : Nat} {a a' : Nat → Int32} (h : sb_Lat t n a) (hk : ∀ j, j < n → a' j = a j) : sb_Lat t n a' := fun j hj => by
  rw [hk j hj]
  exact h j hj
def sb_cap (q m : Nat) : Nat := if q ≤ m then m else if 2 * m + 2 < q then q else 2 * m + 2
def sb_Room (q m mc ms : Nat) : Prop := q ≤ m ∨ (1 ≤ mc ∧ sb_cap q m ≤ ms ∧ sb_cap q m ≤ 65536)
theorem sb_cap_ge (q m : Nat) : q ≤ sb_cap q m := by
  unfold sb_cap
  split
  · omega
  · split <;> omega
theorem sb_cap_gem (q m : Nat) : m ≤ sb_cap q m := by
  unfold sb_cap
  split
  · omega
  · split <;> omega
theorem sb_cap_le {q m mc ms : Nat} (hm : m ≤ 65536) (hr : sb_Room q m mc ms) : sb_cap q m ≤ 65536 := by
  rcases hr with h | h
  · rw [sb_cap, if_pos h]
    exact hm
  · exact h.2.2
theorem sb_at {P : Int32 → Prop} {x y : Int32} (e : x = y) (h : P y) : P x := e ▸ h
def sb_dg (w : Nat) : Nat := if w < 10 then 1 else if w < 100 then 2 else if w < 1000 then 3 else if w < 10000 then 4 else if w < 100000 then 5 else if w < 1000000 then 6 else if w < 10000000 then 7 else if w < 100000000 then 8 else if w < 1000000000 then 9 else 10
def sb_dec (v : Nat) : Nat → Nat := fun i => 48 + v / 10 ^ (sb_dg v - 1 - i) % 10
theorem sb_dg_in (w : Nat) : 1 ≤ sb_dg w ∧ sb_dg w ≤ 10 := by
  unfold sb_dg
  constructor <;> (repeat' split) <;> omega
theorem sb_dg100 {w : Nat} (h : 100 ≤ w) (hw : w < 2 ^ 31) : sb_dg w = sb_dg (w / 100) + 2 := by
  rw [sb_dg, sb_dg, if_neg (show ¬ w < 10 by omega), if_neg (show ¬ w < 100 by omega)]
  by_cases h3 : w < 1000
  · rw [if_pos h3, if_pos (show w / 100 < 10 by omega)]
  rw [if_neg h3, if_neg (show ¬ w / 100 < 10 by omega)]
  by_cases h4 : w < 10000
  · rw [if_pos h4, if_pos (show w / 100 < 100 by omega)]
  rw [if_neg h4, if_neg (show ¬ w / 100 < 100 by omega)]
  by_cases h5 : w < 100000
  · rw [if_pos h5, if_pos (show w / 100 < 1000 by omega)]
  rw [if_neg h5, if_neg (show ¬ w / 100 < 1000 by omega)]
  by_cases h6 : w < 1000000
  · rw [if_pos h6, if_pos (show w / 100 < 10000 by omega)]
  rw [if_neg h6, if_neg (show ¬ w / 100 < 10000 by omega)]
  by_cases h7 : w < 10000000
  · rw [if_pos h7, if_pos (show w / 100 < 100000 by omega)]
  rw [if_neg h7, if_neg (show ¬ w / 100 < 100000 by omega)]
  by_cases h8 : w < 100000000
  · rw [if_pos h8, if_pos (show w / 100 < 1000000 by omega)]
  rw [if_neg h8, if_neg (show ¬ w / 100 < 1000000 by omega)]
  by_cases h9 : w < 1000000000
  · rw [if_pos h9, if_pos (show w / 100 < 10000000 by omega)]
  rw [if_neg h9, if_neg (show ¬ w / 100 < 10000000 by omega)]
  rw [if_pos (show w / 100 < 100000000 by omega)]
theorem sb_negT {w : Nat} (h : w < 2 ^ 31) : (-nI w).toInt = -(w : Int) := by
  rw [Int32.toInt_neg, nI_toInt h]
  exact Int.bmod_eq_of_le (by omega) (by omega)
theorem sb_nle {a b : Nat} (ha : a < 2 ^ 31) (hb : b < 2 ^ 31) : -nI a ≤ -nI b ↔ b ≤ a := by
  rw [Int32.le_iff_toInt_le, sb_negT ha, sb_negT hb]
  omega
theorem sb_nlt {a b : Nat} (ha : a < 2 ^ 31) (hb : b < 2 ^ 31) : -nI a < -nI b ↔ b < a := by
  rw [Int32.lt_iff_toInt_lt, sb_negT ha, sb_negT hb]
  omega
theorem sb_cmp {A B : Prop} {x : Int32} (v c : Nat) (f : c ≤ v → A) (g : v < c → B) (hv : v < 2 ^ 31) (hx : x = -nI c := by rfl) (hc : c < 2 ^ 31 := by omega) : (-nI v ≤ x → A) ∧ (¬ -nI v ≤ x → B) := by
  subst hx
  rw [sb_nle hv hc]
  exact ⟨f, fun z => g (by omega)⟩
theorem sb_ndiv {w : Nat} (hw : w < 2 ^ 31) : (-nI w) / 100 = -nI (w / 100) := by
  apply Int32.toInt_inj.mp
  have h100 : (100 : Int32).toInt = 100 := by decide
  rw [Int32.toInt_div, sb_negT hw, h100, sb_negT (by omega), Int.neg_tdiv, Int.tdiv_eq_ediv_of_nonneg (by omega), Int.bmod_eq_of_le (by omega) (by omega)]
  omega
theorem sb_nrem {w : Nat} (hw : w < 2 ^ 31) : (-nI (w / 100)) * 100 - (-nI w) = nI (w % 100) := by
  have h := pk_rem (a := w) (d := 100) hw (by decide) (by decide)
  rw [pk_div hw (by decide) (by decide)] at h
  rw [← h]
  show (-nI (w / 100)) * nI 100 - (-nI w) = nI w - nI (w / 100) * nI 100
  rw [Int32.neg_mul, Int32.sub_neg, Int32.add_comm, ← Int32.sub_eq_add_neg]
end
section
/-! rows on bits, shifts and unsigned numbers, to paste: each family out of a closed proof of our own, whole with what it rests on; each by itself clean at Lean in its own claim (generation 39, form 5). Take a family whole -/
/-! ===== Int32 by its bits: bt x i ===== -/
def bt (x : Int32) (i : Nat) : Bool := x.toBitVec.getLsbD i
theorem b_ext {x y : Int32} (h : ∀ i, i < 32 → bt x i = bt y i) : x = y := Int32.toBitVec_inj.mp (BitVec.eq_of_getLsbD_eq (fun i hi => h i hi))
theorem b_or (x y : Int32) (i : Nat) : bt (x ||| y) i = (bt x i || bt y i) := by unfold bt; rw [Int32.toBitVec_or, BitVec.getLsbD_or]
theorem b_and (x y : Int32) (i : Nat) : bt (x &&& y) i = (bt x i && bt y i) := by unfold bt; rw [Int32.toBitVec_and, BitVec.getLsbD_and]
theorem b_xor (x y : Int32) (i : Nat) : bt (x ^^^ y) i = (bt x i ^^ bt y i) := by unfold bt; rw [Int32.toBitVec_xor, BitVec.getLsbD_xor]
theorem b_big {x : Int32} {i : Nat} (h : 32 ≤ i) : bt x i = false := BitVec.getLsbD_of_ge _ _ h
theorem b_255 (i : Nat) : bt 255 i = decide (i < 8) := by
  rcases Nat.lt_or_ge i 32 with h | h
  · exact (by decide +kernel : ∀ i, i < 32 → bt 255 i = decide (i < 8)) i h
  · rw [b_big h, decide_eq_false (by omega)]
theorem b_65535 (i : Nat) : bt 65535 i = decide (i < 16) := by
  rcases Nat.lt_or_ge i 32 with h | h
  · exact (by decide +kernel : ∀ i, i < 32 → bt 65535 i = decide (i < 16)) i h
  · rw [b_big h, decide_eq_false (by omega)]
theorem b_m1 : ∀ i, i < 32 → bt (-1) i = true := by decide +kernel
theorem b_0 (i : Nat) : bt 0 i = false := BitVec.getLsbD_zero
theorem s_l : ∀ n, n < 32 → ((nI n &&& 31).toBitVec.smod 32).toNat = n := by decide +kernel
theorem s_u : ∀ n, n < 32 → (((nI n).toUInt32 &&& Int32.toUInt32 31).toBitVec % 32).toNat = n := by decide +kernel
theorem b_shl (n : Nat) (hn : n < 32) (x : Int32) {i : Nat} (hi : i < 32) : bt (x <<< (nI n &&& 31)) i = (decide (n ≤ i) && bt x (i - n)) := by
  unfold bt
  rw [Int32.toBitVec_shiftLeft]
  show (x.toBitVec <<< ((nI n &&& 31).toBitVec.smod 32).toNat).getLsbD i = _
  rw [s_l n hn, BitVec.getLsbD_shiftLeft]
  rcases Nat.lt_or_ge i n with h | h
  · simp [h, Nat.not_le.mpr h]
  · simp [hi, h, Nat.not_lt.mpr h]
theorem b_ushr (n : Nat) (hn : n < 32) (x : Int32) (i : Nat) : bt ((x.toUInt32 >>> ((nI n).toUInt32 &&& Int32.toUInt32 31)).toInt32) i = bt x (n + i) := by
  show (x.toUInt32 >>> ((nI n).toUInt32 &&& Int32.toUInt32 31)).toBitVec.getLsbD i = x.toUInt32.toBitVec.getLsbD (n + i)
  rw [UInt32.toBitVec_shiftRight]
  show (x.toUInt32.toBitVec >>> (((nI n).toUInt32 &&& Int32.toUInt32 31).toBitVec % 32).toNat).getLsbD i = _
  rw [s_u n hn, BitVec.getLsbD_ushiftRight]
theorem b_sshr (n : Nat) (hn : n < 32) (x : Int32) {i : Nat} (hi : i < 32) : bt (x >>> (nI n &&& 31)) i = if n + i < 32 then bt x (n + i) else bt x 31 := by
  unfold bt
  rw [Int32.toBitVec_shiftRight]
  show (x.toBitVec.sshiftRight ((nI n &&& 31).toBitVec.smod 32).toNat).getLsbD i = _
  rw [s_l n hn, BitVec.getLsbD_sshiftRight, BitVec.msb_eq_getLsbD_last]
  simp [hi]
theorem b_shl8 (x : Int32) {i : Nat} (hi : i < 32) : bt (x <<< ((8 : Int32) &&& 31)) i = (decide (8 ≤ i) && bt x (i - 8)) := b_shl 8 (by omega) x hi
theorem b_shl16 (x : Int32) {i : Nat} (hi : i < 32) : bt (x <<< ((16 : Int32) &&& 31)) i = (decide (16 ≤ i) && bt x (i - 16)) := b_shl 16 (by omega) x hi
theorem b_shl24 (x : Int32) {i : Nat} (hi : i < 32) : bt (x <<< ((24 : Int32) &&& 31)) i = (decide (24 ≤ i) && bt x (i - 24)) := b_shl 24 (by omega) x hi
theorem b_sshr8 (x : Int32) {i : Nat} (hi : i < 32) : bt (x >>> ((8 : Int32) &&& 31)) i = if 8 + i < 32 then bt x (8 + i) else bt x 31 := b_sshr 8 (by omega) x hi
/-! ===== nI under and, xor, >>>, one bit, 65535 ===== -/
theorem nx_and (a b : Nat) : nI a &&& nI b = nI (a &&& b) := by
  apply Int32.toBitVec_inj.1
  show BitVec.ofNat 32 a &&& BitVec.ofNat 32 b = BitVec.ofNat 32 (a &&& b)
  apply BitVec.eq_of_getLsbD_eq
  intro i hi
  simp [hi]
theorem nx_xor (a b : Nat) : nI a ^^^ nI b = nI (a ^^^ b) := by
  apply Int32.toBitVec_inj.1
  show BitVec.ofNat 32 a ^^^ BitVec.ofNat 32 b = BitVec.ofNat 32 (a ^^^ b)
  apply BitVec.eq_of_getLsbD_eq
  intro i hi
  simp [hi]
theorem nx_cnt : ∀ j : Fin 32, (UInt32.ofNat j.val &&& Int32.toUInt32 31).toNat % 32 = j.val := by decide +kernel
theorem nx_ush {k j : Nat} (hk : k < 65536) (hj : j < 32) : ((nI k).toUInt32 >>> ((nI j).toUInt32 &&& Int32.toUInt32 31)).toInt32 = nI (k >>> j) := by
  have hs : k >>> j ≤ k := by
    rw [Nat.shiftRight_eq_div_pow]
    exact Nat.div_le_self _ _
  have e2 : UInt32.ofNat k >>> (UInt32.ofNat j &&& Int32.toUInt32 31) = UInt32.ofNat (k >>> j) := by
    apply UInt32.toNat_inj.1
    have h1 : (UInt32.ofNat k).toNat = k := Nat.mod_eq_of_lt (by omega)
    have h2 : (UInt32.ofNat (k >>> j)).toNat = k >>> j := Nat.mod_eq_of_lt (by omega)
    rw [UInt32.toNat_shiftRight, nx_cnt ⟨j, hj⟩, h1, h2]
  show (UInt32.ofNat k >>> (UInt32.ofNat j &&& Int32.toUInt32 31)).toInt32 = _
  rw [e2]
  rfl
theorem nx_bit {k j : Nat} (hk : k < 65536) (hj : j < 16) : (((nI k).toUInt32 >>> ((nI j).toUInt32 &&& Int32.toUInt32 31)).toInt32 &&& 1) = 0 ↔ k.testBit j = false := by
  rw [nx_ush hk (by omega)]
  show nI (k >>> j) &&& nI 1 = 0 ↔ _
  rw [nx_and, Nat.and_one_is_mod, ← nI_0, nI_eq (by omega) (by omega), Nat.testBit_eq_decide_div_mod_eq, Nat.shiftRight_eq_div_pow, decide_eq_false_iff_not]
  generalize k / 2 ^ j = z
  omega
theorem nx_mod (k : Nat) : nI k &&& 65535 = nI (k % 65536) := by
  show nI k &&& nI 65535 = _
  rw [nx_and, show (65535 : Nat) = 2 ^ 16 - 1 from rfl, Nat.and_two_pow_sub_one_eq_mod]
theorem nx_m16 {k : Nat} (h : k < 65536) : nI k &&& 65535 = nI k := by rw [nx_mod, Nat.mod_eq_of_lt h]
theorem nx_mask (x : Int32) : ∃ k, k < 65536 ∧ x &&& 65535 = nI k := by
  have e : x = nI x.toBitVec.toNat := by
    apply Int32.toBitVec_inj.1
    show x.toBitVec = BitVec.ofNat 32 x.toBitVec.toNat
    simp
  refine ⟨x.toBitVec.toNat % 65536, Nat.mod_lt _ (by omega), ?_⟩
  rw [← nx_mod, ← e]
/-! ===== Int32 as a set of bits: test, set ===== -/
def nf_M (m : Int32) : Nat := 4294967296 - m.toBitVec.toNat
theorem nf_sh : ∀ l, l < 32 → ((1 : Int32) <<< (nI l &&& 31)).toBitVec = BitVec.twoPow 32 l := by decide +kernel
theorem nf_sl : ∀ l, l < 32 → (((nI l).toUInt32 &&& Int32.toUInt32 31).toBitVec % 32).toNat = l := by decide +kernel
theorem nf_tp : ∀ l, l < 32 → BitVec.twoPow 32 l ≠ 0#32 := by decide +kernel
theorem nf_bit (m : Int32) (l : Nat) (hl : l < 32) : ((m.toUInt32 >>> ((nI l).toUInt32 &&& Int32.toUInt32 31)).toInt32 &&& 1) = 0 ↔ (m &&& ((1 : Int32) <<< (nI l &&& 31))) = 0 := by
  have e : ((m.toUInt32 >>> ((nI l).toUInt32 &&& Int32.toUInt32 31)).toInt32).toBitVec = m.toBitVec >>> l := by
    show m.toBitVec >>> (((nI l).toUInt32 &&& Int32.toUInt32 31).toBitVec % 32) = m.toBitVec >>> l
    rw [BitVec.ushiftRight_eq', nf_sl l hl]
  rw [← Int32.toBitVec_inj, ← Int32.toBitVec_inj, Int32.toBitVec_and, Int32.toBitVec_and, nf_sh l hl, e, BitVec.and_twoPow]
  show (m.toBitVec >>> l &&& 1#32) = 0#32 ↔ _ = 0#32
  rw [BitVec.and_one_eq_setWidth_ofBool_getLsbD, BitVec.getLsbD_ushiftRight, Nat.add_zero]
  cases hb : m.toBitVec.getLsbD l
  · exact ⟨fun _ => by simp, fun _ => by decide⟩
  · exact ⟨fun z => absurd z (by decide), fun z => absurd ((if_pos rfl).symm.trans z) (nf_tp l hl)⟩
theorem nf_gr (m k : Int32) (h : m &&& k = 0) (hk : k ≠ 0) : nf_M (m ||| k) < nf_M m := by
  have hm := m.toBitVec.isLt
  have hm' := (m ||| k).toBitVec.isLt
  have h1 : m.toBitVec.toNat ≤ (m ||| k).toBitVec.toNat := by
    rw [Int32.toBitVec_or, BitVec.toNat_or]
    exact Nat.left_le_or
  have h2 : m.toBitVec.toNat ≠ (m ||| k).toBitVec.toNat := by
    intro e
    have e2 : m = m ||| k := Int32.toBitVec_inj.mp (BitVec.eq_of_toNat_eq e)
    apply hk
    apply Int32.toBitVec_inj.mp
    show k.toBitVec = 0#32
    apply BitVec.eq_of_getLsbD_eq
    intro i hi
    have a : m.toBitVec.getLsbD i = (m.toBitVec.getLsbD i || k.toBitVec.getLsbD i) := by rw [← BitVec.getLsbD_or, ← Int32.toBitVec_or, ← e2]
    have b : (m.toBitVec.getLsbD i && k.toBitVec.getLsbD i) = false := by
      rw [← BitVec.getLsbD_and, ← Int32.toBitVec_and, h]
      exact BitVec.getLsbD_zero
    rw [BitVec.getLsbD_zero]
    revert a b
    cases m.toBitVec.getLsbD i <;> cases k.toBitVec.getLsbD i <;> simp
  unfold nf_M
  omega
/-! ===== a byte read unsigned ===== -/
theorem bp_b (x : Int32) : x.toInt8.toInt32 &&& 255 = x &&& 255 := by
  apply Int32.toBitVec_inj.mp
  rw [Int32.toBitVec_and, Int32.toBitVec_and, Int8.toBitVec_toInt32, Int32.toBitVec_toInt8]
  apply BitVec.eq_of_getLsbD_eq
  intro i hi
  rw [BitVec.getLsbD_and, BitVec.getLsbD_and]
  have hm : ∀ i < 32, 8 ≤ i → (255 : Int32).toBitVec.getLsbD i = false := by decide
  rcases Nat.lt_or_ge i 8 with z | z
  · rw [BitVec.getLsbD_signExtend, BitVec.getLsbD_signExtend, if_pos z, if_pos hi]
    simp only [z, hi, decide_true, Bool.true_and]
  · rw [hm i hi z]; simp
/-! ===== the char cast and 65535 ===== -/
theorem em_w (v : Int32) : ∃ w : Nat, w < 65536 ∧ (v.toUInt32 % 65536).toInt32 = nI w ∧ v &&& 65535 = nI w := by
  have hr := lw_u16_r v
  have h0 : (0 : Int32).toInt = 0 := by decide
  obtain ⟨w, h1, h2⟩ := nI_of (x := lw_u16 v) (by rw [Int32.lt_iff_toInt_lt]; omega)
  have h3 : (v.toUInt32 % 65536).toInt32 = nI w := h2
  rw [h2, nI_toInt h1] at hr
  exact ⟨w, by omega, h3, by rw [← lg_i2c_mask, ← lg_i2c_nf, h3]⟩
/-! ===== Int64 as a set of bits: test, set, clear ===== -/
theorem ts_nf {x : Bool} (h : ¬ x = false) : x = true := by cases x <;> first | rfl | exact absurd rfl h
theorem ts_nt {x : Bool} (h : ¬ x = true) : x = false := by cases x <;> first | rfl | exact absurd rfl h
theorem ts_bit {w : Int64} {s : UInt64} {j : Nat} (hj : j < 64) (hs : s.toNat = j) : ((w.toUInt64 >>> s).toInt64 &&& 1) = 0 ↔ w.toBitVec.getLsbD j = false := by
  have e : (w.toUInt64 >>> s).toInt64.toBitVec = w.toBitVec >>> j := by
    apply BitVec.eq_of_toNat_eq
    show (w.toUInt64 >>> s).toNat = _
    rw [UInt64.toNat_shiftRight, hs, Nat.mod_eq_of_lt hj, BitVec.toNat_ushiftRight]
    rfl
  rw [← Int64.toBitVec_inj, Int64.toBitVec_and, e]
  show w.toBitVec >>> j &&& 1#64 = 0#64 ↔ _
  constructor
  · intro h
    have t := congrArg (fun x => x.getLsbD 0) h
    simpa using t
  · intro h
    apply BitVec.eq_of_getLsbD_eq
    intro i hi
    cases i with
    | zero => simp [h]
    | succ i => simp
theorem ts_or {w m : Int64} {j : Nat} (hj : j < 64) (hm : m.toBitVec = BitVec.twoPow 64 j) : (w ||| m) = w ↔ w.toBitVec.getLsbD j = true := by
  rw [← Int64.toBitVec_inj, Int64.toBitVec_or, hm]
  constructor
  · intro h
    have t := congrArg (fun x => x.getLsbD j) h
    simp only [BitVec.getLsbD_or, BitVec.getLsbD_twoPow] at t
    simpa [hj] using t.symm
  · intro h
    apply BitVec.eq_of_getLsbD_eq
    intro i hi
    rw [BitVec.getLsbD_or, BitVec.getLsbD_twoPow]
    by_cases e : j = i
    · subst e; rw [h, Bool.true_or]
    · simp [e]
theorem ts_and {w m : Int64} {j : Nat} (hj : j < 64) (hm : m.toBitVec = BitVec.twoPow 64 j) : (w &&& (m ^^^ (-1))) = w ↔ w.toBitVec.getLsbD j = false := by
  have ha : (-1 : Int64).toBitVec = BitVec.allOnes 64 := by decide
  rw [← Int64.toBitVec_inj, Int64.toBitVec_and, Int64.toBitVec_xor, hm, ha]
  constructor
  · intro h
    have t := congrArg (fun x => x.getLsbD j) h
    simp only [BitVec.getLsbD_and, BitVec.getLsbD_xor, BitVec.getLsbD_twoPow, BitVec.getLsbD_allOnes] at t
    simpa [hj] using t.symm
  · intro h
    apply BitVec.eq_of_getLsbD_eq
    intro i hi
    rw [BitVec.getLsbD_and, BitVec.getLsbD_xor, BitVec.getLsbD_twoPow, BitVec.getLsbD_allOnes]
    by_cases e : j = i
    · subst e; rw [h, Bool.false_and]
    · simp [e, hi]
/-! ===== lN n to 2^64: shifts, and, or, masks, one bit ===== -/
theorem wb_tb (n : Nat) : (lN n).toBitVec = BitVec.ofNat 64 n := rfl
theorem wb_inj {a b : Int64} (h : a.toBitVec = b.toBitVec) : a = b := Int64.toBitVec_inj.mp h
theorem wb_tn {n : Nat} (h : n < 2 ^ 64) : (lN n).toBitVec.toNat = n := by rw [wb_tb, BitVec.toNat_ofNat, Nat.mod_eq_of_lt h]
theorem wb_of (x : Int64) : ∃ n, n < 2 ^ 64 ∧ x = lN n := ⟨x.toBitVec.toNat, x.toBitVec.isLt, wb_inj (by rw [wb_tb]; simp)⟩
theorem wb_of32 (x : Int32) : ∃ n, n < 2 ^ 32 ∧ x = nI n := ⟨x.toBitVec.toNat, x.toBitVec.isLt, Int32.toBitVec_inj.mp (by show _ = BitVec.ofNat 32 _; simp)⟩
theorem wb_c : ∀ k, k < 64 → ((nI k).toInt64 &&& 63) = lN k := by decide +kernel
theorem wb_cu : ∀ k, k < 64 → ((nI k).toInt64.toUInt64 &&& Int64.toUInt64 63) = UInt64.ofNat k := by decide +kernel
theorem wb_sm : ∀ k, k < 64 → (BitVec.ofNat 64 k).smod 64 = BitVec.ofNat 64 k := by decide +kernel
theorem wb_pw {a b : Nat} (h : a ≤ b) : 2 ^ b = 2 ^ a * 2 ^ (b - a) := by rw [← Nat.pow_add]; congr 1; omega
theorem wb_lt2 {a b : Nat} (h : a < b) : 2 ^ a < 2 ^ b := Nat.pow_lt_pow_right (by decide) h
theorem wb_mod (n : Nat) : lN n = lN (n % 2 ^ 64) := wb_inj (by rw [wb_tb, wb_tb]; apply BitVec.eq_of_toNat_eq; rw [BitVec.toNat_ofNat, BitVec.toNat_ofNat, Nat.mod_mod])
theorem wb_shr {n k : Nat} (hn : n < 2 ^ 64) (hk : k < 64) : ((lN n).toUInt64 >>> ((nI k).toInt64.toUInt64 &&& Int64.toUInt64 63)).toInt64 = lN (n / 2 ^ k) := by
  rw [wb_cu k hk]
  apply wb_inj
  apply BitVec.eq_of_toNat_eq
  show ((lN n).toUInt64 >>> UInt64.ofNat k).toNat = (BitVec.ofNat 64 _).toNat
  have h1 : (UInt64.ofNat k).toNat = k := by
    show (BitVec.ofNat 64 k).toNat = k
    rw [BitVec.toNat_ofNat, Nat.mod_eq_of_lt (by omega)]
  have h2 : (lN n).toUInt64.toNat = n := wb_tn hn
  rw [UInt64.toNat_shiftRight, h1, h2, Nat.mod_eq_of_lt hk, Nat.shiftRight_eq_div_pow, BitVec.toNat_ofNat, Nat.mod_eq_of_lt (Nat.lt_of_le_of_lt (Nat.div_le_self _ _) hn)]
theorem wb_shl (n : Nat) {k : Nat} (hk : k < 64) : lN n <<< ((nI k).toInt64 &&& 63) = lN (n * 2 ^ k) := by
  rw [wb_c k hk]
  apply wb_inj
  rw [Int64.toBitVec_shiftLeft, wb_tb, wb_tb, wb_tb, wb_sm k hk]
  apply BitVec.eq_of_toNat_eq
  rw [BitVec.shiftLeft_eq', BitVec.toNat_shiftLeft, BitVec.toNat_ofNat, BitVec.toNat_ofNat, BitVec.toNat_ofNat, Nat.mod_eq_of_lt (show k < 2 ^ 64 by omega), Nat.shiftLeft_eq, Nat.mul_mod, Nat.mod_mod, ← Nat.mul_mod]
theorem wb_and {a b : Nat} (ha : a < 2 ^ 64) (hb : b < 2 ^ 64) : lN a &&& lN b = lN (a &&& b) := by
  apply wb_inj
  rw [Int64.toBitVec_and, wb_tb, wb_tb, wb_tb]
  apply BitVec.eq_of_toNat_eq
  rw [BitVec.toNat_and, BitVec.toNat_ofNat, BitVec.toNat_ofNat, BitVec.toNat_ofNat, Nat.mod_eq_of_lt ha, Nat.mod_eq_of_lt hb, Nat.mod_eq_of_lt (Nat.and_lt_two_pow _ hb)]
theorem wb_or {a b : Nat} (ha : a < 2 ^ 64) (hb : b < 2 ^ 64) : lN a ||| lN b = lN (a ||| b) := by
  apply wb_inj
  rw [Int64.toBitVec_or, wb_tb, wb_tb, wb_tb]
  apply BitVec.eq_of_toNat_eq
  rw [BitVec.toNat_or, BitVec.toNat_ofNat, BitVec.toNat_ofNat, BitVec.toNat_ofNat, Nat.mod_eq_of_lt ha, Nat.mod_eq_of_lt hb, Nat.mod_eq_of_lt (Nat.or_lt_two_pow ha hb)]
theorem wb_mask {n k : Nat} (hn : n < 2 ^ 64) (hk : k < 64) : lN n &&& lN (2 ^ k - 1) = lN (n % 2 ^ k) := by
  rw [wb_and hn (by have := wb_lt2 hk; omega), Nat.and_two_pow_sub_one_eq_mod]
theorem wb_a1 {n : Nat} (hn : n < 2 ^ 64) : lN n &&& 1 = lN (n % 2) := wb_mask (k := 1) hn (by decide)
theorem wb_bit {n k : Nat} (hn : n < 2 ^ 64) (hk : k < 64) : ((lN n).toUInt64 >>> ((nI k).toInt64.toUInt64 &&& Int64.toUInt64 63)).toInt64 &&& 1 = lN (n / 2 ^ k % 2) := by
  rw [wb_shr hn hk, wb_a1 (Nat.lt_of_le_of_lt (Nat.div_le_self _ _) hn)]
theorem wb_xor {q k : Nat} (hk : k < 63) (h : 2 ^ k ≤ q) (h2 : q < 2 ^ (k + 1)) : lN q ^^^ lN (2 ^ k) = lN (q - 2 ^ k) := by
  obtain ⟨r, rfl⟩ : ∃ r, q = 2 ^ k + r := ⟨q - 2 ^ k, by omega⟩
  have hr : r < 2 ^ k := by rw [Nat.pow_succ] at h2; omega
  have hx : (2 ^ k + r) ^^^ 2 ^ k = r := by
    apply Nat.eq_of_testBit_eq
    intro i
    rw [Nat.testBit_xor, Nat.testBit_two_pow]
    rcases Nat.lt_trichotomy i k with h | h | h
    · rw [Nat.testBit_two_pow_add_gt h]
      simp [show ¬ k = i by omega]
    · subst h
      rw [Nat.testBit_two_pow_add_eq]
      simp
    · have a1 : 2 ^ (k + 1) ≤ 2 ^ i := Nat.pow_le_pow_right (by decide) h
      rw [Nat.testBit_lt_two_pow (show 2 ^ k + r < 2 ^ i by omega), Nat.testBit_lt_two_pow (show r < 2 ^ i by omega)]
      simp [show ¬ k = i by omega]
  have b1 := wb_lt2 (show k + 1 < 64 by omega)
  have b2 := wb_lt2 (show k < 64 by omega)
  apply wb_inj
  rw [Int64.toBitVec_xor, wb_tb, wb_tb, wb_tb]
  apply BitVec.eq_of_toNat_eq
  rw [BitVec.toNat_xor, BitVec.toNat_ofNat, BitVec.toNat_ofNat, BitVec.toNat_ofNat, Nat.mod_eq_of_lt (by omega : 2 ^ k + r < 2 ^ 64), Nat.mod_eq_of_lt b2, hx, Nat.add_sub_cancel_left, Nat.mod_eq_of_lt (by omega)]
/-! ===== lN: masks, 'or' of parts that don't overlap is a sum ===== -/
theorem u_tn {n : Nat} (h : n < 2 ^ 64) : (UInt64.ofNat n).toNat = n := Nat.mod_eq_of_lt h
theorem g_and {a b c : Nat} (ha : a < 2 ^ 64) (hb : b < 2 ^ 64) (hc : a &&& b = c) : lN a &&& lN b = lN c := by
  subst hc
  have h : UInt64.ofNat a &&& UInt64.ofNat b = UInt64.ofNat (a &&& b) := UInt64.toNat_inj.mp (by rw [UInt64.toNat_and, u_tn ha, u_tn hb, u_tn (Nat.and_lt_two_pow a hb)])
  have h2 := congrArg UInt64.toInt64 h
  exact h2
theorem g_and1 {a : Nat} (ha : a < 2 ^ 64) : lN a &&& 1 = lN (a % 2) := g_and (b := 1) ha (by decide) (Nat.and_two_pow_sub_one_eq_mod a 1)
theorem g_mask {a s p : Nat} (hp : 2 ^ s = p) (hs : s < 64) (ha : a < 2 ^ 64) : lN a &&& lN (p - 1) = lN (a % p) := by
  subst hp
  have := Nat.pow_lt_pow_right (show 1 < 2 by decide) hs
  exact g_and ha (by omega) (Nat.and_two_pow_sub_one_eq_mod a s)
theorem g_or {k p a b : Nat} (hp : 2 ^ k = p) (ha : a < p) (h : b * p + a < 2 ^ 64) : lN (b * p) ||| lN a = lN (b * p + a) := by
  subst hp
  have h1 : b * 2 ^ k ||| a = b * 2 ^ k + a := by rw [← Nat.shiftLeft_eq, Nat.shiftLeft_add_eq_or_of_lt ha]
  have h3 : UInt64.ofNat (b * 2 ^ k) ||| UInt64.ofNat a = UInt64.ofNat (b * 2 ^ k + a) := UInt64.toNat_inj.mp (by rw [UInt64.toNat_or, u_tn (by omega), u_tn (by omega), u_tn h, h1])
  have h2 := congrArg UInt64.toInt64 h3
  exact h2
theorem g_or' {k p a b : Nat} (hp : 2 ^ k = p) (ha : a < p) (h : a + b * p < 2 ^ 64) : lN a ||| lN (b * p) = lN (a + b * p) := by
  rw [Int64.or_comm, g_or hp ha (by omega), Nat.add_comm]
theorem g_ushr {a k p : Nat} {y : UInt64} (hy : y = UInt64.ofNat k) (hk : k < 64) (hp : 2 ^ k = p) (ha : a < 2 ^ 64) : ((lN a).toUInt64 >>> y).toInt64 = lN (a / p) := by
  subst hy hp
  have h : UInt64.ofNat a >>> UInt64.ofNat k = UInt64.ofNat (a / 2 ^ k) := UInt64.toNat_inj.mp (by rw [UInt64.toNat_shiftRight, u_tn ha, u_tn (by omega), u_tn (Nat.lt_of_le_of_lt (Nat.div_le_self _ _) ha), Nat.mod_eq_of_lt hk, Nat.shiftRight_eq_div_pow])
  have h2 := congrArg UInt64.toInt64 h
  exact h2
theorem g_shl {a k p : Nat} {y : Int64} (hy : y.toBitVec.smod 64 = BitVec.ofNat 64 k) (hk : k < 64) (hp : 2 ^ k = p) (ha : a < 2 ^ 64) : lN a <<< y = lN (a * p) := by
  subst hp
  apply Int64.toBitVec_inj.mp
  rw [Int64.toBitVec_shiftLeft, hy]
  apply BitVec.eq_of_toNat_eq
  have hb : (lN a).toBitVec.toNat = a := Nat.mod_eq_of_lt ha
  have hk' : (BitVec.ofNat 64 k).toNat = k := Nat.mod_eq_of_lt (by omega)
  have h : ((lN a).toBitVec <<< BitVec.ofNat 64 k).toNat = (a * 2 ^ k) % 2 ^ 64 := by simp only [BitVec.shiftLeft_eq', BitVec.toNat_shiftLeft, hb, hk', Nat.shiftLeft_eq]
  exact h
/-! ===== lN to 2^62 under >> and >>> ===== -/
theorem pf_lI {a : Nat} (h : a < 2 ^ 63) : (lN a).toInt = (a : Int) := lg_ofNat_toInt h
theorem pf_shr {a d : Nat} {D : Int64} (hD : (D.toBitVec.smod 64).toNat = d) (h : a < 2 ^ 62) : lN a >>> D = lN (a / 2 ^ d) := by
  have hd : a / 2 ^ d ≤ a := Nat.div_le_self _ _
  apply Int64.toInt_inj.mp
  have e : (lN a >>> D).toInt = (lN a).toInt >>> d := by
    rw [← hD]
    exact BitVec.toInt_sshiftRight ..
  rw [e, Int.shiftRight_eq_div_pow, pf_lI (by omega), pf_lI (by omega)]
  rfl
theorem pf_ushr {a d : Nat} {D : UInt64} (hD : D.toNat % 64 = d) (h : a < 2 ^ 62) : ((lN a).toUInt64 >>> D).toInt64 = lN (a / 2 ^ d) := by
  have hd : a / 2 ^ d ≤ a := Nat.div_le_self _ _
  have e : (lN a).toUInt64 >>> D = UInt64.ofNat (a / 2 ^ d) := UInt64.toNat_inj.mp (by
    rw [UInt64.toNat_shiftRight, hD, Nat.shiftRight_eq_div_pow, UInt64.toNat_ofNat']
    show (UInt64.ofNat a).toNat / 2 ^ d = _
    rw [UInt64.toNat_ofNat', Nat.mod_eq_of_lt (by omega), Nat.mod_eq_of_lt (by omega)])
  rw [e]
  rfl
theorem pf_andw (x : Int64) : ∃ m, m < 2 ^ 32 ∧ x &&& 4294967295 = lN m := ⟨x.toBitVec.toNat % 2 ^ 32, Nat.mod_lt _ (by decide), Int64.toBitVec_inj.mp (BitVec.eq_of_toNat_eq (by
  show (x.toBitVec &&& 4294967295#64).toNat = (BitVec.ofNat 64 (x.toBitVec.toNat % 2 ^ 32)).toNat
  rw [BitVec.toNat_and, show (4294967295#64).toNat = 2 ^ 32 - 1 from by decide, Nat.and_two_pow_sub_one_eq_mod, BitVec.toNat_ofNat]
  omega))⟩
/-! ===== Int64 as an unsigned number: uN x ===== -/
def uN (x : Int64) : Nat := x.toUInt64.toNat
theorem uN_lt (x : Int64) : uN x < 18446744073709551616 := x.toUInt64.toNat_lt
theorem uN_inj {x y : Int64} (h : uN x = uN y) : x = y := congrArg UInt64.toInt64 (UInt64.toNat_inj.mp h)
theorem uN_add (x y : Int64) : uN (x + y) = (uN x + uN y) % 18446744073709551616 := by
  show (x.toUInt64 + y.toUInt64).toNat = _
  exact UInt64.toNat_add _ _
theorem uN_mul (x y : Int64) : uN (x * y) = (uN x * uN y) % 18446744073709551616 := by
  show (x.toUInt64 * y.toUInt64).toNat = _
  exact UInt64.toNat_mul _ _
theorem uN_shl (x : Int64) : uN (x <<< ((1 : Int32).toInt64 &&& 63)) = (2 * uN x) % 18446744073709551616 := by
  have h : (((1 : Int32).toInt64 &&& 63).toBitVec.smod 64).toNat = 1 := by decide
  show (x.toBitVec <<< (((1 : Int32).toInt64 &&& 63).toBitVec.smod 64).toNat).toNat = _
  rw [h, BitVec.toNat_shiftLeft, Nat.shiftLeft_eq, Nat.mul_comm]
  rfl
theorem uN_shr (x : Int64) (s : UInt64) : uN (x.toUInt64 >>> s).toInt64 = uN x / 2 ^ (s.toNat % 64) := by
  show (x.toUInt64 >>> s).toNat = _
  rw [UInt64.toNat_shiftRight, Nat.shiftRight_eq_div_pow]
  rfl
theorem uN_s32 (x : Int64) : uN (x.toUInt64 >>> ((32 : Int32).toInt64.toUInt64 &&& Int64.toUInt64 63)).toInt64 = uN x / 4294967296 := by
  have h : ((32 : Int32).toInt64.toUInt64 &&& Int64.toUInt64 63).toNat % 64 = 32 := by decide
  rw [uN_shr, h]
theorem uN_s63 (x : Int64) : uN (x.toUInt64 >>> ((63 : Int32).toInt64.toUInt64 &&& Int64.toUInt64 63)).toInt64 = uN x / 9223372036854775808 := by
  have h : ((63 : Int32).toInt64.toUInt64 &&& Int64.toUInt64 63).toNat % 64 = 63 := by decide
  rw [uN_shr, h]
theorem uN_lo (x : Int64) : uN (x &&& 4294967295) = uN x % 4294967296 := by
  show (x.toUInt64 &&& Int64.toUInt64 4294967295).toNat = _
  rw [UInt64.toNat_and]
  exact Nat.and_two_pow_sub_one_eq_mod _ 32
theorem uN_bit (x : Int64) : (x &&& 1) = 0 ↔ uN x % 2 = 0 := by
  have h : uN (x &&& 1) = uN x % 2 := by
    show (x.toUInt64 &&& Int64.toUInt64 1).toNat = _
    rw [UInt64.toNat_and]
    exact Nat.and_two_pow_sub_one_eq_mod _ 1
  rw [← h]
  exact ⟨fun z => by rw [z]; rfl, fun z => uN_inj (z.trans rfl)⟩
theorem uN_or {x y : Int64} (hy : uN y < 2) : uN ((x <<< ((1 : Int32).toInt64 &&& 63)) ||| y) = (2 * uN x) % 18446744073709551616 + uN y := by
  have h1 : uN ((x <<< ((1 : Int32).toInt64 &&& 63)) ||| y) = uN (x <<< ((1 : Int32).toInt64 &&& 63)) ||| uN y := UInt64.toNat_or _ _
  have h2 : (2 * uN x) % 18446744073709551616 = 2 ^ 1 * (uN x % 9223372036854775808) := by omega
  rw [h1, uN_shl, h2]
  exact (Nat.two_pow_add_eq_or_of_lt (i := 1) hy _).symm
theorem nat_xor {a : Nat} (h : a < 18446744073709551616) : a ^^^ 2 ^ 63 = (a + 9223372036854775808) % 18446744073709551616 := by
  have h1 : (a ^^^ 2 ^ 63) % 2 ^ 63 = a % 2 ^ 63 := by rw [Nat.xor_mod_two_pow, Nat.mod_self, Nat.xor_zero]
  have h2 : (a ^^^ 2 ^ 63) / 2 ^ 63 = (a / 2 ^ 63) ^^^ 1 := by rw [Nat.xor_div_two_pow, Nat.div_self (Nat.two_pow_pos 63)]
  have h3 : a / 2 ^ 63 = 0 ∨ a / 2 ^ 63 = 1 := by omega
  generalize a ^^^ 2 ^ 63 = t at h1 h2
  rcases h3 with h3 | h3
  · rw [h3] at h2
    have h2 : t / 2 ^ 63 = 1 := h2
    omega
  · rw [h3] at h2
    have h2 : t / 2 ^ 63 = 0 := h2
    omega
theorem uN_xor (x : Int64) : uN (x ^^^ (-9223372036854775808)) = (uN x + 9223372036854775808) % 18446744073709551616 := by
  rw [← nat_xor (uN_lt x)]
  exact UInt64.toNat_xor _ _
theorem uN_int (x : Int64) : x.toInt = if 2 * uN x < 18446744073709551616 then (uN x : Int) else (uN x : Int) - 18446744073709551616 := BitVec.toInt_eq_toNat_cond _
theorem uN_le (x y : Int64) : (x ^^^ (-9223372036854775808)) ≤ (y ^^^ (-9223372036854775808)) ↔ uN x ≤ uN y := by
  have hx := uN_lt x
  have hy := uN_lt y
  rw [Int64.le_iff_toInt_le, uN_int, uN_int, uN_xor, uN_xor]
  omega
theorem uN_sk (x : Int64) {k : Nat} (hk : k < 64) : uN (x.toUInt64 >>> ((nI k).toInt64.toUInt64 &&& Int64.toUInt64 63)).toInt64 = uN x / 2 ^ k := by
  have h : ((nI k).toInt64.toUInt64 &&& Int64.toUInt64 63).toNat % 64 = k := by
    rw [nI_l (by omega), UInt64.toNat_and]
    have e : (lN k).toUInt64.toNat = k % 2 ^ 64 := rfl
    have e2 : (Int64.toUInt64 63).toNat = 2 ^ 6 - 1 := by decide
    rw [e, e2, Nat.and_two_pow_sub_one_eq_mod]
    omega
  rw [uN_shr, h]
/-! ===== unsigned comparison by xor with the least ===== -/
theorem lN_bv (n : Nat) : (lN n).toBitVec = BitVec.ofNat 64 n := rfl
theorem lN_nat {n : Nat} (h : n < 2 ^ 64) : (lN n).toBitVec.toNat = n := by rw [lN_bv, BitVec.toNat_ofNat]; exact Nat.mod_eq_of_lt h
theorem lN_xor (a b : Nat) : lN a ^^^ lN b = lN (a ^^^ b) := by
  apply Int64.toBitVec_inj.mp; rw [Int64.toBitVec_xor, lN_bv, lN_bv, lN_bv]; apply BitVec.eq_of_getLsbD_eq; intro i hi; simp [BitVec.getLsbD_ofNat, Nat.testBit_xor, hi]
theorem lN_ti {m : Nat} (h : m < 2 ^ 64) : (lN m).toInt = if m < 2 ^ 63 then (m : Int) else (m : Int) - 2 ^ 64 := by
  have c := BitVec.toInt_eq_toNat_cond (lN m).toBitVec
  rw [lN_nat h] at c
  show (lN m).toBitVec.toInt = _
  rw [c]
  split <;> split <;> omega
theorem xor63 {x : Nat} (h : x < 2 ^ 63) : x ^^^ 2 ^ 63 = 2 ^ 63 + x := by
  apply Nat.eq_of_testBit_eq
  intro i
  rw [Nat.testBit_xor, Nat.testBit_two_pow]
  rcases Nat.lt_trichotomy i 63 with z | z | z
  · rw [Nat.testBit_two_pow_add_gt z, decide_eq_false (by omega)]; simp
  · subst z; rw [Nat.testBit_two_pow_add_eq]; simp
  · have hp : 2 ^ 64 ≤ 2 ^ i := Nat.pow_le_pow_right (by decide) z
    rw [Nat.testBit_lt_two_pow (show x < 2 ^ i by omega), Nat.testBit_lt_two_pow (show 2 ^ 63 + x < 2 ^ i by omega), decide_eq_false (by omega)]; rfl
theorem xorS {a : Nat} (h : a < 2 ^ 64) : (lN a ^^^ (-9223372036854775808)).toInt = (a : Int) - 2 ^ 63 := by
  rw [show (-9223372036854775808 : Int64) = lN (2 ^ 63) from by decide +kernel, lN_xor]
  rcases Nat.lt_or_ge a (2 ^ 63) with z | z
  · rw [xor63 z, lN_ti (by omega), if_neg (by omega)]; omega
  · obtain ⟨x, rfl⟩ : ∃ x, a = 2 ^ 63 + x := ⟨a - 2 ^ 63, by omega⟩
    rw [← xor63 (by omega), Nat.xor_assoc, Nat.xor_self, Nat.xor_zero, lN_ti (by omega), if_pos (by omega), xor63 (by omega)]; omega
theorem ultL {a b : Nat} (ha : a < 2 ^ 64) (hb : b < 2 ^ 64) : ((lN b ^^^ (-9223372036854775808)) ≤ (lN a ^^^ (-9223372036854775808))) ↔ b ≤ a := by
  rw [Int64.le_iff_toInt_le, xorS ha, xorS hb]; omega
/-! ===== Int64 masks of n low bits ===== -/
theorem cr_bits (W U M : BitVec 64) : ((W &&& U) &&& (U &&& (M ^^^ BitVec.allOnes 64))) = 0#64 ↔ (W &&& U) &&& M = W &&& U := by
  constructor
  · intro h
    apply BitVec.eq_of_getLsbD_eq
    intro i hi
    have e := congrArg (fun x => BitVec.getLsbD x i) h
    simp only [BitVec.getLsbD_and, BitVec.getLsbD_xor, BitVec.getLsbD_allOnes, BitVec.getLsbD_zero, hi, decide_true] at e ⊢
    revert e
    cases W.getLsbD i <;> cases U.getLsbD i <;> cases M.getLsbD i <;> decide
  · intro h
    apply BitVec.eq_of_getLsbD_eq
    intro i hi
    have e := congrArg (fun x => BitVec.getLsbD x i) h
    simp only [BitVec.getLsbD_and, BitVec.getLsbD_xor, BitVec.getLsbD_allOnes, BitVec.getLsbD_zero, hi, decide_true] at e ⊢
    revert e
    cases W.getLsbD i <;> cases U.getLsbD i <;> cases M.getLsbD i <;> decide
theorem cr_mask (w U m : Int64) (n : Nat) (hm : m.toBitVec.toNat = 2 ^ n - 1) : ((w &&& U) &&& (U &&& (m ^^^ (-1)))) = 0 ↔ (w &&& U).toBitVec.toNat < 2 ^ n := by
  have e0 : (-1 : Int64).toBitVec = BitVec.allOnes 64 := by decide
  have z0 : (0 : Int64).toBitVec = 0#64 := by decide
  rw [← Int64.toBitVec_inj, z0, Int64.toBitVec_and, Int64.toBitVec_and, Int64.toBitVec_and, Int64.toBitVec_xor, e0, cr_bits]
  generalize w.toBitVec &&& U.toBitVec = T
  rw [← BitVec.toNat_inj, BitVec.toNat_and, hm, Nat.and_two_pow_sub_one_eq_mod]
  constructor
  · intro h
    have t := Nat.mod_lt T.toNat (Nat.two_pow_pos n)
    rw [h] at t
    exact t
  · exact Nat.mod_eq_of_lt
theorem cr_shr (t : Int64) (x : UInt64) (n : Nat) (hx : x.toNat % 64 = n) : (t.toUInt64 >>> x).toInt64 = 0 ↔ t.toBitVec.toNat < 2 ^ n := by
  rw [← Int64.toBitVec_inj, ← BitVec.toNat_inj]
  show (t.toUInt64 >>> x).toNat = 0 ↔ t.toUInt64.toNat < 2 ^ n
  rw [UInt64.toNat_shiftRight, hx, Nat.shiftRight_eq_div_pow]
  constructor
  · intro h
    have d : t.toUInt64.toNat / 2 ^ n < 1 := by
      rw [h]
      decide
    have e := (Nat.div_lt_iff_lt_mul (Nat.two_pow_pos n)).mp d
    rw [Nat.one_mul] at e
    exact e
  · exact Nat.div_eq_of_lt
theorem cr_amt (s : Int64) : ∃ n, n < 64 ∧ s &&& 63 = lN n ∧ (s.toUInt64 &&& Int64.toUInt64 63).toNat % 64 = n := by
  have e : (s.toUInt64 &&& Int64.toUInt64 63).toNat = s.toUInt64.toNat % 2 ^ 6 := by
    rw [UInt64.toNat_and, show (Int64.toUInt64 63).toNat = 2 ^ 6 - 1 from by decide, Nat.and_two_pow_sub_one_eq_mod]
  refine ⟨s.toUInt64.toNat % 2 ^ 6, by omega, ?_, by omega⟩
  rw [← Int64.toBitVec_inj, ← BitVec.toNat_inj]
  show (s.toUInt64 &&& Int64.toUInt64 63).toNat = (BitVec.ofNat 64 (s.toUInt64.toNat % 2 ^ 6)).toNat
  rw [e, BitVec.toNat_ofNat]
  omega
end
section
/-! depth sequences: a tree in document order as the row of its depths -/
def qt_E (d : Nat → Nat) (a : Nat) : Nat → Nat → Nat
  | 0, q => q
  | f + 1, q => if d q ≤ a then q else qt_E d a f (q + 1)
def qt_en (n : Nat) (d : Nat → Nat) (r : Nat) : Nat := qt_E d (d r) (n - (r + 1)) (r + 1)
def qt_P (d : Nat → Nat) (a : Nat) : Nat → Nat
  | 0 => 0
  | q + 1 => if d (q + 1) < a then q + 1 else qt_P d a q
def qt_pr (d : Nat → Nat) (r : Nat) : Nat := qt_P d (d r) (r - 1)
def qt_D (n : Nat) (d : Nat → Nat) : Prop := d 0 = 0 ∧ ∀ r, 0 < r → r < n → 1 ≤ d r ∧ d r ≤ d (r - 1) + 1
def qt_PA (d : Nat → Nat) (q r : Nat) : Prop := q < r ∧ d q < d r ∧ ∀ x, q < x → x < r → d r ≤ d x
def qt_EN (n : Nat) (d : Nat → Nat) (r e : Nat) : Prop := r < e ∧ e ≤ n ∧ (∀ x, r < x → x < e → d r < d x) ∧ (e < n → d e ≤ d r)
theorem qt_E_spec (d : Nat → Nat) (a : Nat) : ∀ f q, q ≤ qt_E d a f q ∧ qt_E d a f q ≤ q + f ∧ (∀ x, q ≤ x → x < qt_E d a f q → a < d x) ∧ (qt_E d a f q < q + f → d (qt_E d a f q) ≤ a) := by
  intro f
  induction f with
  | zero => intro q; simp only [qt_E]; exact ⟨by omega, by omega, fun x _ _ => by omega, fun h => by omega⟩
  | succ f ih =>
    intro q
    simp only [qt_E]
    by_cases h : d q ≤ a
    · rw [if_pos h]; exact ⟨by omega, by omega, fun x _ _ => by omega, fun _ => h⟩
    · rw [if_neg h]
      obtain ⟨h1, h2, h3, h4⟩ := ih (q + 1)
      refine ⟨by omega, by omega, fun x hx hy => ?_, fun hh => h4 (by omega)⟩
      by_cases e : x = q
      · subst e; omega
      · exact h3 x (by omega) hy
theorem qt_en_spec {n : Nat} {d : Nat → Nat} {r : Nat} (h : r < n) : qt_EN n d r (qt_en n d r) := by
  obtain ⟨h1, h2, h3, h4⟩ := qt_E_spec d (d r) (n - (r + 1)) (r + 1)
  exact ⟨by unfold qt_en; omega, by unfold qt_en; omega, fun x hx hy => h3 x (by omega) hy, fun hh => h4 (by unfold qt_en at hh; omega)⟩
theorem qt_EN_uniq {n : Nat} {d : Nat → Nat} {r e e' : Nat} (h : qt_EN n d r e) (h' : qt_EN n d r e') : e = e' := by
  obtain ⟨a1, a2, a3, a4⟩ := h
  obtain ⟨b1, b2, b3, b4⟩ := h'
  rcases Nat.lt_trichotomy e e' with g | g | g
  · have := b3 e a1 g; have := a4 (by omega); omega
  · exact g
  · have := a3 e' b1 g; have := b4 (by omega); omega
theorem qt_en_eq {n : Nat} {d : Nat → Nat} {r e : Nat} (h : qt_EN n d r e) : qt_en n d r = e :=
  qt_EN_uniq (qt_en_spec (by have := h.1; have := h.2.1; omega)) h
theorem qt_P_spec (d : Nat → Nat) (a : Nat) (h0 : d 0 < a) : ∀ q, qt_P d a q ≤ q ∧ d (qt_P d a q) < a ∧ ∀ x, qt_P d a q < x → x ≤ q → a ≤ d x := by
  intro q
  induction q with
  | zero => simp only [qt_P]; exact ⟨by omega, h0, fun x _ _ => by omega⟩
  | succ q ih =>
    simp only [qt_P]
    by_cases h : d (q + 1) < a
    · rw [if_pos h]; exact ⟨by omega, h, fun x _ _ => by omega⟩
    · rw [if_neg h]
      obtain ⟨h1, h2, h3⟩ := ih
      refine ⟨by omega, h2, fun x hx hy => ?_⟩
      by_cases e : x = q + 1
      · subst e; omega
      · exact h3 x hx (by omega)
theorem qt_pr_spec {n : Nat} {d : Nat → Nat} {r : Nat} (D : qt_D n d) (h0 : 0 < r) (h : r < n) : qt_PA d (qt_pr d r) r := by
  have hd : d 0 < d r := by have := (D.2 r h0 h).1; have := D.1; omega
  obtain ⟨h1, h2, h3⟩ := qt_P_spec d (d r) hd (r - 1)
  exact ⟨by unfold qt_pr; omega, h2, fun x hx hy => h3 x hx (by omega)⟩
theorem qt_PA_uniq {d : Nat → Nat} {q q' r : Nat} (h : qt_PA d q r) (h' : qt_PA d q' r) : q = q' := by
  obtain ⟨a1, a2, a3⟩ := h
  obtain ⟨b1, b2, b3⟩ := h'
  rcases Nat.lt_trichotomy q q' with g | g | g
  · have := a3 q' g b1; omega
  · exact g
  · have := b3 q g a1; omega
theorem qt_pr_eq {d : Nat → Nat} {q r : Nat} (h : qt_PA d q r) : qt_pr d r = q := by
  obtain ⟨a1, a2, a3⟩ := h
  have key : ∀ k, q ≤ k → k < r → qt_P d (d r) k = q := by
    intro k
    induction k with
    | zero => intro hk _; simp only [qt_P]; omega
    | succ k ih =>
      intro hk hr
      simp only [qt_P]
      by_cases e : q = k + 1
      · subst e; rw [if_pos a2]
      · rw [if_neg (by have := a3 (k + 1) (by omega) hr; omega)]; exact ih (by omega) (by omega)
  exact key (r - 1) (by omega) (by omega)
theorem qt_pr_lt {n : Nat} {d : Nat → Nat} {r : Nat} (D : qt_D n d) (h0 : 0 < r) (h : r < n) : qt_pr d r < r := (qt_pr_spec D h0 h).1
theorem qt_PA_dep {n : Nat} {d : Nat → Nat} {q r : Nat} (D : qt_D n d) (h : r < n) (a : qt_PA d q r) : d r = d q + 1 := by
  obtain ⟨a1, a2, a3⟩ := a
  by_cases e : q + 1 = r
  · have := (D.2 r (by omega) h).2; subst e; simp only [Nat.add_sub_cancel] at this; omega
  · have h1 := a3 (q + 1) (by omega) (by omega)
    have h2 := (D.2 (q + 1) (by omega) (by omega)).2
    simp only [Nat.add_sub_cancel] at h2; omega
theorem qt_child {n : Nat} {d : Nat → Nat} {p r : Nat} (D : qt_D n d) (hp : p < n) (hr : r < n) : qt_PA d p r ↔ (p < r ∧ r < qt_en n d p ∧ d r = d p + 1) := by
  obtain ⟨e1, e2, e3, e4⟩ := qt_en_spec (d := d) hp
  constructor
  · intro a
    refine ⟨a.1, ?_, qt_PA_dep D hr a⟩
    by_cases g : r < qt_en n d p
    · exact g
    · have h1 := e4 (by omega)
      have h2 := a.2.1
      by_cases e : qt_en n d p = r
      · rw [e] at h1; omega
      · have := a.2.2 (qt_en n d p) e1 (by omega); omega
  · intro ⟨a1, a2, a3⟩
    exact ⟨a1, by omega, fun x hx hy => by have := e3 x hx (by omega); omega⟩
theorem qt_D_le {n : Nat} {d : Nat → Nat} (D : qt_D n d) : ∀ r, r < n → d r ≤ r := by
  intro r
  induction r with
  | zero => intro _; have := D.1; omega
  | succ r ih => intro h; have := (D.2 (r + 1) (by omega) h).2; simp only [Nat.add_sub_cancel] at this; have := ih (by omega); omega
theorem qt_en_root {n : Nat} {d : Nat → Nat} (D : qt_D n d) (hn : 0 < n) : qt_en n d 0 = n :=
  qt_en_eq ⟨hn, Nat.le_refl _, fun x hx hy => by have := (D.2 x hx hy).1; have := D.1; omega, fun h => by omega⟩
/-- the subtree of a node inside that of another -/
theorem qt_en_le {n : Nat} {d : Nat → Nat} {p r : Nat} (hp : p < n) (h1 : p < r) (h2 : r < qt_en n d p) : qt_en n d r ≤ qt_en n d p := by
  obtain ⟨e1, e2, e3, e4⟩ := qt_en_spec (d := d) hp
  obtain ⟨f1, f2, f3, f4⟩ := qt_en_spec (n := n) (d := d) (r := r) (by omega)
  by_cases g : qt_en n d r ≤ qt_en n d p
  · exact g
  · have := f3 (qt_en n d p) h2 (by omega); have := e4 (by omega); have := e3 r h1 h2; omega
/-! sizes: a node's size is one and the sizes of its children -/
def qt_S (n : Nat) (d : Nat → Nat) (q : Nat) : Nat → Nat
  | 0 => 0
  | k + 1 => qt_S n d q k + if qt_pr d (n - 1 - k) = q then qt_en n d (n - 1 - k) - (n - 1 - k) else 0
theorem qt_S_skip (n : Nat) (d : Nat → Nat) (q b : Nat) : ∀ c, b ≤ c → c ≤ n → (∀ x, b ≤ x → x < c → qt_pr d x ≠ q) → qt_S n d q (n - b) = qt_S n d q (n - c) := by
  intro c
  induction c with
  | zero => intro h1 _ _; have : b = 0 := by omega
            rw [this]
  | succ c ih =>
    intro h1 h2 h3
    by_cases e : b = c + 1
    · rw [e]
    · rw [ih (by omega) (by omega) (fun x hx hy => h3 x hx (by omega))]
      have e1 : n - c = (n - (c + 1)) + 1 := by omega
      have e2 : n - 1 - (n - (c + 1)) = c := by omega
      rw [e1, qt_S, e2, if_neg (h3 c (by omega) (by omega))]; rfl
theorem qt_S_one (n : Nat) (d : Nat → Nat) (q b : Nat) (h : b < n) : qt_S n d q (n - b) = qt_S n d q (n - (b + 1)) + if qt_pr d b = q then qt_en n d b - b else 0 := by
  have e1 : n - b = (n - (b + 1)) + 1 := by omega
  have e2 : n - 1 - (n - (b + 1)) = b := by omega
  rw [e1, qt_S, e2]
theorem qt_S_all {n : Nat} {d : Nat → Nat} (D : qt_D n d) {q : Nat} (hq : q < n) : ∀ k b, k = qt_en n d q - b → q < b → b ≤ qt_en n d q → (b = qt_en n d q ∨ qt_PA d q b) → qt_S n d q (n - b) = qt_en n d q - b := by
  obtain ⟨e1, e2, e3, e4⟩ := qt_en_spec (d := d) hq
  intro k
  induction k using Nat.strongRecOn with
  | _ k ih =>
    intro b hk h1 h2 h3
    by_cases e : b = qt_en n d q
    · rw [qt_S_skip n d q b n (by omega) (by omega)]
      · rw [Nat.sub_self, qt_S, e]; omega
      · intro x hx hy g
        have := qt_pr_spec D (by omega) hy
        rw [g] at this
        have := (qt_child D hq hy).mp this
        omega
    · have pa : qt_PA d q b := by rcases h3 with g | g; exact absurd g e; exact g
      have hb : b < n := by omega
      obtain ⟨f1, f2, f3, f4⟩ := qt_en_spec (d := d) hb
      have hle := qt_en_le (d := d) hq h1 (by omega)
      rw [qt_S_one n d q b hb, qt_pr_eq pa, if_pos rfl, qt_S_skip n d q (b + 1) (qt_en n d b) (by omega) f2]
      · have hdb := qt_PA_dep D hb pa
        rw [ih (qt_en n d q - qt_en n d b) (by omega) (qt_en n d b) rfl (by omega) hle]
        · omega
        · by_cases g : qt_en n d b = qt_en n d q
          · exact Or.inl g
          · right
            rw [qt_child D hq (by omega)]
            have := f4 (by omega)
            have := e3 (qt_en n d b) (by omega) (by omega)
            exact ⟨by omega, by omega, by omega⟩
      · intro x hx hy g
        have hx' : x < n := by omega
        have pa' := qt_pr_spec D (by omega) hx'
        rw [g] at pa'
        have := pa'.2.2 b h1 (by omega)
        have := f3 x (by omega) hy
        omega
theorem qt_S_size {n : Nat} {d : Nat → Nat} (D : qt_D n d) {q : Nat} (hq : q < n) : qt_S n d q (n - (q + 1)) = qt_en n d q - (q + 1) := by
  obtain ⟨e1, e2, e3, e4⟩ := qt_en_spec (d := d) hq
  refine qt_S_all D hq _ (q + 1) rfl (by omega) (by omega) ?_
  by_cases g : q + 1 = qt_en n d q
  · exact Or.inl g
  · right
    have h1 := e3 (q + 1) (by omega) (by omega)
    exact ⟨by omega, h1, fun x hx hy => by omega⟩
/-! a run cut out -/
def qt_cut (d : Nat → Nat) (p w : Nat) : Nat → Nat := fun x => if x < p then d x else d (x + w)
theorem qt_cut_lo {d : Nat → Nat} {p w x : Nat} (h : x < p) : qt_cut d p w x = d x := if_pos h
theorem qt_cut_hi {d : Nat → Nat} {p w x : Nat} (h : p ≤ x) : qt_cut d p w x = d (x + w) := if_neg (by omega)
theorem qt_cut_D {n : Nat} {d : Nat → Nat} {p w : Nat} (D : qt_D n d) (h0 : 0 < p) (hp : p < n) (hw : p + w = qt_en n d p) : qt_D (n - w) (qt_cut d p w) := by
  obtain ⟨e1, e2, e3, e4⟩ := qt_en_spec (d := d) hp
  refine ⟨by rw [qt_cut_lo h0]; exact D.1, fun r h1 h2 => ?_⟩
  by_cases g : r < p
  · rw [qt_cut_lo g, qt_cut_lo (by omega)]; exact D.2 r h1 (by omega)
  · rw [qt_cut_hi (by omega)]
    have a := D.2 (r + w) (by omega) (by omega)
    by_cases e : r = p
    · subst e
      rw [qt_cut_lo (by omega)]
      have b := D.2 r h0 hp
      rw [hw] at a ⊢
      have := e4 (by omega)
      exact ⟨a.1, by omega⟩
    · rw [qt_cut_hi (by omega)]
      rw [show r - 1 + w = r + w - 1 by omega]; exact a
theorem qt_cut_PA {n : Nat} {d : Nat → Nat} {p w q r : Nat} (D : qt_D n d) (h0 : 0 < p) (hp : p < n) (hw : p + w = qt_en n d p) (hr0 : 0 < r) (hr : r < n - w) (h : qt_PA d q (if r < p then r else r + w)) : qt_PA (qt_cut d p w) (if q < p then q else q - w) r ∧ (p ≤ q → p + w ≤ q) := by
  obtain ⟨e1, e2, e3, e4⟩ := qt_en_spec (d := d) hp
  obtain ⟨a1, a2, a3⟩ := h
  by_cases g : r < p
  · rw [if_pos g] at a1 a2 a3
    rw [if_pos (by omega)]
    refine ⟨⟨a1, by rw [qt_cut_lo (by omega), qt_cut_lo g]; exact a2, fun x hx hy => ?_⟩, fun h => by omega⟩
    rw [qt_cut_lo g, qt_cut_lo (by omega)]; exact a3 x hx hy
  · rw [if_neg g] at a1 a2 a3
    have key : q < p ∨ p + w ≤ q := by
      by_cases k1 : q < p
      · exact Or.inl k1
      · by_cases k2 : p + w ≤ q
        · exact Or.inr k2
        · exfalso
          have h1 := e4 (by omega)
          have h2 : d p ≤ d q := by
            by_cases e : q = p
            · rw [e]; exact Nat.le_refl _
            · have := e3 q (by omega) (by omega); omega
          by_cases e : r = p
          · rw [e, hw] at a2; omega
          · have := a3 (p + w) (by omega) (by omega); rw [hw] at this; omega
    by_cases k1 : q < p
    · rw [if_pos k1]
      refine ⟨⟨by omega, by rw [qt_cut_lo k1, qt_cut_hi (by omega)]; exact a2, fun x hx hy => ?_⟩, fun h => by omega⟩
      rw [qt_cut_hi (x := r) (by omega)]
      by_cases k : x < p
      · rw [qt_cut_lo k]; exact a3 x hx (by omega)
      · rw [qt_cut_hi (by omega)]; exact a3 (x + w) (by omega) (by omega)
    · rw [if_neg k1]
      have k2 : p + w ≤ q := by omega
      refine ⟨⟨by omega, ?_, fun x hx hy => ?_⟩, fun h => by omega⟩
      · rw [qt_cut_hi (by omega), qt_cut_hi (by omega), show q - w + w = q by omega]; exact a2
      · rw [qt_cut_hi (x := r) (by omega), qt_cut_hi (by omega)]; exact a3 (x + w) (by omega) (by omega)
/-! a run put in, as the child of t -/
def qt_ins (d : Nat → Nat) (s w : Nat) (b : Nat → Nat) : Nat → Nat := fun x => if x < s then d x else if x < s + w then b (x - s) else d (x - w)
theorem qt_ins_lo {d b : Nat → Nat} {s w x : Nat} (h : x < s) : qt_ins d s w b x = d x := if_pos h
theorem qt_ins_in {d b : Nat → Nat} {s w x : Nat} (h : s ≤ x) (h2 : x < s + w) : qt_ins d s w b x = b (x - s) := by
  unfold qt_ins; rw [if_neg (by omega), if_pos h2]
theorem qt_ins_hi {d b : Nat → Nat} {s w x : Nat} (h : s + w ≤ x) : qt_ins d s w b x = d (x - w) := by
  unfold qt_ins; rw [if_neg (by omega), if_neg (by omega)]
/-- where a child of t may be put: s is a child of t, or the rank behind its subtree -/
def qt_Sp (n : Nat) (d : Nat → Nat) (t s : Nat) : Prop := t < s ∧ s ≤ qt_en n d t ∧ (s < qt_en n d t → d s = d t + 1)
/-- a run that is a subtree with root depth D -/
def qt_B (w : Nat) (b : Nat → Nat) (D : Nat) : Prop := 0 < w ∧ b 0 = D ∧ ∀ k, 0 < k → k < w → D < b k ∧ b k ≤ b (k - 1) + 1
theorem qt_Sp_le {n : Nat} {d : Nat → Nat} {t s : Nat} (ht : t < n) (h : qt_Sp n d t s) (hs : s < n) : d s ≤ d t + 1 := by
  obtain ⟨e1, e2, e3, e4⟩ := qt_en_spec (d := d) ht
  by_cases g : s < qt_en n d t
  · have := h.2.2 g; omega
  · have e : s = qt_en n d t := by have := h.2.1; omega
    have := e4 (by omega); rw [e]; omega
theorem qt_ins_D {n : Nat} {d b : Nat → Nat} {t s w : Nat} (D : qt_D n d) (ht : t < n) (h : qt_Sp n d t s) (B : qt_B w b (d t + 1)) : qt_D (n + w) (qt_ins d s w b) := by
  obtain ⟨e1, e2, e3, e4⟩ := qt_en_spec (d := d) ht
  have h1 := h.1
  have h2 := h.2.1
  refine ⟨by rw [qt_ins_lo (by omega)]; exact D.1, fun r hr hr2 => ?_⟩
  by_cases g1 : r < s
  · rw [qt_ins_lo g1, qt_ins_lo (by omega)]; exact D.2 r hr (by omega)
  · by_cases g2 : r < s + w
    · rw [qt_ins_in (by omega) g2]
      by_cases e : r = s
      · subst e
        rw [qt_ins_lo (by omega), Nat.sub_self, B.2.1]
        refine ⟨by omega, ?_⟩
        by_cases k : r - 1 = t
        · rw [k]; omega
        · have := e3 (r - 1) (by omega) (by omega); omega
      · rw [qt_ins_in (by omega) (by omega)]
        have := B.2.2 (r - s) (by omega) (by omega)
        rw [show r - 1 - s = r - s - 1 by omega]
        exact ⟨by omega, this.2⟩
    · rw [qt_ins_hi (by omega)]
      by_cases e : r = s + w
      · subst e
        have hs : s < n := by omega
        rw [qt_ins_in (by have := B.1; omega) (by have := B.1; omega), show s + w - w = s by omega]
        have a := D.2 s (by omega) hs
        have c := qt_Sp_le ht h hs
        refine ⟨a.1, ?_⟩
        have : d t + 1 ≤ b (s + w - 1 - s) := by
          by_cases k : w = 1
          · rw [k, show s + 1 - 1 - s = 0 by omega, B.2.1]; exact Nat.le_refl _
          · have := B.2.2 (s + w - 1 - s) (by have := B.1; omega) (by have := B.1; omega); omega
        omega
      · rw [qt_ins_hi (by omega), show r - 1 - w = r - w - 1 by omega]; exact D.2 (r - w) (by omega) (by omega)
theorem qt_ins_PA_lo {n : Nat} {d b : Nat → Nat} {s w q r : Nat} (hr : r < s) (h : qt_PA d q r) : qt_PA (qt_ins d s w b) q r := by
  obtain ⟨a1, a2, a3⟩ := h
  refine ⟨a1, by rw [qt_ins_lo (by omega), qt_ins_lo hr]; exact a2, fun x hx hy => ?_⟩
  rw [qt_ins_lo hr, qt_ins_lo (by omega)]; exact a3 x hx hy
theorem qt_ins_PA_at {n : Nat} {d b : Nat → Nat} {t s w : Nat} (ht : t < n) (h : qt_Sp n d t s) (B : qt_B w b (d t + 1)) : qt_PA (qt_ins d s w b) t s := by
  obtain ⟨e1, e2, e3, e4⟩ := qt_en_spec (d := d) ht
  have es : qt_ins d s w b s = d t + 1 := by rw [qt_ins_in (Nat.le_refl _) (by have := B.1; omega), Nat.sub_self, B.2.1]
  refine ⟨h.1, by rw [es, qt_ins_lo h.1]; omega, fun x hx hy => ?_⟩
  rw [es, qt_ins_lo hy]
  have := e3 x hx (by have := h.2.1; omega); omega
theorem qt_ins_PA_in {d b : Nat → Nat} {s w q k : Nat} (hk : k < w) (h : qt_PA b q k) : qt_PA (qt_ins d s w b) (s + q) (s + k) := by
  obtain ⟨a1, a2, a3⟩ := h
  refine ⟨by omega, ?_, fun x hx hy => ?_⟩
  · rw [qt_ins_in (by omega) (by omega), qt_ins_in (by omega) (by omega), Nat.add_sub_cancel_left, Nat.add_sub_cancel_left]; exact a2
  · rw [qt_ins_in (x := s + k) (by omega) (by omega), qt_ins_in (by omega) (by omega), Nat.add_sub_cancel_left]; exact a3 (x - s) (by omega) (by omega)
theorem qt_ins_PA_hi {n : Nat} {d b : Nat → Nat} {t s w q r : Nat} (ht : t < n) (h : qt_Sp n d t s) (B : qt_B w b (d t + 1)) (hr : s ≤ r) (hn : r < n) (a : qt_PA d q r) : qt_PA (qt_ins d s w b) (if q < s then q else q + w) (r + w) := by
  obtain ⟨a1, a2, a3⟩ := a
  have er : qt_ins d s w b (r + w) = d r := by rw [qt_ins_hi (by omega), Nat.add_sub_cancel]
  by_cases g : q < s
  · rw [if_pos g]
    have hs : s < n := by omega
    have c := qt_Sp_le ht h hs
    have hrs : d r ≤ d t + 1 := by
      by_cases e : r = s
      · rw [e]; exact c
      · have := a3 s g (by omega); omega
    refine ⟨by omega, by rw [er, qt_ins_lo g]; exact a2, fun x hx hy => ?_⟩
    rw [er]
    by_cases g1 : x < s
    · rw [qt_ins_lo g1]; exact a3 x hx (by omega)
    · by_cases g2 : x < s + w
      · rw [qt_ins_in (by omega) g2]
        by_cases k : x = s
        · rw [k, Nat.sub_self, B.2.1]; exact hrs
        · have := B.2.2 (x - s) (by omega) (by omega); omega
      · rw [qt_ins_hi (by omega)]; exact a3 (x - w) (by omega) (by omega)
  · rw [if_neg g]
    refine ⟨by omega, by rw [er, qt_ins_hi (by omega), Nat.add_sub_cancel]; exact a2, fun x hx hy => ?_⟩
    rw [er, qt_ins_hi (by omega)]; exact a3 (x - w) (by omega) (by omega)
/-! counting -/
def qt_cn (C : Nat → Bool) : Nat → Nat
  | 0 => 0
  | r + 1 => qt_cn C r + if C r then 1 else 0
theorem qt_cn_le (C : Nat → Bool) : ∀ r, qt_cn C r ≤ r := by
  intro r
  induction r with
  | zero => exact Nat.le_refl _
  | succ r ih => simp only [qt_cn]; split <;> omega
theorem qt_cn_0 (C : Nat → Bool) : ∀ r, (∀ x, x < r → C x = false) → qt_cn C r = 0 := by
  intro r
  induction r with
  | zero => intro _; rfl
  | succ r ih => intro h; simp only [qt_cn]; rw [ih (fun x hx => h x (by omega)), h r (by omega)]; rfl
theorem qt_cn_mono (C : Nat → Bool) : ∀ a b, a ≤ b → qt_cn C a ≤ qt_cn C b := by
  intro a b h
  induction b with
  | zero => have : a = 0 := by omega
            rw [this]; exact Nat.le_refl _
  | succ b ih =>
    by_cases e : a = b + 1
    · rw [e]; exact Nat.le_refl _
    · have := ih (by omega); simp only [qt_cn]; omega
theorem qt_cn_inj {C : Nat → Bool} {a b : Nat} (ha : C a = true) (hb : C b = true) (h : qt_cn C a = qt_cn C b) : a = b := by
  rcases Nat.lt_trichotomy a b with g | g | g
  · have := qt_cn_mono C (a + 1) b (by omega); simp only [qt_cn, ha, if_true] at this; omega
  · exact g
  · have := qt_cn_mono C (b + 1) a (by omega); simp only [qt_cn, hb, if_true] at this; omega
theorem qt_cn_ex {C : Nat → Bool} {k : Nat} : ∀ n, k < qt_cn C n → ∃ r, r < n ∧ C r = true ∧ qt_cn C r = k := by
  intro n
  induction n with
  | zero => intro h; simp only [qt_cn] at h; omega
  | succ n ih =>
    intro h
    by_cases g : k < qt_cn C n
    · obtain ⟨r, a, b, c⟩ := ih g; exact ⟨r, by omega, b, c⟩
    · simp only [qt_cn] at h
      by_cases e : C n = true
      · rw [if_pos e] at h; exact ⟨n, by omega, e, by omega⟩
      · rw [if_neg e] at h; omega
end
section
/-! arrays: what the shifting loops leave -/
def qa_b (b : Bool) : Int32 := if b then 1 else 0
theorem qa_b_t : qa_b true = 1 := rfl
theorem qa_b_f : qa_b false = 0 := rfl
theorem qa_b0 (b : Bool) : qa_b b = 0 ↔ b = false := by cases b <;> decide
theorem qa_bn (b : Bool) : narrow .boolean (.int (qa_b b)) = .int (qa_b b) := by cases b <;> rfl
/-- a branch on a Boolean answer -/
theorem qa_br {b : Bool} {A B : Prop} (f : b = false → A) (g : b = true → B) : (qa_b b = 0 → A) ∧ (¬ qa_b b = 0 → B) := by
  cases b
  · exact ⟨fun _ => f rfl, fun h => absurd rfl h⟩
  · exact ⟨fun h => absurd h (by decide), fun _ => g rfl⟩
def qa_cl (f : Nat → Int32) (p r w : Nat) : Nat → Int32 := fun x => if p ≤ x ∧ x < r then f (x + w) else f x
def qa_og (f : Nat → Int32) (r n w : Nat) : Nat → Int32 := fun x => if r + w ≤ x ∧ x < n + w then f (x - w) else f x
def qa_pu (f : Nat → Int32) (s : Nat) (b : Nat → Int32) (w : Nat) : Nat → Int32 := fun x => if s ≤ x ∧ x < s + w then b (x - s) else f x
def qa_bl (f g : Nat → Int32) (p w : Nat) : Nat → Int32 := fun k => if k < w then g (p + k) else f k
theorem qa_cl_0 (f : Nat → Int32) (p w : Nat) : qa_cl f p p w = f := by
  funext x; unfold qa_cl; rw [if_neg (by omega)]
theorem qa_cl_s (f : Nat → Int32) (p r w : Nat) (h : p ≤ r) : upd (qa_cl f p r w) r (qa_cl f p r w (r + w)) = qa_cl f p (r + 1) w := by
  funext x
  unfold upd qa_cl
  by_cases e : x = r
  · subst e; rw [if_pos rfl, if_neg (by omega), if_pos (by omega)]
  · rw [if_neg e]
    by_cases g : p ≤ x ∧ x < r
    · rw [if_pos g, if_pos (by omega)]
    · rw [if_neg g, if_neg (by omega)]
theorem qa_og_0 (f : Nat → Int32) (n w : Nat) : qa_og f n n w = f := by
  funext x; unfold qa_og; rw [if_neg (by omega)]
theorem qa_og_s (f : Nat → Int32) (r n w : Nat) (h : r < n) : upd (qa_og f (r + 1) n w) (r + w) (qa_og f (r + 1) n w r) = qa_og f r n w := by
  funext x
  unfold upd qa_og
  by_cases e : x = r + w
  · subst e; rw [if_pos rfl, if_neg (by omega), if_pos (by omega), Nat.add_sub_cancel]
  · rw [if_neg e]
    by_cases g : r + w ≤ x ∧ x < n + w
    · rw [if_pos g, if_pos (by omega)]
    · rw [if_neg g, if_neg (by omega)]
theorem qa_pu_0 (f : Nat → Int32) (s : Nat) (b : Nat → Int32) : qa_pu f s b 0 = f := by
  funext x; unfold qa_pu; rw [if_neg (by omega)]
theorem qa_pu_s (f : Nat → Int32) (s : Nat) (b : Nat → Int32) (k : Nat) : upd (qa_pu f s b k) (s + k) (b k) = qa_pu f s b (k + 1) := by
  funext x
  unfold upd qa_pu
  by_cases e : x = s + k
  · subst e; rw [if_pos rfl, if_pos (by omega), Nat.add_sub_cancel_left]
  · rw [if_neg e]
    by_cases g : s ≤ x ∧ x < s + k
    · rw [if_pos g, if_pos (by omega)]
    · rw [if_neg g, if_neg (by omega)]
theorem qa_bl_0 (f g : Nat → Int32) (p : Nat) : qa_bl f g p 0 = f := by
  funext x; unfold qa_bl; rw [if_neg (by omega)]
theorem qa_bl_s (f g : Nat → Int32) (p k : Nat) : upd (qa_bl f g p k) k (g (p + k)) = qa_bl f g p (k + 1) := by
  funext x
  unfold upd qa_bl
  by_cases e : x = k
  · subst e; rw [if_pos rfl, if_pos (by omega)]
  · rw [if_neg e]
    by_cases g : x < k
    · rw [if_pos g, if_pos (by omega)]
    · rw [if_neg g, if_neg (by omega)]
section
variable {ymo : Int32} {yn : Int32} {yw : Int32} {yle : Int32} {yfo : Int32} {yli : Int32} {yat : Int32} {ysu : Int64} {yid : (Nat → Int32)} {ydp : (Nat → Int32)} {ynm : (Nat → Int32)} {yvl : (Nat → Int32)} {yci : (Nat → Int32)} {ycd : (Nat → Int32)} {ypd : (Nat → Int32)} {yqu : (Nat → Int32)} {ygv : (Nat → Int64)} {yls : (Nat → Int32)} {yrs : (Nat → Int32)} {yor : (Nat → Int32)} {yan : (Nat → Int32)} {yno : (Nat → Int32)} {yow : (Nat → Int32)} {ypa : (Nat → Int32)}
/-! Y: the place of an id -/
theorem qy_pl_hit {n r : Nat} {v : Int32} {post : Int32 → Prop} (hn : n ≤ 40) (hr : r < n) (h : yid r = v) (hx : ∀ x, x < r → yid x ≠ v) (hp : post (nI r)) : wpY_placeOf post (ymo, nI n, yw, yle, yfo, yli, yat, ysu, yid, ydp, ynm, yvl, yci, ycd, ypd, yqu, ygv, yls, yrs, yor, yan, yno, yow, ypa) v := by
  have key : ∀ k x, x + k = r → wY_placeOf_2 post v ymo (nI n) yw yle yfo yli yat ysu yid ydp ynm yvl yci ycd ypd yqu ygv yls yrs yor yan yno yow ypa (k + 1) (nI x) := by
    intro k
    induction k with
    | zero =>
      intro x e
      have e : x = r := by omega
      subst e
      refine br_f (nI_ge (by omega) (by omega)) ⟨vp_in_nI (by omega) (by omega), br_t ?_ hp⟩
      rw [nI_clamp (by omega)]; exact h
    | succ k ih =>
      intro x e
      refine br_f (nI_ge (by omega) (by omega)) ⟨vp_in_nI (by omega) (by omega), br_f ?_ (nm_r (nI_1 x) (ih (x + 1) (by omega)))⟩
      rw [nI_clamp (by omega)]; exact hx x (by omega)
  exact Exists.intro _ (key r 0 (by omega))
theorem qy_pl_miss {n : Nat} {v : Int32} {post : Int32 → Prop} (hn : n ≤ 40) (hx : ∀ x, x < n → yid x ≠ v) (hp : post (-1)) : wpY_placeOf post (ymo, nI n, yw, yle, yfo, yli, yat, ysu, yid, ydp, ynm, yvl, yci, ycd, ypd, yqu, ygv, yls, yrs, yor, yan, yno, yow, ypa) v := by
  have key : ∀ k x, x + k = n → wY_placeOf_2 post v ymo (nI n) yw yle yfo yli yat ysu yid ydp ynm yvl yci ycd ypd yqu ygv yls yrs yor yan yno yow ypa (k + 1) (nI x) := by
    intro k
    induction k with
    | zero => intro x e; exact br_t (nI_le (by omega) (by omega)) hp
    | succ k ih =>
      intro x e
      refine br_f (nI_ge (by omega) (by omega)) ⟨vp_in_nI (by omega) (by omega), br_f ?_ (nm_r (nI_1 x) (ih (x + 1) (by omega)))⟩
      rw [nI_clamp (by omega)]; exact hx x (by omega)
  exact Exists.intro _ (key n 0 (by omega))
/-! Y: the place behind a subtree, above, the parent's place, children -/
def qt_ab (n : Nat) (d : Nat → Nat) (p q : Nat) : Bool := decide (p < q ∧ q < qt_en n d p)
def qt_ch (n : Nat) (d : Nat → Nat) (p q : Nat) : Bool := decide (d q = d p + 1 ∧ p < q ∧ q < qt_en n d p)
theorem qy_bh {n p : Nat} {d : Nat → Nat} {post : Int32 → Prop} (hn : n ≤ 40) (hp : p < n) (hd : ∀ r, r < n → ydp r = nI (d r) ∧ d r < 40) (h : post (nI (qt_en n d p))) : wpY_behind post (ymo, nI n, yw, yle, yfo, yli, yat, ysu, yid, ydp, ynm, yvl, yci, ycd, ypd, yqu, ygv, yls, yrs, yor, yan, yno, yow, ypa) (nI p) := by
  have key : ∀ k q, q + k = n → post (nI (qt_E d (d p) k q)) → wY_behind_4 post (nI p) ymo (nI n) yw yle yfo yli yat ysu yid ydp ynm yvl yci ycd ypd yqu ygv yls yrs yor yan yno yow ypa (k + 1) (nI q) := by
    intro k
    induction k with
    | zero => intro q e hq; exact br_t (nI_le (by omega) (by omega)) hq
    | succ k ih =>
      intro q e hq
      refine br_f (nI_ge (by omega) (by omega)) ⟨vp_in_nI (by omega) (by omega), vp_in_nI (by omega) (by omega), ?_⟩
      rw [nI_clamp (by omega), nI_clamp (by omega), (hd q (by omega)).1, (hd p hp).1]
      simp only [qt_E] at hq
      refine pk_le (d q) (d p) (fun g => ?_) (fun g => ?_) rfl rfl (by have := (hd q (by omega)).2; omega) (by have := (hd p hp).2; omega)
      · rw [if_pos g] at hq; exact hq
      · rw [if_neg (by omega)] at hq; exact nm_r (nI_1 q) (ih (q + 1) (by omega) hq)
  refine nm_r (nI_1 p) (Exists.intro _ (key (n - (p + 1)) (p + 1) (by omega) h))
theorem qy_ab {n p q : Nat} {d : Nat → Nat} {post : Int32 → Prop} (hn : n ≤ 40) (hp : p < n) (hq : q < n) (hd : ∀ r, r < n → ydp r = nI (d r) ∧ d r < 40) (h : post (qa_b (qt_ab n d p q))) : wpY_above post (ymo, nI n, yw, yle, yfo, yli, yat, ysu, yid, ydp, ynm, yvl, yci, ycd, ypd, yqu, ygv, yls, yrs, yor, yan, yno, yow, ypa) (nI p) (nI q) := by
  have he := qt_en_spec (n := n) (d := d) hp
  have he2 := he.2.1
  refine qy_bh hn hp hd ?_
  refine pk_le q p (fun g => ?_) (fun g => ?_)
  · have e : qt_ab n d p q = false := decide_eq_false (by omega)
    rw [e] at h; exact h
  · refine pk_le (qt_en n d p) q (fun g2 => ?_) (fun g2 => ?_)
    · have e : qt_ab n d p q = false := decide_eq_false (by omega)
      rw [e] at h; exact h
    · have e : qt_ab n d p q = true := decide_eq_true (by omega)
      rw [e] at h; exact h
theorem qy_pp {n p : Nat} {d : Nat → Nat} {post : Int32 → Prop} (hn : n ≤ 40) (D : qt_D n d) (h0 : 0 < p) (hp : p < n) (hd : ∀ r, r < n → ydp r = nI (d r) ∧ d r < 40) (h : post (nI (qt_pr d p))) : wpY_parentPlace post (ymo, nI n, yw, yle, yfo, yli, yat, ysu, yid, ydp, ynm, yvl, yci, ycd, ypd, yqu, ygv, yls, yrs, yor, yan, yno, yow, ypa) (nI p) := by
  have key : ∀ q, q < n → post (nI (qt_P d (d p) q)) → wY_parentPlace_4 post (nI p) ymo (nI n) yw yle yfo yli yat ysu yid ydp ynm yvl yci ycd ypd yqu ygv yls yrs yor yan yno yow ypa (q + 1) (nI q) := by
    intro q
    induction q with
    | zero =>
      intro _ hq
      refine br_f (nI_pos (by omega)) ⟨vp_in_nI (by omega) (by omega), vp_in_nI (by omega) (by omega), ?_⟩
      rw [nI_clamp (by omega), nI_clamp (by omega), (hd 0 (by omega)).1, (hd p hp).1]
      refine br_t (nI_lt ?_ ?_) hq
      · have := (D.2 p h0 hp).1; have := D.1; omega
      · have := (hd p hp).2; omega
    | succ q ih =>
      intro hq2 hq
      refine br_f (nI_pos (by omega)) ⟨vp_in_nI (by omega) (by omega), vp_in_nI (by omega) (by omega), ?_⟩
      rw [nI_clamp (by omega), nI_clamp (by omega), (hd (q + 1) (by omega)).1, (hd p hp).1]
      simp only [qt_P] at hq
      refine pk_lt (d (q + 1)) (d p) (fun g => ?_) (fun g => ?_) rfl rfl (by have := (hd (q + 1) (by omega)).2; omega) (by have := (hd p hp).2; omega)
      · rw [if_pos g] at hq; exact hq
      · rw [if_neg (by omega)] at hq; exact nm_r (pk_m1 q) (ih (by omega) hq)
  obtain ⟨m, rfl⟩ : ∃ m, p = m + 1 := ⟨p - 1, by omega⟩
  exact nm_r (nI_pred m) (Exists.intro _ (key m (by omega) h))
theorem qy_pp0 {n : Nat} {post : Int32 → Prop} (h : post (-1)) : wpY_parentPlace post (ymo, nI n, yw, yle, yfo, yli, yat, ysu, yid, ydp, ynm, yvl, yci, ycd, ypd, yqu, ygv, yls, yrs, yor, yan, yno, yow, ypa) (nI 0) := by
  refine nm_r (show nI 0 - 1 = -1 from by decide) (Exists.intro 1 (br_t (by decide) h))
theorem qy_ch {n p q : Nat} {d : Nat → Nat} {post : Int32 → Prop} (hn : n ≤ 40) (hp : p < n) (hq : q < n) (hd : ∀ r, r < n → ydp r = nI (d r) ∧ d r < 40) (h : post (qa_b (qt_ch n d p q))) : wpY_isChild post (ymo, nI n, yw, yle, yfo, yli, yat, ysu, yid, ydp, ynm, yvl, yci, ycd, ypd, yqu, ygv, yls, yrs, yor, yan, yno, yow, ypa) (nI p) (nI q) := by
  refine And.intro (vp_in_nI (by omega) (by omega)) ⟨vp_in_nI (by omega) (by omega), ?_⟩
  rw [nI_clamp (by omega), nI_clamp (by omega), (hd q hq).1, (hd p hp).1, nI_1]
  have b1 := (hd q hq).2
  have b2 := (hd p hp).2
  refine pk_eq (d q) (d p + 1) (fun g => ?_) (fun g => ?_)
  · refine qy_ab hn hp hq hd (qa_br (fun e => ?_) (fun e => ?_))
    · have e1 := of_decide_eq_false e
      have e2 : qt_ch n d p q = false := decide_eq_false (by omega)
      rw [e2] at h; exact h
    · have e1 := of_decide_eq_true e
      have e2 : qt_ch n d p q = true := decide_eq_true (by omega)
      rw [e2] at h; exact h
  · have e2 : qt_ch n d p q = false := decide_eq_false (by omega)
    rw [e2] at h; exact h
theorem qy_cc {n p : Nat} {d : Nat → Nat} {post : Int32 → Prop} (hn : n ≤ 40) (hp : p < n) (hd : ∀ r, r < n → ydp r = nI (d r) ∧ d r < 40) (h : post (nI (qt_cn (qt_ch n d p) n))) : wpY_children post (ymo, nI n, yw, yle, yfo, yli, yat, ysu, yid, ydp, ynm, yvl, yci, ycd, ypd, yqu, ygv, yls, yrs, yor, yan, yno, yow, ypa) (nI p) := by
  have key : ∀ k q, q + k = n → wY_children_6 post (nI p) ymo (nI n) yw yle yfo yli yat ysu yid ydp ynm yvl yci ycd ypd yqu ygv yls yrs yor yan yno yow ypa (k + 1) (nI (qt_cn (qt_ch n d p) q)) (nI q) := by
    intro k
    induction k with
    | zero =>
      intro q e
      have e : q = n := by omega
      subst e
      exact br_t (nI_le (by omega) (by omega)) h
    | succ k ih =>
      intro q e
      have c := ih (q + 1) (by omega)
      simp only [qt_cn] at c
      refine br_f (nI_ge (by omega) (by omega)) (qy_ch hn hp (by omega) hd (qa_br (fun z => ?_) (fun z => ?_)))
      · rw [z] at c; exact nm_r (nI_1 q) c
      · rw [z] at c; exact nm_r (nI_1 _) (nm_r (nI_1 q) c)
  refine nm_r (nI_1 p) (Exists.intro (n - (p + 1) + 1) ?_)
  have c := key (n - (p + 1)) (p + 1) (by omega)
  rw [qt_cn_0 (qt_ch n d p) (p + 1) (fun x hx => decide_eq_false (by omega))] at c
  exact c
/-- the place of child number k, or the place behind the subtree -/
def qt_Spot (n : Nat) (d : Nat → Nat) (p k s : Nat) : Prop := (s < n ∧ qt_ch n d p s = true ∧ qt_cn (qt_ch n d p) s = k) ∨ (s = qt_en n d p ∧ ∀ r, r < n → qt_ch n d p r = true → qt_cn (qt_ch n d p) r ≠ k)
theorem qt_Spot_uniq {n : Nat} {d : Nat → Nat} {p k s s' : Nat} (h : qt_Spot n d p k s) (h' : qt_Spot n d p k s') : s = s' := by
  rcases h with ⟨a1, a2, a3⟩ | ⟨a1, a2⟩ <;> rcases h' with ⟨b1, b2, b3⟩ | ⟨b1, b2⟩
  · exact qt_cn_inj a2 b2 (by omega)
  · exact absurd a3 (b2 s a1 a2)
  · exact absurd b3 (a2 s' b1 b2)
  · omega
theorem qt_Spot_Sp {n : Nat} {d : Nat → Nat} {p k s : Nat} (hp : p < n) (h : qt_Spot n d p k s) : qt_Sp n d p s := by
  obtain ⟨e1, e2, e3, e4⟩ := qt_en_spec (n := n) (d := d) hp
  rcases h with ⟨a1, a2, a3⟩ | ⟨a1, a2⟩
  · have := of_decide_eq_true a2; exact ⟨by omega, by omega, fun _ => by omega⟩
  · subst a1; exact ⟨e1, Nat.le_refl _, fun h => by omega⟩
theorem qy_cp {n p m : Nat} {d : Nat → Nat} {post : Int32 → Prop} (hn : n ≤ 40) (hp : p < n) (hm : m < 2 ^ 31) (hd : ∀ r, r < n → ydp r = nI (d r) ∧ d r < 40) (h : ∀ s, qt_Spot n d p m s → post (nI s)) : wpY_childPlace post (ymo, nI n, yw, yle, yfo, yli, yat, ysu, yid, ydp, ynm, yvl, yci, ycd, ypd, yqu, ygv, yls, yrs, yor, yan, yno, yow, ypa) (nI p) (nI m) := by
  have key : ∀ k q, q + k = n → (∀ r, r < q → qt_ch n d p r = true → qt_cn (qt_ch n d p) r ≠ m) → wY_childPlace_7 post (nI p) (nI m) ymo (nI n) yw yle yfo yli yat ysu yid ydp ynm yvl yci ycd ypd yqu ygv yls yrs yor yan yno yow ypa (k + 1) (nI (qt_cn (qt_ch n d p) q)) (nI q) := by
    intro k
    induction k with
    | zero =>
      intro q e hq
      have e : q = n := by omega
      subst e
      exact br_t (nI_le (by omega) (by omega)) (qy_bh hn hp hd (h _ (Or.inr ⟨rfl, hq⟩)))
    | succ k ih =>
      intro q e hq
      have c := ih (q + 1) (by omega)
      simp only [qt_cn] at c
      have hl := qt_cn_le (qt_ch n d p) q
      refine br_f (nI_ge (by omega) (by omega)) (qy_ch hn hp (by omega) hd (qa_br (fun z => ?_) (fun z => ?_)))
      · rw [z] at c
        refine nm_r (nI_1 q) (c (fun r hr hc => ?_))
        by_cases g : r = q
        · subst g; rw [z] at hc; exact absurd hc (by decide)
        · exact hq r (by omega) hc
      · refine pk_eq (qt_cn (qt_ch n d p) q) m (fun g => ?_) (fun g => ?_)
        · exact h q (Or.inl ⟨by omega, z, g⟩)
        · rw [z] at c
          refine nm_r (nI_1 _) (nm_r (nI_1 q) (c (fun r hr hc => ?_)))
          by_cases g' : r = q
          · subst g'; exact g
          · exact hq r (by omega) hc
  refine nm_r (nI_1 p) (Exists.intro (n - (p + 1) + 1) ?_)
  have c := key (n - (p + 1)) (p + 1) (by omega) (fun r hr hc => by have := of_decide_eq_true hc; omega)
  rw [qt_cn_0 (qt_ch n d p) (p + 1) (fun x hx => decide_eq_false (by omega))] at c
  exact c
/-! Y: cut and paste -/
theorem qy_cut {n p w : Nat} {post : SY → Prop} (hn : n ≤ 40) (hw : p + w ≤ n) (h : post (ymo, nI (n - w), yw, yle, yfo, yli, yat, ysu, qa_cl yid p (n - w) w, qa_cl ydp p (n - w) w, ynm, yvl, qa_bl yci yid p w, qa_bl ycd ydp p w, ypd, yqu, ygv, yls, yrs, yor, yan, yno, yow, ypa)) : wpY_cut post (ymo, nI n, yw, yle, yfo, yli, yat, ysu, yid, ydp, ynm, yvl, yci, ycd, ypd, yqu, ygv, yls, yrs, yor, yan, yno, yow, ypa) (nI p) (nI w) := by
  have key2 : ∀ k r, r + k = n - w → p ≤ r → wY_cut_53 post (nI w) ymo (nI (n - w)) yw yle yfo yli yat ysu (k + 1) (nI r) (qa_cl yid p r w) (qa_cl ydp p r w) ynm yvl (qa_bl yci yid p w) (qa_bl ycd ydp p w) ypd yqu ygv yls yrs yor yan yno yow ypa := by
    intro k
    induction k with
    | zero =>
      intro r e _
      have e : r = n - w := by omega
      subst e
      exact br_t (nI_le (by omega) (by omega)) h
    | succ k ih =>
      intro r e hr
      have e1 : nI r + nI w = nI (r + w) := nI_add r w
      have i1 : vp_in (nI r + nI w) 41 := by rw [e1]; exact vp_in_nI (by omega) (by omega)
      have i2 : vp_in (nI r) 41 := vp_in_nI (by omega) (by omega)
      refine br_f (nI_ge (by omega) (by omega)) ⟨i1, i2, fun a ea => ⟨i1, i2, fun b eb y ey => ?_⟩⟩
      rw [e1, nI_clamp (by omega), nI_clamp (by omega), qa_cl_s _ _ _ _ hr] at ea eb
      subst ea; subst eb; subst ey
      rw [nI_1]
      exact ih (r + 1) (by omega) (by omega)
  have key1 : ∀ k r, r + k = w → wY_cut_2 post (nI p) (nI w) ymo (nI n) yw yle yfo yli yat ysu (k + 1) (nI r) yid ydp ynm yvl (qa_bl yci yid p r) (qa_bl ycd ydp p r) ypd yqu ygv yls yrs yor yan yno yow ypa := by
    intro k
    induction k with
    | zero =>
      intro r e
      have e : r = w := by omega
      subst e
      refine br_t (nI_le (by omega) (by omega)) (nm_r (pk_sub (by omega)) (Exists.intro (n - r - p + 1) ?_))
      have c := key2 (n - r - p) p (by omega) (by omega)
      rw [qa_cl_0, qa_cl_0] at c
      exact c
    | succ k ih =>
      intro r e
      have e1 : nI p + nI r = nI (p + r) := nI_add p r
      have i1 : vp_in (nI p + nI r) 41 := by rw [e1]; exact vp_in_nI (by omega) (by omega)
      have i2 : vp_in (nI r) 40 := vp_in_nI (by omega) (by omega)
      refine br_f (nI_ge (by omega) (by omega)) ⟨i1, i2, fun a ea => ⟨i1, i2, fun b eb y ey => ?_⟩⟩
      rw [e1, nI_clamp (by omega), nI_clamp (by omega), qa_bl_s] at ea eb
      subst ea; subst eb; subst ey
      rw [nI_1]
      exact ih (r + 1) (by omega)
  have c := key1 w 0 (by omega)
  rw [qa_bl_0, qa_bl_0] at c
  exact Exists.intro _ c
theorem qy_paste {n s w : Nat} {dl : Int32} {post : SY → Prop} (h0 : 0 < s) (hs : s ≤ n) (hn : 0 < n) (hw : n + w ≤ 40) (h : post (ymo, nI (n + w), yw, yle, yfo, yli, yat, ysu, qa_pu (qa_og yid s n w) s yci w, qa_pu (qa_og ydp s n w) s (fun k => ycd k + dl) w, ynm, yvl, yci, ycd, ypd, yqu, ygv, yls, yrs, yor, yan, yno, yow, ypa)) : wpY_paste post (ymo, nI n, yw, yle, yfo, yli, yat, ysu, yid, ydp, ynm, yvl, yci, ycd, ypd, yqu, ygv, yls, yrs, yor, yan, yno, yow, ypa) (nI s) (nI w) dl := by
  have key2 : ∀ k r, r + k = w → wY_paste_65 post (nI s) (nI w) dl ymo (nI (n + w)) yw yle yfo yli yat ysu (k + 1) (nI r) (qa_pu (qa_og yid s n w) s yci r) (qa_pu (qa_og ydp s n w) s (fun k => ycd k + dl) r) ynm yvl yci ycd ypd yqu ygv yls yrs yor yan yno yow ypa := by
    intro k
    induction k with
    | zero =>
      intro r e
      have e : r = w := by omega
      subst e
      exact br_t (nI_le (by omega) (by omega)) h
    | succ k ih =>
      intro r e
      have e1 : nI s + nI r = nI (s + r) := nI_add s r
      have i1 : vp_in (nI s + nI r) 41 := by rw [e1]; exact vp_in_nI (by omega) (by omega)
      have i2 : vp_in (nI r) 40 := vp_in_nI (by omega) (by omega)
      refine br_f (nI_ge (by omega) (by omega)) ⟨i2, i1, fun a ea => ⟨i2, i1, fun b eb y ey => ?_⟩⟩
      rw [e1, nI_clamp (by omega), nI_clamp (by omega)] at ea eb
      rw [qa_pu_s] at ea
      have eb := eb.trans (qa_pu_s (qa_og ydp s n w) s (fun k => ycd k + dl) r)
      subst ea; subst eb; subst ey
      rw [nI_1]
      exact ih (r + 1) (by omega)
  have key1 : ∀ k r, r + 1 = s + k → r < n → wY_paste_8 post (nI s) (nI w) dl ymo (nI n) yw yle yfo yli yat ysu (k + 1) (nI r) (qa_og yid (r + 1) n w) (qa_og ydp (r + 1) n w) ynm yvl yci ycd ypd yqu ygv yls yrs yor yan yno yow ypa := by
    intro k
    induction k with
    | zero =>
      intro r e hr
      have e : r + 1 = s := by omega
      refine br_t (nI_lt (by omega) (by omega)) (nm_r (nI_add n w) (Exists.intro (w + 1) ?_))
      have c := key2 w 0 (by omega)
      rw [qa_pu_0, qa_pu_0] at c
      rw [e]
      exact c
    | succ k ih =>
      intro r e hr
      have e1 : nI r + nI w = nI (r + w) := nI_add r w
      have i1 : vp_in (nI r + nI w) 41 := by rw [e1]; exact vp_in_nI (by omega) (by omega)
      have i2 : vp_in (nI r) 41 := vp_in_nI (by omega) (by omega)
      refine br_f (nI_nlt (by omega) (by omega)) ⟨i2, i1, fun a ea => ⟨i2, i1, fun b eb y ey => ?_⟩⟩
      rw [e1, nI_clamp (by omega), nI_clamp (by omega), qa_og_s _ _ _ _ hr] at ea eb
      obtain ⟨m, rfl⟩ : ∃ m, r = m + 1 := ⟨r - 1, by omega⟩
      rw [pk_m1] at ey
      subst ea; subst eb; subst ey
      exact ih m (by omega) (by omega)
  obtain ⟨m, rfl⟩ : ∃ m, n = m + 1 := ⟨n - 1, by omega⟩
  have c := key1 (m + 1 - s) m (by omega) (by omega)
  rw [qa_og_0, qa_og_0] at c
  exact nm_r (nI_pred m) (Exists.intro _ c)
end
end
section
/-! the tree's part of the relation -/
def qr_B (n : Nat) (i d : Nat → Nat) (od dp po : Nat → Int32) : Prop :=
  (0 < n ∧ n ≤ 40) ∧ (∀ r, r < n → od r = nI (i r) ∧ i r < 40) ∧ i 0 = 0 ∧ (∀ r s, r < n → s < n → i r = i s → r = s) ∧ qt_D n d ∧
  (∀ r, r < n → dp r = nI (d r) ∧ d r < 40) ∧ po 0 = -1 ∧ (∀ r, 0 < r → r < n → po (i r) = nI (i (qt_pr d r)))
def qr_N (n : Nat) (i d : Nat → Nat) (rk pt sz : Nat → Int32) : Prop :=
  (∀ r, r < n → rk (i r) = nI r) ∧ (∀ j, j < 40 → (∀ r, r < n → i r ≠ j) → rk j = -1) ∧ pt 0 = -1 ∧
  (∀ r, 0 < r → r < n → pt r = nI (qt_pr d r)) ∧ (∀ r, r < n → sz r = nI (qt_en n d r - r))
theorem qt_pig : ∀ m n (f : Nat → Nat), (∀ j, j < m → ∃ r, r < n ∧ f r = j) → m ≤ n := by
  intro m
  induction m with
  | zero => intro n f _; exact Nat.zero_le _
  | succ m ih =>
    intro n f h
    obtain ⟨r0, h0, e0⟩ := h m (by omega)
    have := ih (n - 1) (fun r => if r < r0 then f r else f (r + 1)) (fun j hj => by
      obtain ⟨r, hr, er⟩ := h j (by omega)
      have hne : r ≠ r0 := fun e => by subst e; omega
      by_cases g : r < r0
      · exact ⟨r, by omega, by rw [if_pos g]; exact er⟩
      · refine ⟨r - 1, by omega, ?_⟩
        rw [if_neg (by omega), show r - 1 + 1 = r by omega]; exact er)
    omega
/-- the least free id -/
def qt_LF (n : Nat) (i : Nat → Nat) (j : Nat) : Prop := j < 40 ∧ (∀ r, r < n → i r ≠ j) ∧ ∀ x, x < j → ∃ r, r < n ∧ i r = x
theorem qt_LF_ex {n : Nat} {i : Nat → Nat} (hn : n < 40) : ∃ j, qt_LF n i j := by
  have h : ∃ j, ¬ ∃ r, r < n ∧ i r = j := by
    refine Classical.byContradiction fun c => ?_
    have := qt_pig 40 n i (fun j _ => Classical.byContradiction fun g => c ⟨j, g⟩)
    omega
  obtain ⟨j, h1, h2⟩ := pk_least (fun j => ¬ ∃ r, r < n ∧ i r = j) h
  have h3 : ∀ x, x < j → ∃ r, r < n ∧ i r = x := fun x hx => Classical.byContradiction fun g => h2 x hx g
  refine ⟨j, ?_, fun r hr e => h1 ⟨r, hr, e⟩, h3⟩
  have := qt_pig j n i h3
  omega
theorem qt_LF_uniq {n : Nat} {i : Nat → Nat} {j j' : Nat} (h : qt_LF n i j) (h' : qt_LF n i j') : j = j' := by
  rcases Nat.lt_trichotomy j j' with g | g | g
  · obtain ⟨r, hr, e⟩ := h'.2.2 j g; exact absurd e (h.2.1 r hr)
  · exact g
  · obtain ⟨r, hr, e⟩ := h.2.2 j' g; exact absurd e (h'.2.1 r hr)
theorem qr_ch {n : Nat} {i d : Nat → Nat} {od dp po : Nat → Int32} (B : qr_B n i d od dp po) {p r : Nat} (hp : p < n) (hr : r < n) : po (i r) = nI (i p) ↔ qt_ch n d p r = true := by
  obtain ⟨⟨n0, n1⟩, hi, hi0, inj, D, hd, po0, hpo⟩ := B
  by_cases e : r = 0
  · subst e
    rw [hi0, po0]
    constructor
    · intro h
      have h1 : (nI (i p)).toInt = -1 := by rw [← h]; decide
      rw [nI_toInt (by have := (hi p hp).2; omega)] at h1; omega
    · intro h; have := of_decide_eq_true h; omega
  · rw [hpo r (by omega) hr]
    have hq := qt_pr_lt D (by omega) hr
    rw [nI_eq (by have := (hi _ (show qt_pr d r < n by omega)).2; omega) (by have := (hi p hp).2; omega)]
    constructor
    · intro h
      have h1 := inj _ _ (by omega) hp h
      have h2 := qt_pr_spec D (by omega) hr
      rw [h1, qt_child D hp hr] at h2
      exact decide_eq_true (by omega)
    · intro h
      have h1 := of_decide_eq_true h
      rw [qt_pr_eq ((qt_child D hp hr).mpr (by omega))]
section
variable {xlim : Int32} {xn : Int32} {xpc : Int32} {xlv : Int32} {xop : Int32} {xql : Int32} {xrc : Int32} {xrt : Int64} {xod : (Nat → Int32)} {xpo : (Nat → Int32)} {xnm : (Nat → Int32)} {xvl : (Nat → Int32)} {xmv : (Nat → Int32)} {xrk : (Nat → Int32)} {xpt : (Nat → Int32)} {xsz : (Nat → Int32)} {xpd : (Nat → Int32)} {xpa : (Nat → Int32)} {xct : (Nat → Int32)} {xqu : (Nat → Int32)} {xco : (Nat → Int32)} {xse : (Nat → Int32)} {xpe : (Nat → Int32)} {xgv : (Nat → Int64)} {xan : (Nat → Int64)} {xal : (Nat → Int64)} {xng : (Nat → Int32)} {xrs : (Nat → Int32)}
theorem qx_nd_hit {j r : Nat} {post : Int32 → Prop} (hj : j < 40) (h : xrk j = nI r) (hr : r < 40) (hp : post 1) : wpX_isNode post (xlim, xn, xpc, xlv, xop, xql, xrc, xrt, xod, xpo, xnm, xvl, xmv, xrk, xpt, xsz, xpd, xpa, xct, xqu, xco, xse, xpe, xgv, xan, xal, xng, xrs) (nI j) := by
  refine br_f (nI_pos (by omega)) (br_f (nI_ge (b := 40) (by omega) (by omega)) ⟨vp_in_nI (by omega) (by omega), br_f ?_ hp⟩)
  rw [nI_clamp (by omega), h]
  intro e
  have h1 : (nI r).toInt = -1 := by rw [e]; decide
  rw [nI_toInt (by omega)] at h1; omega
theorem qx_nd_miss {v : Int32} {post : Int32 → Prop} (h : ∀ j, j < 40 → v = nI j → xrk j = -1) (hp : post 0) : wpX_isNode post (xlim, xn, xpc, xlv, xop, xql, xrc, xrt, xod, xpo, xnm, xvl, xmv, xrk, xpt, xsz, xpd, xpa, xct, xqu, xco, xse, xpe, xgv, xan, xal, xng, xrs) v := by
  rcases pk_ix v (n := 40) (by omega) with g | g | ⟨j, hj, rfl⟩
  · exact br_t g hp
  · refine br_c (fun _ => hp) (fun _ => br_t g hp)
  · refine br_f (nI_pos (by omega)) (br_f (nI_ge (b := 40) (by omega) (by omega)) ⟨vp_in_nI (by omega) (by omega), br_t ?_ hp⟩)
    rw [nI_clamp (by omega)]; exact h j hj rfl
theorem qx_nm {v : Int32} {post : Int32 → Prop} (h : (∃ m, m < 8 ∧ v = nI m) → post 1) (h0 : (¬ ∃ m, m < 8 ∧ v = nI m) → post 0) : wpX_isName post (xlim, xn, xpc, xlv, xop, xql, xrc, xrt, xod, xpo, xnm, xvl, xmv, xrk, xpt, xsz, xpd, xpa, xct, xqu, xco, xse, xpe, xgv, xan, xal, xng, xrs) v := by
  rcases pk_ix v (n := 8) (by omega) with g | g | ⟨j, hj, rfl⟩
  · refine br_t g (h0 ?_)
    rintro ⟨m, hm, rfl⟩; exact nI_pos (by omega) g
  · refine br_c (fun g2 => h0 ?_) (fun _ => br_t g (h0 ?_))
    · rintro ⟨m, hm, rfl⟩; exact nI_pos (by omega) g2
    · rintro ⟨m, hm, rfl⟩; exact nI_ge hm (by omega) g
  · exact br_f (nI_pos (by omega)) (br_f (nI_ge (b := 8) hj (by omega)) (h ⟨j, hj, rfl⟩))
variable {n : Nat} {i d : Nat → Nat} {dp : Nat → Int32}
theorem qx_cc {p : Nat} {post : Int32 → Prop} (B : qr_B n i d xod dp xpo) (hp : p < n) (h : post (nI (qt_cn (qt_ch n d p) n))) : wpX_childCount post (xlim, nI n, xpc, xlv, xop, xql, xrc, xrt, xod, xpo, xnm, xvl, xmv, xrk, xpt, xsz, xpd, xpa, xct, xqu, xco, xse, xpe, xgv, xan, xal, xng, xrs) (nI (i p)) := by
  have hn := B.1.2
  have hi := B.2.1
  have key : ∀ k q, q + k = n → wX_childCount_4 post (nI (i p)) xlim (nI n) xpc xlv xop xql xrc xrt xod xpo xnm xvl xmv xrk xpt xsz xpd xpa xct xqu xco xse xpe xgv xan xal xng xrs (k + 1) (nI (qt_cn (qt_ch n d p) q)) (nI q) := by
    intro k
    induction k with
    | zero =>
      intro q e
      have e : q = n := by omega
      subst e
      exact br_t (nI_le (by omega) (by omega)) h
    | succ k ih =>
      intro q e
      have c := ih (q + 1) (by omega)
      simp only [qt_cn] at c
      have hq := hi q (by omega)
      have e1 : xod (nI q).toNatClampNeg = nI (i q) := by rw [nI_clamp (by omega)]; exact hq.1
      refine br_f (nI_ge (by omega) (by omega)) ⟨vp_in_nI (by omega) (by omega), by rw [e1]; exact vp_in_nI hq.2 (by omega), ?_⟩
      rw [e1, nI_clamp (by omega)]
      refine br_c (fun z => ?_) (fun z => ?_)
      · rw [(qr_ch B hp (by omega)).mp z] at c; exact nm_r (nI_1 _) (nm_r (nI_1 q) c)
      · rw [show qt_ch n d p q = false from by rw [← Bool.not_eq_true]; exact fun g => z ((qr_ch B hp (by omega)).mpr g)] at c
        exact nm_r (nI_1 q) c
  exact Exists.intro _ (key n 0 (by omega))
theorem qx_sp {p m : Nat} {post : Int32 → Prop} (B : qr_B n i d xod dp xpo) (N : qr_N n i d xrk xpt xsz) (hp : p < n) (hm : m < 2 ^ 31) (h : ∀ s, qt_Spot n d p m s → post (nI s)) : wpX_spotFor post (xlim, nI n, xpc, xlv, xop, xql, xrc, xrt, xod, xpo, xnm, xvl, xmv, xrk, xpt, xsz, xpd, xpa, xct, xqu, xco, xse, xpe, xgv, xan, xal, xng, xrs) (nI (i p)) (nI m) := by
  have hn := B.1.2
  have hi := B.2.1
  have he := qt_en_spec (n := n) (d := d) hp
  have he1 := he.1
  have he2 := he.2.1
  have key : ∀ k q, q + k = n → (∀ r, r < q → qt_ch n d p r = true → qt_cn (qt_ch n d p) r ≠ m) → wX_spotFor_5 post (nI (i p)) (nI m) xlim (nI n) xpc xlv xop xql xrc xrt xod xpo xnm xvl xmv xrk xpt xsz xpd xpa xct xqu xco xse xpe xgv xan xal xng xrs (k + 1) (nI (qt_cn (qt_ch n d p) q)) (nI q) := by
    intro k
    induction k with
    | zero =>
      intro q e hq
      have e : q = n := by omega
      subst e
      have ip := (hi p hp).2
      have e1 : xrk (nI (i p)).toNatClampNeg = nI p := by rw [nI_clamp (by omega)]; exact N.1 p hp
      refine br_t (nI_le (by omega) (by omega)) ⟨vp_in_nI ip (by omega), vp_in_nI ip (by omega), by rw [e1]; exact vp_in_nI (by omega) (by omega), ?_⟩
      rw [e1, nI_clamp (by omega), N.2.2.2.2 p hp, nI_add, show p + (qt_en q d p - p) = qt_en q d p by omega]
      exact h _ (Or.inr ⟨rfl, hq⟩)
    | succ k ih =>
      intro q e hq
      have c := ih (q + 1) (by omega)
      simp only [qt_cn] at c
      have hl := qt_cn_le (qt_ch n d p) q
      have hiq := hi q (by omega)
      have e1 : xod (nI q).toNatClampNeg = nI (i q) := by rw [nI_clamp (by omega)]; exact hiq.1
      refine br_f (nI_ge (by omega) (by omega)) ⟨vp_in_nI (by omega) (by omega), by rw [e1]; exact vp_in_nI hiq.2 (by omega), ?_⟩
      rw [e1, nI_clamp (by omega)]
      refine br_c (fun z => ?_) (fun z => ?_)
      · have z := (qr_ch B hp (by omega)).mp z
        refine pk_eq (qt_cn (qt_ch n d p) q) m (fun g => ?_) (fun g => ?_)
        · exact h q (Or.inl ⟨by omega, z, g⟩)
        · rw [z] at c
          refine nm_r (nI_1 _) (nm_r (nI_1 q) (c (fun r hr hc => ?_)))
          by_cases g' : r = q
          · subst g'; exact g
          · exact hq r (by omega) hc
      · have z : qt_ch n d p q = false := by rw [← Bool.not_eq_true]; exact fun g => z ((qr_ch B hp (by omega)).mpr g)
        rw [z] at c
        refine nm_r (nI_1 q) (c (fun r hr hc => ?_))
        by_cases g : r = q
        · subst g; rw [z] at hc; exact absurd hc (by decide)
        · exact hq r (by omega) hc
  exact Exists.intro _ (key n 0 (by omega) (fun r hr => by omega))
theorem qx_lf {j : Nat} {post : Int32 → Prop} (N : qr_N n i d xrk xpt xsz) (hn : n ≤ 40) (hj : qt_LF n i j) (h : post (nI j)) : wpX_leastFreeId post (xlim, nI n, xpc, xlv, xop, xql, xrc, xrt, xod, xpo, xnm, xvl, xmv, xrk, xpt, xsz, xpd, xpa, xct, xqu, xco, xse, xpe, xgv, xan, xal, xng, xrs) := by
  obtain ⟨j1, j2, j3⟩ := hj
  have fr : ∀ x, x < 40 → (xrk x = -1 ↔ ∀ r, r < n → i r ≠ x) := by
    intro x hx
    constructor
    · intro e r hr g
      subst g
      rw [N.1 r hr] at e
      have h1 : (nI r).toInt = -1 := by rw [e]; decide
      rw [nI_toInt (by omega)] at h1; omega
    · intro g; exact N.2.1 x hx g
  have low : ∀ x, x < j → wX_leastFreeId_5 post xlim (nI n) xpc xlv xop xql xrc xrt xod xpo xnm xvl xmv xrk xpt xsz xpd xpa xct xqu xco xse xpe xgv xan xal xng xrs (x + 1 + 1) (nI j) (nI x) := by
    intro x
    induction x with
    | zero =>
      intro hx
      refine br_f (nI_pos (by omega)) ⟨vp_in_nI (by omega) (by omega), br_f ?_ (nm_r (show nI 0 + (-1) = -1 by decide) (br_t (by decide) h))⟩
      rw [nI_clamp (by omega), fr 0 (by omega)]
      obtain ⟨r, hr, e⟩ := j3 0 hx
      exact fun g => g r hr e
    | succ x ih =>
      intro hx
      refine br_f (nI_pos (by omega)) ⟨vp_in_nI (by omega) (by omega), br_f ?_ (nm_r (pk_m1 x) (ih (by omega)))⟩
      rw [nI_clamp (by omega), fr (x + 1) (by omega)]
      obtain ⟨r, hr, e⟩ := j3 (x + 1) hx
      exact fun g => g r hr e
  have att : ∀ z, wX_leastFreeId_5 post xlim (nI n) xpc xlv xop xql xrc xrt xod xpo xnm xvl xmv xrk xpt xsz xpd xpa xct xqu xco xse xpe xgv xan xal xng xrs (j + 1 + 1) z (nI j) := by
    intro z
    refine br_f (nI_pos (by omega)) ⟨vp_in_nI (by omega) (by omega), br_t ?_ ?_⟩
    · rw [nI_clamp (by omega), fr j j1]; exact j2
    · cases j with
      | zero => exact nm_r (show nI 0 + (-1) = -1 by decide) (br_t (by decide) h)
      | succ j => exact nm_r (pk_m1 j) (low j (by omega))
  have high : ∀ k z, j + k < 40 → wX_leastFreeId_5 post xlim (nI n) xpc xlv xop xql xrc xrt xod xpo xnm xvl xmv xrk xpt xsz xpd xpa xct xqu xco xse xpe xgv xan xal xng xrs (j + k + 1 + 1) z (nI (j + k)) := by
    intro k
    induction k with
    | zero => intro z _; exact att z
    | succ k ih =>
      intro z hk
      refine br_f (nI_pos (by omega)) ⟨vp_in_nI (by omega) (by omega), br_c (fun _ => ?_) (fun _ => ?_)⟩
      · exact nm_r (pk_m1 (j + k)) (ih _ (by omega))
      · exact nm_r (pk_m1 (j + k)) (ih _ (by omega))
  have c := high (39 - j) 0 (by omega)
  rw [show j + (39 - j) = 39 by omega] at c
  exact Exists.intro _ c
/-! X: gaps -/
theorem qx_og {s w : Nat} {post : SX → Prop} (h0 : 0 < s) (hs : s ≤ n) (hn : 0 < n) (hw : n + w ≤ 40) (h : post (xlim, nI (n + w), xpc, xlv, xop, xql, xrc, xrt, qa_og xod s n w, xpo, xnm, xvl, xmv, xrk, xpt, xsz, xpd, xpa, xct, xqu, xco, xse, xpe, xgv, xan, xal, xng, xrs)) : wpX_openGap post (xlim, nI n, xpc, xlv, xop, xql, xrc, xrt, xod, xpo, xnm, xvl, xmv, xrk, xpt, xsz, xpd, xpa, xct, xqu, xco, xse, xpe, xgv, xan, xal, xng, xrs) (nI s) (nI w) := by
  have key1 : ∀ k r, r + 1 = s + k → r < n → wX_openGap_7 post (nI s) (nI w) xlim (nI n) xpc xlv xop xql xrc xrt (k + 1) (nI r) (qa_og xod (r + 1) n w) xpo xnm xvl xmv xrk xpt xsz xpd xpa xct xqu xco xse xpe xgv xan xal xng xrs := by
    intro k
    induction k with
    | zero =>
      intro r e hr
      have e : r + 1 = s := by omega
      refine br_t (nI_lt (by omega) (by omega)) (nm_r (nI_add n w) ?_)
      rw [e]; exact h
    | succ k ih =>
      intro r e hr
      have e1 : nI r + nI w = nI (r + w) := nI_add r w
      have i1 : vp_in (nI r + nI w) 40 := by rw [e1]; exact vp_in_nI (by omega) (by omega)
      have i2 : vp_in (nI r) 40 := vp_in_nI (by omega) (by omega)
      refine br_f (nI_nlt (by omega) (by omega)) ⟨i2, i1, fun a ea y ey => ?_⟩
      rw [e1, nI_clamp (by omega), nI_clamp (by omega), qa_og_s _ _ _ _ hr] at ea
      obtain ⟨m, rfl⟩ : ∃ m, r = m + 1 := ⟨r - 1, by omega⟩
      rw [pk_m1] at ey
      subst ea; subst ey
      exact ih m (by omega) (by omega)
  obtain ⟨m, rfl⟩ : ∃ m, n = m + 1 := ⟨n - 1, by omega⟩
  have c := key1 (m + 1 - s) m (by omega) (by omega)
  rw [qa_og_0] at c
  exact nm_r (nI_pred m) (Exists.intro _ c)
theorem qx_cg {p w : Nat} {post : SX → Prop} (hn : n ≤ 40) (hw : p + w ≤ n) (h : post (xlim, nI (n - w), xpc, xlv, xop, xql, xrc, xrt, qa_cl xod p (n - w) w, xpo, xnm, xvl, xmv, xrk, xpt, xsz, xpd, xpa, xct, xqu, xco, xse, xpe, xgv, xan, xal, xng, xrs)) : wpX_closeGap post (xlim, nI n, xpc, xlv, xop, xql, xrc, xrt, xod, xpo, xnm, xvl, xmv, xrk, xpt, xsz, xpd, xpa, xct, xqu, xco, xse, xpe, xgv, xan, xal, xng, xrs) (nI p) (nI w) := by
  have key2 : ∀ k r, r + k = n - w → p ≤ r → wX_closeGap_12 post (nI w) xlim (nI (n - w)) xpc xlv xop xql xrc xrt (k + 1) (nI r) (qa_cl xod p r w) xpo xnm xvl xmv xrk xpt xsz xpd xpa xct xqu xco xse xpe xgv xan xal xng xrs := by
    intro k
    induction k with
    | zero =>
      intro r e _
      have e : r = n - w := by omega
      subst e
      exact br_t (nI_le (by omega) (by omega)) h
    | succ k ih =>
      intro r e hr
      have e1 : nI r + nI w = nI (r + w) := nI_add r w
      have i1 : vp_in (nI r + nI w) 40 := by rw [e1]; exact vp_in_nI (by omega) (by omega)
      have i2 : vp_in (nI r) 40 := vp_in_nI (by omega) (by omega)
      refine br_f (nI_ge (by omega) (by omega)) ⟨i1, i2, fun a ea y ey => ?_⟩
      rw [e1, nI_clamp (by omega), nI_clamp (by omega), qa_cl_s _ _ _ _ hr] at ea
      subst ea; subst ey
      rw [nI_1]
      exact ih (r + 1) (by omega) (by omega)
  have c := key2 (n - w - p) p (by omega) (by omega)
  rw [qa_cl_0] at c
  exact nm_r (pk_sub (by omega)) (Exists.intro _ c)
theorem qx_to {j p w : Nat} {post : Int32 → SX → Prop} (hn : n ≤ 40) (hw : p + w ≤ n) (hp : p < n) (hj : j < 40) (h1 : xrk j = nI p) (h2 : xsz p = nI w) (h : post (nI w) (xlim, nI (n - w), xpc, xlv, xop, xql, xrc, xrt, qa_cl xod p (n - w) w, xpo, xnm, xvl, qa_bl xmv xod p w, xrk, xpt, xsz, xpd, xpa, xct, xqu, xco, xse, xpe, xgv, xan, xal, xng, xrs)) : wpX_takeOut post (xlim, nI n, xpc, xlv, xop, xql, xrc, xrt, xod, xpo, xnm, xvl, xmv, xrk, xpt, xsz, xpd, xpa, xct, xqu, xco, xse, xpe, xgv, xan, xal, xng, xrs) (nI j) := by
  have key1 : ∀ k r, r + k = w → wX_takeOut_17 post (nI p) (nI w) xlim (nI n) xpc xlv xop xql xrc xrt (k + 1) (nI r) xod xpo xnm xvl (qa_bl xmv xod p r) xrk xpt xsz xpd xpa xct xqu xco xse xpe xgv xan xal xng xrs := by
    intro k
    induction k with
    | zero =>
      intro r e
      have e : r = w := by omega
      subst e
      exact br_t (nI_le (by omega) (by omega)) (qx_cg hn hw h)
    | succ k ih =>
      intro r e
      have e1 : nI p + nI r = nI (p + r) := nI_add p r
      have i1 : vp_in (nI p + nI r) 40 := by rw [e1]; exact vp_in_nI (by omega) (by omega)
      have i2 : vp_in (nI r) 40 := vp_in_nI (by omega) (by omega)
      refine br_f (nI_ge (by omega) (by omega)) ⟨i1, i2, fun a ea y ey => ?_⟩
      rw [e1, nI_clamp (by omega), nI_clamp (by omega), qa_bl_s] at ea
      subst ea; subst ey
      rw [nI_1]
      exact ih (r + 1) (by omega)
  have c := key1 w 0 (by omega)
  rw [qa_bl_0] at c
  refine And.intro (vp_in_nI hj (by omega)) (nm_r (e' := nI p) (by rw [nI_clamp (by omega)]; exact h1) ⟨vp_in_nI (by omega) (by omega), nm_r (e' := nI w) (by rw [nI_clamp (by omega)]; exact h2) (Exists.intro _ c)⟩)
/-! X: the shape noted -/
theorem qx_ns {post : SX → Prop} (B : qr_B n i d xod dp xpo) (h : ∀ rk pt sz, qr_N n i d rk pt sz → post (xlim, nI n, xpc, xlv, xop, xql, xrc, xrt, xod, xpo, xnm, xvl, xmv, rk, pt, sz, xpd, xpa, xct, xqu, xco, xse, xpe, xgv, xan, xal, xng, xrs)) : wpX_noteShape post (xlim, nI n, xpc, xlv, xop, xql, xrc, xrt, xod, xpo, xnm, xvl, xmv, xrk, xpt, xsz, xpd, xpa, xct, xqu, xco, xse, xpe, xgv, xan, xal, xng, xrs) := by
  obtain ⟨⟨n0, hn⟩, hi, hi0, inj, D, hd, po0, hpo⟩ := B
  have key3 : ∀ r pt sz rk, r < n → ((∀ r, r < n → rk (i r) = nI r) ∧ (∀ j, j < 40 → (∀ r, r < n → i r ≠ j) → rk j = -1)) → pt 0 = -1 → (∀ x, r < x → x < n → pt x = nI (qt_pr d x)) → (∀ q, q < n → sz q = nI (1 + qt_S n d q (n - (r + 1)))) → wX_noteShape_70 post xlim (nI n) xpc xlv xop xql xrc xrt (r + 1) (nI r) xod xpo xnm xvl xmv rk pt sz xpd xpa xct xqu xco xse xpe xgv xan xal xng xrs := by
    intro r
    induction r with
    | zero =>
      intro pt sz rk hr hrk pt0 hpt hsz
      refine br_t (by decide) (h _ _ _ ⟨hrk.1, hrk.2, pt0, fun x hx hy => hpt x hx hy, fun q hq => ?_⟩)
      have hen := (qt_en_spec (n := n) (d := d) hq).1
      rw [hsz q hq, qt_S_skip n d q (0 + 1) (q + 1) (by omega) (by omega), qt_S_size D hq]
      · rw [show 1 + (qt_en n d q - (q + 1)) = qt_en n d q - q by omega]
      · intro x hx hy g
        have := qt_pr_lt D (by omega) (show x < n by omega)
        omega
    | succ r ih =>
      intro pt sz rk hr hrk pt0 hpt hsz
      have hir := hi (r + 1) hr
      have hq := qt_pr_lt D (by omega) hr
      have hiq := hi (qt_pr d (r + 1)) (by omega)
      have e1 : xod (nI (r + 1)).toNatClampNeg = nI (i (r + 1)) := by rw [nI_clamp (by omega)]; exact hir.1
      have e2 : xpo (xod (nI (r + 1)).toNatClampNeg).toNatClampNeg = nI (i (qt_pr d (r + 1))) := by
        rw [e1, nI_clamp (by omega)]; exact hpo (r + 1) (by omega) hr
      have e3 : rk (xpo (xod (nI (r + 1)).toNatClampNeg).toNatClampNeg).toNatClampNeg = nI (qt_pr d (r + 1)) := by
        rw [e2, nI_clamp (by omega)]; exact hrk.1 _ (by omega)
      have i1 : vp_in (nI (r + 1)) 40 := vp_in_nI (by omega) (by omega)
      refine br_f (nI_nle (by omega) (by omega)) ⟨i1, by rw [e1]; exact vp_in_nI hir.2 (by omega), by rw [e2]; exact vp_in_nI hiq.2 (by omega), i1, fun a ea => ?_⟩
      rw [e3, nI_clamp (by omega)] at ea
      have e4 : a (nI (r + 1)).toNatClampNeg = nI (qt_pr d (r + 1)) := by rw [ea, nI_clamp (by omega)]; exact pk_us
      have i2 : vp_in (a (nI (r + 1)).toNatClampNeg) 40 := by rw [e4]; exact vp_in_nI (by omega) (by omega)
      refine ⟨i1, i2, i1, i2, fun b eb y ey => ?_⟩
      rw [e4, nI_clamp (by omega), nI_clamp (by omega), hsz _ (show qt_pr d (r + 1) < n by omega), hsz (r + 1) hr, nI_add, qt_S_size D hr] at eb
      rw [pk_m1] at ey
      subst ey
      have hen := (qt_en_spec (n := n) (d := d) hr).1
      refine ih a b rk (by omega) hrk ?_ ?_ ?_
      · rw [ea, pk_un (by omega)]; exact pt0
      · intro x hx hy
        by_cases g : x = r + 1
        · rw [ea, g]; exact pk_us
        · rw [ea, pk_un g]; exact hpt x (by omega) hy
      · intro q hq'
        rw [qt_S_one n d q (r + 1) hr]
        by_cases g : q = qt_pr d (r + 1)
        · rw [eb, g, pk_us, if_pos rfl]
          congr 1; omega
        · rw [eb, pk_un g, if_neg (fun z => g z.symm), hsz q hq']; rfl
  have key2 : ∀ k r rk sz, r + k = n → (∀ x, x < r → rk (i x) = nI x) → (∀ j, j < 40 → (∀ x, x < r → i x ≠ j) → rk j = -1) → (∀ x, x < r → sz x = 1) → wX_noteShape_23 post xlim (nI n) xpc xlv xop xql xrc xrt (k + 1) (nI r) xod xpo xnm xvl xmv rk xpt sz xpd xpa xct xqu xco xse xpe xgv xan xal xng xrs := by
    intro k
    induction k with
    | zero =>
      intro r rk sz e h1 h2 h3
      have e : r = n := by omega
      subst e
      refine br_t (nI_le (by omega) (by omega)) (fun a ea => ?_)
      obtain ⟨m, rfl⟩ : ∃ m, r = m + 1 := ⟨r - 1, by omega⟩
      refine nm_r (nI_pred m) (Exists.intro (m + 1) ?_)
      refine key3 m a sz rk (by omega) ⟨h1, h2⟩ (by rw [ea]; exact pk_us) (fun x hx hy => by omega) (fun q hq => ?_)
      rw [Nat.sub_self, qt_S]; exact h3 q hq
    | succ k ih =>
      intro r rk sz e h1 h2 h3
      have hir := hi r (by omega)
      have e1 : xod (nI r).toNatClampNeg = nI (i r) := by rw [nI_clamp (by omega)]; exact hir.1
      have i1 : vp_in (nI r) 40 := vp_in_nI (by omega) (by omega)
      refine br_f (nI_ge (by omega) (by omega)) ⟨i1, by rw [e1]; exact vp_in_nI hir.2 (by omega), fun a ea => ⟨i1, fun b eb y ey => ?_⟩⟩
      rw [e1, nI_clamp (by omega)] at ea
      rw [nI_clamp (by omega)] at eb
      rw [nI_1] at ey
      subst ey
      refine ih (r + 1) a b (by omega) ?_ ?_ ?_
      · intro x hx
        by_cases g : x = r
        · rw [ea, g]; exact pk_us
        · rw [ea, pk_un (fun z => g (inj _ _ (by omega) (by omega) z))]; exact h1 x (by omega)
      · intro j hj g
        rw [ea, pk_un (fun z => g r (by omega) z.symm)]; exact h2 j hj (fun x hx => g x (by omega))
      · intro x hx
        by_cases g : x = r
        · rw [eb, g]; exact pk_us
        · rw [eb, pk_un g]; exact h3 x (by omega)
  have key1 : ∀ k r rk, r + k = 40 → (∀ j, j < r → rk j = -1) → wX_noteShape_2 post xlim (nI n) xpc xlv xop xql xrc xrt (k + 1) (nI r) xod xpo xnm xvl xmv rk xpt xsz xpd xpa xct xqu xco xse xpe xgv xan xal xng xrs := by
    intro k
    induction k with
    | zero =>
      intro r rk e h1
      have e : r = 40 := by omega
      subst e
      exact br_t (by decide) (Exists.intro _ (key2 n 0 rk xsz (by omega) (fun x hx => by omega) (fun j hj _ => h1 j hj) (fun x hx => by omega)))
    | succ k ih =>
      intro r rk e h1
      refine br_f (nI_ge (b := 40) (by omega) (by omega)) ⟨vp_in_nI (by omega) (by omega), fun a ea y ey => ?_⟩
      rw [nI_clamp (by omega)] at ea
      rw [nI_1] at ey
      subst ey
      refine ih (r + 1) a (by omega) (fun j hj => ?_)
      by_cases g : j = r
      · rw [ea, g]; exact pk_us
      · rw [ea, pk_un g]; exact h1 j (by omega)
  exact Exists.intro _ (key1 40 0 xrk (by omega) (fun j hj => by omega))
end
end
section
/-! the grammar's machine, on naturals: state, level, open parentheses, parentheses by level, counted by level -/
def qc_ax (t : Int32) : Bool := decide (¬ t < 20 ∧ ¬ 30 < t)
def qc_nm (t : Int32) : Bool := decide (¬ t < 40 ∧ ¬ 48 < t)
def qc_cp (t : Int32) : Bool := decide (t = 12 ∨ t = 13 ∨ t = 14)
def qc_nu (t : Int32) : Bool := decide (¬ t < 1000 ∧ ¬ 3000 < t)
abbrev qc_St : Type := Nat × Nat × Nat × (Nat → Nat) × (Nat → Bool)
def qc_put {α : Type} (f : Nat → α) (k : Nat) (x : α) : Nat → α := fun j => if j = k then x else f j
def qc_af (l o : Nat) (pa : Nat → Nat) (ct : Nat → Bool) (t : Int32) : qc_St :=
  if t = 5 ∨ t = 6 then (4, l, o, pa, ct)
  else if t = 4 ∧ 0 < pa l then (7, l, o - 1, qc_put pa l (pa l - 1), ct)
  else if t = 2 ∧ pa l = 0 then (3, l - 1, o, pa, ct)
  else (0, l, o, pa, ct)
def qc_sp (l o : Nat) (pa : Nat → Nat) (ct : Nat → Bool) (t : Int32) : qc_St :=
  if qc_ax t = true then (2, l, o, pa, ct)
  else if t = 1 then (if l < 3 then (4, l + 1, o, qc_put pa (l + 1) 0, ct) else (0, l, o, pa, ct))
  else if l = 0 then (0, l, o, pa, ct)
  else if ct l = true then (if qc_cp t = true then (6, l, o, pa, ct) else (0, l, o, pa, ct))
  else qc_af l o pa ct t
def qc_op (l o : Nat) (pa : Nat → Nat) (ct : Nat → Bool) (t : Int32) : qc_St :=
  if t = 7 then (4, l, o, pa, ct)
  else if t = 3 then (if o < 4 then (4, l, o + 1, qc_put pa l (pa l + 1), ct) else (0, l, o, pa, ct))
  else if t = 8 ∨ t = 10 then (5, l, o, pa, ct)
  else if t = 9 then (7, l, o, pa, ct)
  else if t = 11 then (1, l, o, pa, qc_put ct l true)
  else if qc_ax t = true then (2, l, o, pa, qc_put ct l false)
  else (0, l, o, pa, qc_put ct l false)
def qc_nx (S : qc_St) (t : Int32) : qc_St := match S with
  | (s, l, o, pa, ct) =>
    if s = 1 then (if qc_ax t = true then (2, l, o, pa, ct) else (0, l, o, pa, ct))
    else if s = 2 then (if qc_nm t = true then (3, l, o, pa, ct) else (0, l, o, pa, ct))
    else if s = 3 then qc_sp l o pa ct t
    else if s = 4 then qc_op l o pa ct t
    else if s = 5 then (if qc_cp t = true then (6, l, o, pa, ct) else (0, l, o, pa, ct))
    else if s = 6 then (if qc_nu t = true then (7, l, o, pa, ct) else (0, l, o, pa, ct))
    else if s = 7 then qc_af l o pa ct t
    else (0, l, o, pa, ct)
def qc_tr (q : Nat → Int32) : Nat → qc_St
  | 0 => (1, 0, 0, (fun _ => 0), (fun _ => false))
  | k + 1 => qc_nx (qc_tr q k) (q k)
/-! where brackets, steps and paths end -/
def qe_C (q : Nat → Int32) : Nat → Nat → Nat → Nat
  | 0, _, k => k
  | f + 1, e, k => if q k = 1 then qe_C q f (e + 1) (k + 1) else if q k = 2 then (if e = 1 then k else qe_C q f (e - 1) (k + 1)) else qe_C q f e (k + 1)
def qe_cl (q : Nat → Int32) (len t : Nat) : Nat := qe_C q (len - (t + 1)) 1 (t + 1)
def qe_S (q : Nat → Int32) (len : Nat) : Nat → Nat → Nat
  | 0, k => k
  | f + 1, k => if k < len ∧ q k = 1 then qe_S q len f (qe_cl q len k + 1) else k
def qe_se (q : Nat → Int32) (len t : Nat) : Nat := qe_S q len (len - (t + 2)) (t + 2)
def qe_P (q : Nat → Int32) (len : Nat) : Nat → Nat → Nat
  | 0, k => k
  | f + 1, k => if k < len ∧ qc_ax (q k) = true then qe_P q len f (qe_se q len k) else k
def qe_pe (q : Nat → Int32) (len t : Nat) : Nat := qe_P q len (len - t) t
/-! the relation -/
def qr_Q (len : Nat) (qx qy co se pe : Nat → Int32) : Prop :=
  len ≤ 40 ∧ (∀ t, t < len → qy t = qx t) ∧ (∀ t, len ≤ t → t < 41 → qx t = 0) ∧ (0 < len → (qc_tr qx len).1 = 3 ∧ (qc_tr qx len).2.1 = 0) ∧
  (∀ t, t < len → qx t = 1 → co t = nI (qe_cl qx len t)) ∧ (∀ t, t < len → qc_ax (qx t) = true → se t = nI (qe_se qx len t) ∧ pe t = nI (qe_pe qx len t))
def i_Rel (k : Nat) (u : SX) (v : SY) : Prop := ∃ (L n w len fd : Nat) (i d : Nat → Nat) (xlv xop : Int32) (sm : Int64) (id po nm vl mv rk pt sz pd xpa xct qx co se pe : Nat → Int32) (xgv xan xal : Nat → Int64) (xng rs : Nat → Int32) (yli yat : Int32) (dp yci ycd qy : Nat → Int32) (ygv : Nat → Int64) (yls yor yan yno yow ypa : Nat → Int32),
  u = (nI L, nI n, nI w, xlv, xop, nI len, nI fd, sm, id, po, nm, vl, mv, rk, pt, sz, pd, xpa, xct, qx, co, se, pe, xgv, xan, xal, xng, rs) ∧
  v = (nI L, nI n, nI w, nI len, nI fd, yli, yat, sm, id, dp, nm, vl, yci, ycd, pd, qy, ygv, yls, rs, yor, yan, yno, yow, ypa) ∧
  (4 ≤ L ∧ L ≤ 40 ∧ n ≤ L) ∧ w ≤ 40 ∧ fd ≤ 40 ∧ qr_B n i d id dp po ∧ qr_N n i d rk pt sz ∧ qr_Q len qx qy co se pe
theorem i_up {k : Nat} {u : SX} {v : SY} (h : i_Rel k u v) : i_Rel (k + 5) u v := h
theorem qr_mk {k L n w len fd : Nat} {i d : Nat → Nat} {xlv xop : Int32} {sm : Int64} {id po nm vl mv rk pt sz pd xpa xct qx co se pe : Nat → Int32} {xgv xan xal : Nat → Int64} {xng rs : Nat → Int32} {yli yat : Int32} {dp yci ycd qy : Nat → Int32} {ygv : Nat → Int64} {yls yor yan yno yow ypa : Nat → Int32}
    (hL : 4 ≤ L ∧ L ≤ 40 ∧ n ≤ L) (hw : w ≤ 40) (hf : fd ≤ 40) (B : qr_B n i d id dp po) (N : qr_N n i d rk pt sz) (Q : qr_Q len qx qy co se pe) :
    i_Rel k (nI L, nI n, nI w, xlv, xop, nI len, nI fd, sm, id, po, nm, vl, mv, rk, pt, sz, pd, xpa, xct, qx, co, se, pe, xgv, xan, xal, xng, rs) (nI L, nI n, nI w, nI len, nI fd, yli, yat, sm, id, dp, nm, vl, yci, ycd, pd, qy, ygv, yls, rs, yor, yan, yno, yow, ypa) :=
  ⟨L, n, w, len, fd, i, d, xlv, xop, sm, id, po, nm, vl, mv, rk, pt, sz, pd, xpa, xct, qx, co, se, pe, xgv, xan, xal, xng, rs, yli, yat, dp, yci, ycd, qy, ygv, yls, yor, yan, yno, yow, ypa, rfl, rfl, hL, hw, hf, B, N, Q⟩
theorem qr_node {n : Nat} (i : Nat → Nat) (v : Int32) : (∃ r, r < n ∧ v = nI (i r)) ∨ (∀ r, r < n → nI (i r) ≠ v) := by
  by_cases h : ∃ r, r < n ∧ v = nI (i r)
  · exact Or.inl h
  · exact Or.inr (fun r hr e => h ⟨r, hr, e.symm⟩)
section
variable {xlim : Int32} {xn : Int32} {xpc : Int32} {xlv : Int32} {xop : Int32} {xql : Int32} {xrc : Int32} {xrt : Int64} {xod : (Nat → Int32)} {xpo : (Nat → Int32)} {xnm : (Nat → Int32)} {xvl : (Nat → Int32)} {xmv : (Nat → Int32)} {xrk : (Nat → Int32)} {xpt : (Nat → Int32)} {xsz : (Nat → Int32)} {xpd : (Nat → Int32)} {xpa : (Nat → Int32)} {xct : (Nat → Int32)} {xqu : (Nat → Int32)} {xco : (Nat → Int32)} {xse : (Nat → Int32)} {xpe : (Nat → Int32)} {xgv : (Nat → Int64)} {xan : (Nat → Int64)} {xal : (Nat → Int64)} {xng : (Nat → Int32)} {xrs : (Nat → Int32)} {ymo : Int32} {yn : Int32} {yw : Int32} {yle : Int32} {yfo : Int32} {yli : Int32} {yat : Int32} {ysu : Int64} {yid : (Nat → Int32)} {ydp : (Nat → Int32)} {ynm : (Nat → Int32)} {yvl : (Nat → Int32)} {yci : (Nat → Int32)} {ycd : (Nat → Int32)} {ypd : (Nat → Int32)} {yqu : (Nat → Int32)} {ygv : (Nat → Int64)} {yls : (Nat → Int32)} {yrs : (Nat → Int32)} {yor : (Nat → Int32)} {yan : (Nat → Int32)} {yno : (Nat → Int32)} {yow : (Nat → Int32)} {ypa : (Nat → Int32)}
variable {n r : Nat} {i d : Nat → Nat} {dp po rk pt sz od : Nat → Int32} {v : Int32} {post : Int32 → Prop}
theorem qr_hX (B : qr_B n i d od dp po) (N : qr_N n i d rk pt sz) (hr : r < n) (h : post 1) : wpX_isNode post (xlim, nI n, xpc, xlv, xop, xql, xrc, xrt, od, po, xnm, xvl, xmv, rk, pt, sz, xpd, xpa, xct, xqu, xco, xse, xpe, xgv, xan, xal, xng, xrs) (nI (i r)) :=
  qx_nd_hit (B.2.1 r hr).2 (N.1 r hr) (by have := B.1.2; omega) h
theorem qr_mX (N : qr_N n i d rk pt sz) (hm : ∀ r, r < n → nI (i r) ≠ v) (h : post 0) : wpX_isNode post (xlim, nI n, xpc, xlv, xop, xql, xrc, xrt, od, po, xnm, xvl, xmv, rk, pt, sz, xpd, xpa, xct, xqu, xco, xse, xpe, xgv, xan, xal, xng, xrs) v :=
  qx_nd_miss (fun j hj e => N.2.1 j hj (fun r hr g => hm r hr (by rw [g, e]))) h
theorem qr_hY (B : qr_B n i d od dp po) (hr : r < n) (h : post (nI r)) : wpY_placeOf post (ymo, nI n, yw, yle, yfo, yli, yat, ysu, od, dp, ynm, yvl, yci, ycd, ypd, yqu, ygv, yls, yrs, yor, yan, yno, yow, ypa) (nI (i r)) := by
  have hi := B.2.1
  refine qy_pl_hit B.1.2 hr (hi r hr).1 (fun x hx => ?_) h
  rw [(hi x (by omega)).1]
  intro e
  rw [nI_eq (by have := (hi x (by omega)).2; omega) (by have := (hi r hr).2; omega)] at e
  have := B.2.2.2.1 x r (by omega) hr e
  omega
theorem qr_mY (B : qr_B n i d od dp po) (hm : ∀ r, r < n → nI (i r) ≠ v) (h : post (-1)) : wpY_placeOf post (ymo, nI n, yw, yle, yfo, yli, yat, ysu, od, dp, ynm, yvl, yci, ycd, ypd, yqu, ygv, yls, yrs, yor, yan, yno, yow, ypa) v :=
  qy_pl_miss B.1.2 (fun x hx => by rw [(B.2.1 x hx).1]; exact hm x hx) h
theorem qr_root (B : qr_B n i d od dp po) (hr : r < n) : nI (i r) = 0 ↔ r = 0 := by
  have hi := B.2.1
  have e : (0 : Int32) = nI (i 0) := by rw [B.2.2.1]; decide
  rw [e, nI_eq (by have := (hi r hr).2; omega) (by rw [B.2.2.1]; omega)]
  exact ⟨fun h => B.2.2.2.1 r 0 hr B.1.1 h, fun h => by rw [h]⟩
end
theorem qr_init_B : qr_B 1 (fun _ => 0) (fun _ => 0) (fun _ => 0) (fun _ => 0) (upd (fun _ => 0) 0 (-1)) :=
  ⟨⟨by omega, by omega⟩, fun r _ => ⟨(by decide : (0 : Int32) = nI 0), (by decide : 0 < 40)⟩, rfl, fun r s _ _ _ => by omega, ⟨rfl, fun r _ _ => by omega⟩, fun r _ => ⟨(by decide : (0 : Int32) = nI 0), (by decide : 0 < 40)⟩, pk_us, fun r _ _ => by omega⟩
theorem qr_init_Q : qr_Q 0 (fun _ => 0) (fun _ => 0) (fun _ => 0) (fun _ => 0) (fun _ => 0) :=
  ⟨by omega, fun t _ => by omega, fun t _ _ => rfl, fun h => by omega, fun t _ => by omega, fun t _ => by omega⟩
theorem qr_init {L : Nat} (h1 : 4 ≤ L) (h2 : L ≤ 40) : wX_init_219 (fun u => ∀ v, (v = ((nI L, 1, 0, 0, 0, 0, 0, 0, (fun _ => 0), (fun _ => 0), (fun _ => 0), (fun _ => 0), (fun _ => 0), (fun _ => 0), (fun _ => 0), (fun _ => 0), (fun _ => 0), (fun _ => 0), (fun _ => 0), (fun _ => 0), (fun _ => 0), (fun _ => 0), (fun _ => 0), (fun _ => 0)) : SY)) → i_Rel 1 u v) (nI L) 0 1 0 0 0 0 0 0 (fun _ => 0) (fun _ => 0) (fun _ => 0) (fun _ => 0) (fun _ => 0) (fun _ => 0) (fun _ => 0) (fun _ => 0) (fun _ => 0) (fun _ => 0) (fun _ => 0) (fun _ => 0) (fun _ => 0) (fun _ => 0) (fun _ => 0) (fun _ => 0) (fun _ => 0) (fun _ => 0) (fun _ => 0) (fun _ => 0) := by
  intro a ea
  subst ea
  refine qx_ns (n := 1) qr_init_B (fun rk pt sz N => ?_)
  intro v ev
  subst ev
  exact qr_mk (w := 0) (fd := 0) (len := 0) ⟨h1, h2, by omega⟩ (by omega) (by omega) qr_init_B N qr_init_Q
end
section
theorem i_vc0 (k0 : Int32) : wpX_init (fun u => wpY_init (fun v => i_Rel 1 u v) k0) k0 := by
  by_cases h4 : (4 : Int32) ≤ k0
  · by_cases h40 : k0 ≤ 40
    · have h0 : ¬ k0 < 0 := Int32.not_lt.mpr (Int32.le_trans (by decide) h4)
      obtain ⟨L, hL, rfl⟩ := nI_of h0
      have e4 : (4 : Int32) = nI 4 := by decide
      have e40 : (40 : Int32) = nI 40 := by decide
      have l1 : 4 ≤ L := by rw [e4, nI_leI (by omega) hL] at h4; exact h4
      have l2 : L ≤ 40 := by rw [e40, nI_leI hL (by omega)] at h40; exact h40
      refine br_t h40 (br_t h4 ?_)
      have c := qr_init l1 l2
      unfold wX_init_219 at c ⊢
      intro a ea
      have c := c a ea
      subst ea
      refine qx_ns (n := 1) qr_init_B (fun rk pt sz N => ?_)
      exact br_t h4 (br_t h40 (qr_mk (w := 0) (fd := 0) (len := 0) ⟨l1, l2, by omega⟩ (by omega) (by omega) qr_init_B N qr_init_Q))
    · refine br_f h40 (br_t (by decide) ?_)
      intro a ea
      subst ea
      refine qx_ns (n := 1) qr_init_B (fun rk pt sz N => ?_)
      exact br_t h4 (br_f h40 (qr_mk (L := 40) (w := 0) (fd := 0) (len := 0) ⟨by omega, by omega, by omega⟩ (by omega) (by omega) qr_init_B N qr_init_Q))
  · have h40 : k0 ≤ 40 := Int32.le_trans (Int32.le_of_lt (Int32.not_le.mp h4)) (by decide)
    refine br_t h40 (br_f h4 ?_)
    intro a ea
    subst ea
    refine qx_ns (n := 1) qr_init_B (fun rk pt sz N => ?_)
    exact br_f h4 (qr_mk (L := 4) (w := 0) (fd := 0) (len := 0) ⟨by omega, by omega, by omega⟩ (by omega) (by omega) qr_init_B N qr_init_Q)
theorem i_vc_parent {k : Nat} {u : SX} {v : SY} (I : i_Rel k u v) (hk : k + 5 ≤ 2561) (v1 : Int32) : wpX_parent (fun r => wpY_parent (fun r' => r' = r ∧ i_Rel (k + 5) u v) v v1) u v1 := by
  have I0 := I
  obtain ⟨L, n, w, len, fd, i, d, xlv, xop, sm, id, po, nm, vl, mv, rk, pt, sz, pd, xpa, xct, qx, co, se, pe, xgv, xan, xal, xng, rs, yli, yat, dp, yci, ycd, qy, ygv, yls, yor, yan, yno, yow, ypa, rfl, rfl, hL, hw, hf, B, N, Q⟩ := I
  have hn := B.1.2
  unfold wpX_parent wpY_parent
  dsimp only
  rcases qr_node (n := n) i v1 with ⟨r, hr, rfl⟩ | hm
  · refine qr_hX B N hr (br_f (by decide) ?_)
    by_cases e : r = 0
    · refine br_t ((qr_root B hr).mpr e) (qr_hY B hr (br_f ?_ ⟨rfl, I0⟩))
      rw [e]; decide
    · refine br_f (fun z => e ((qr_root B hr).mp z)) ⟨vp_in_nI (B.2.1 r hr).2 (by omega), qr_hY B hr (br_t (nI_lt (a := 0) (by omega) (by omega)) ?_)⟩
      have D := B.2.2.2.2.1
      have hp := qt_pr_lt D (by omega) hr
      refine qy_pp hn D (by omega) hr B.2.2.2.2.2.1 ⟨vp_in_nI (by omega) (by omega), ?_, I0⟩
      rw [nI_clamp (by omega), nI_clamp (by have := (B.2.1 r hr).2; omega), (B.2.1 _ (show qt_pr d r < n by omega)).1, B.2.2.2.2.2.2.2 r (by omega) hr]
  · exact qr_mX N hm (br_t (by decide) (qr_mY B hm (br_f (by decide) ⟨rfl, I0⟩)))
theorem i_vc_rank {k : Nat} {u : SX} {v : SY} (I : i_Rel k u v) (hk : k + 5 ≤ 2561) (v1 : Int32) : wpX_rank (fun r => wpY_rank (fun r' => r' = r ∧ i_Rel (k + 5) u v) v v1) u v1 := by
  have I0 := I
  obtain ⟨L, n, w, len, fd, i, d, xlv, xop, sm, id, po, nm, vl, mv, rk, pt, sz, pd, xpa, xct, qx, co, se, pe, xgv, xan, xal, xng, rs, yli, yat, dp, yci, ycd, qy, ygv, yls, yor, yan, yno, yow, ypa, rfl, rfl, hL, hw, hf, B, N, Q⟩ := I
  have hn := B.1.2
  unfold wpX_rank wpY_rank
  dsimp only
  rcases qr_node (n := n) i v1 with ⟨r, hr, rfl⟩ | hm
  · refine qr_hX B N hr (br_f (by decide) ⟨vp_in_nI (B.2.1 r hr).2 (by omega), qr_hY B hr ⟨?_, I0⟩⟩)
    rw [nI_clamp (by have := (B.2.1 r hr).2; omega), N.1 r hr]
  · exact qr_mX N hm (br_t (by decide) (qr_mY B hm ⟨rfl, I0⟩))
theorem i_vc_size {k : Nat} {u : SX} {v : SY} (I : i_Rel k u v) (hk : k + 5 ≤ 2561) (v1 : Int32) : wpX_size (fun r => wpY_size (fun r' => r' = r ∧ i_Rel (k + 5) u v) v v1) u v1 := by
  have I0 := I
  obtain ⟨L, n, w, len, fd, i, d, xlv, xop, sm, id, po, nm, vl, mv, rk, pt, sz, pd, xpa, xct, qx, co, se, pe, xgv, xan, xal, xng, rs, yli, yat, dp, yci, ycd, qy, ygv, yls, yor, yan, yno, yow, ypa, rfl, rfl, hL, hw, hf, B, N, Q⟩ := I
  have hn := B.1.2
  unfold wpX_size wpY_size
  dsimp only
  rcases qr_node (n := n) i v1 with ⟨r, hr, rfl⟩ | hm
  · have e1 : rk (nI (i r)).toNatClampNeg = nI r := by rw [nI_clamp (by have := (B.2.1 r hr).2; omega), N.1 r hr]
    have he := (qt_en_spec (n := n) (d := d) hr).1
    refine qr_hX B N hr (br_f (by decide) ⟨vp_in_nI (B.2.1 r hr).2 (by omega), by rw [e1]; exact vp_in_nI (by omega) (by omega), qr_hY B hr (br_t (nI_pos' (by omega)) (qy_bh hn hr B.2.2.2.2.2.1 ⟨?_, I0⟩))⟩)
    rw [e1, nI_clamp (by omega), N.2.2.2.2 r hr, pk_sub (by omega)]
  · exact qr_mX N hm (br_t (by decide) (qr_mY B hm (br_f (by decide) ⟨rfl, I0⟩)))
theorem i_vc_value {k : Nat} {u : SX} {v : SY} (I : i_Rel k u v) (hk : k + 5 ≤ 2561) (v1 : Int32) : wpX_value (fun r => wpY_value (fun r' => r' = r ∧ i_Rel (k + 5) u v) v v1) u v1 := by
  have I0 := I
  obtain ⟨L, n, w, len, fd, i, d, xlv, xop, sm, id, po, nm, vl, mv, rk, pt, sz, pd, xpa, xct, qx, co, se, pe, xgv, xan, xal, xng, rs, yli, yat, dp, yci, ycd, qy, ygv, yls, yor, yan, yno, yow, ypa, rfl, rfl, hL, hw, hf, B, N, Q⟩ := I
  have hn := B.1.2
  unfold wpX_value wpY_value
  dsimp only
  rcases qr_node (n := n) i v1 with ⟨r, hr, rfl⟩ | hm
  · have hi : vp_in (nI (i r)) 40 := vp_in_nI (B.2.1 r hr).2 (by omega)
    exact qr_hX B N hr (br_f (by decide) ⟨hi, qr_hY B hr (br_t (nI_pos' (by omega)) ⟨hi, rfl, I0⟩)⟩)
  · exact qr_mX N hm (br_t (by decide) (qr_mY B hm (br_f (by decide) ⟨rfl, I0⟩)))
theorem i_vc_child {k : Nat} {u : SX} {v : SY} (I : i_Rel k u v) (hk : k + 5 ≤ 2561) (v1 : Int32) (v2 : Int32) : wpX_child (fun r => wpY_child (fun r' => r' = r ∧ i_Rel (k + 5) u v) v v1 v2) u v1 v2 := by
  have I0 := I
  obtain ⟨L, n, w, len, fd, i, d, xlv, xop, sm, id, po, nm, vl, mv, rk, pt, sz, pd, xpa, xct, qx, co, se, pe, xgv, xan, xal, xng, rs, yli, yat, dp, yci, ycd, qy, ygv, yls, yor, yan, yno, yow, ypa, rfl, rfl, hL, hw, hf, B, N, Q⟩ := I
  have hn := B.1.2
  unfold wpX_child wpY_child
  dsimp only
  rcases qr_node (n := n) i v1 with ⟨r, hr, rfl⟩ | hm
  · refine qr_hX B N hr (br_f (by decide) ?_)
    by_cases h0 : v2 < 0
    · exact br_t h0 (qr_hY B hr (br_f (nI_pos (by omega)) (br_t h0 ⟨rfl, I0⟩)))
    · refine br_f h0 ?_
      obtain ⟨m, hm, rfl⟩ := nI_of h0
      have hc := qt_cn_le (qt_ch n d r) n
      refine qx_cc B hr ?_
      refine pk_lt m (qt_cn (qt_ch n d r) n) (fun g => ?_) (fun g => ?_)
      · refine qx_sp B N hr (by omega) (fun s hs => ?_)
        obtain ⟨x, x1, x2, x3⟩ := qt_cn_ex n g
        have es : s = x := qt_Spot_uniq hs (Or.inl ⟨x1, x2, x3⟩)
        refine ⟨vp_in_nI (by omega) (by omega), qr_hY B hr (br_f (nI_pos (by omega)) (br_f h0 (qy_cc hn hr B.2.2.2.2.2.1 (br_t (nI_lt g (by omega)) (qy_cp hn hr hm B.2.2.2.2.2.1 (fun s' hs' => ?_))))))⟩
        have es' := qt_Spot_uniq hs' hs
        subst es'
        exact ⟨vp_in_nI (by omega) (by omega), rfl, I0⟩
      · exact qr_hY B hr (br_f (nI_pos (by omega)) (br_f h0 (qy_cc hn hr B.2.2.2.2.2.1 (br_f (nI_nlt g (by omega)) ⟨rfl, I0⟩))))
  · exact qr_mX N hm (br_t (by decide) (qr_mY B hm (br_t (by decide) ⟨rfl, I0⟩)))
theorem i_vc_alter {k : Nat} {u : SX} {v : SY} (I : i_Rel k u v) (hk : k + 5 ≤ 2561) (v1 : Int32) (v2 : Int32) (v3 : Int32) : wpX_alter (fun r u' => wpY_alter (fun r' v' => r' = r ∧ i_Rel (k + 5) u' v') v v1 v2 v3) u v1 v2 v3 := by
  have I0 := I
  obtain ⟨L, n, w, len, fd, i, d, xlv, xop, sm, id, po, nm, vl, mv, rk, pt, sz, pd, xpa, xct, qx, co, se, pe, xgv, xan, xal, xng, rs, yli, yat, dp, yci, ycd, qy, ygv, yls, yor, yan, yno, yow, ypa, rfl, rfl, hL, hw, hf, B, N, Q⟩ := I
  have hn := B.1.2
  unfold wpX_alter wpY_alter
  dsimp only
  rcases qr_node (n := n) i v1 with ⟨r, hr, rfl⟩ | hm
  · have hi : vp_in (nI (i r)) 40 := vp_in_nI (B.2.1 r hr).2 (by omega)
    refine qr_hX B N hr (br_f (by decide) ?_)
    refine qx_nm (fun ⟨m, hm, em⟩ => ?_) (fun hm => ?_)
    · subst em
      refine br_f (by decide) ⟨hi, fun x ex => ⟨hi, fun a ea => ⟨hi, fun b eb => ?_⟩⟩⟩
      refine qr_hY B hr (br_f (nI_pos (by omega)) (br_f (nI_pos (by omega)) (br_t (nI_le (b := 7) (by omega) (by omega)) ⟨hi, fun x' ex' => ⟨hi, fun a' ea' => ⟨hi, fun b' eb' => ?_⟩⟩⟩)))
      subst ea; subst eb; subst ea'; subst eb'; subst ex; subst ex'
      exact ⟨rfl, qr_mk hL hw hf B N Q⟩
    · refine br_t (by decide) (qr_hY B hr (br_f (nI_pos (by omega)) ?_))
      refine br_c (fun g => ⟨rfl, I0⟩) (fun g => br_f (fun g2 => hm ?_) ⟨rfl, I0⟩)
      obtain ⟨m, h1, h2⟩ := nI_of2 (n := 7) (by decide) g g2
      exact ⟨m, by omega, h2⟩
  · exact qr_mX N hm (br_t (by decide) (qr_mY B hm (br_t (by decide) ⟨rfl, I0⟩)))
theorem i_vc_picked {k : Nat} {u : SX} {v : SY} (I : i_Rel k u v) (hk : k + 5 ≤ 2561) (v1 : Int32) : wpX_picked (fun r => wpY_picked (fun r' => r' = r ∧ i_Rel (k + 5) u v) v v1) u v1 := by
  have I0 := I
  obtain ⟨L, n, w, len, fd, i, d, xlv, xop, sm, id, po, nm, vl, mv, rk, pt, sz, pd, xpa, xct, qx, co, se, pe, xgv, xan, xal, xng, rs, yli, yat, dp, yci, ycd, qy, ygv, yls, yor, yan, yno, yow, ypa, rfl, rfl, hL, hw, hf, B, N, Q⟩ := I
  by_cases h0 : v1 < 0
  · exact br_t h0 (br_t h0 ⟨rfl, I0⟩)
  · obtain ⟨m, hm, rfl⟩ := nI_of h0
    refine br_f h0 (pk_le fd m (fun g => ?_) (fun g => ?_))
    · exact br_f h0 (br_f (nI_nlt g (by omega)) ⟨rfl, I0⟩)
    · have hi : vp_in (nI m) 40 := vp_in_nI (by omega) (by omega)
      exact ⟨hi, br_f h0 (br_t (nI_lt g (by omega)) ⟨hi, rfl, I0⟩)⟩
theorem i_vc_total {k : Nat} {u : SX} {v : SY} (I : i_Rel k u v) (hk : k + 5 ≤ 2561) : wpX_total (fun r => wpY_total (fun r' => r' = r ∧ i_Rel (k + 5) u v) v) u := by
  have I0 := I
  obtain ⟨L, n, w, len, fd, i, d, xlv, xop, sm, id, po, nm, vl, mv, rk, pt, sz, pd, xpa, xct, qx, co, se, pe, xgv, xan, xal, xng, rs, yli, yat, dp, yci, ycd, qy, ygv, yls, yor, yan, yno, yow, ypa, rfl, rfl, hL, hw, hf, B, N, Q⟩ := I
  exact ⟨rfl, I0⟩
/-! put -/
def qp_1 (x : Int32) : Nat := if x = 0 then 0 else 1
def qp_a (pd : Nat → Int32) (w : Nat) (x : Int32) : Nat → Int32 := if x = 0 then pd else upd pd w x
section
variable {xlim : Int32} {xn : Int32} {xpc : Int32} {xlv : Int32} {xop : Int32} {xql : Int32} {xrc : Int32} {xrt : Int64} {xod : (Nat → Int32)} {xpo : (Nat → Int32)} {xnm : (Nat → Int32)} {xvl : (Nat → Int32)} {xmv : (Nat → Int32)} {xrk : (Nat → Int32)} {xpt : (Nat → Int32)} {xsz : (Nat → Int32)} {xpd : (Nat → Int32)} {xpa : (Nat → Int32)} {xct : (Nat → Int32)} {xqu : (Nat → Int32)} {xco : (Nat → Int32)} {xse : (Nat → Int32)} {xpe : (Nat → Int32)} {xgv : (Nat → Int64)} {xan : (Nat → Int64)} {xal : (Nat → Int64)} {xng : (Nat → Int32)} {xrs : (Nat → Int32)} {ymo : Int32} {yn : Int32} {yw : Int32} {yle : Int32} {yfo : Int32} {yli : Int32} {yat : Int32} {ysu : Int64} {yid : (Nat → Int32)} {ydp : (Nat → Int32)} {ynm : (Nat → Int32)} {yvl : (Nat → Int32)} {yci : (Nat → Int32)} {ycd : (Nat → Int32)} {ypd : (Nat → Int32)} {yqu : (Nat → Int32)} {ygv : (Nat → Int64)} {yls : (Nat → Int32)} {yrs : (Nat → Int32)} {yor : (Nat → Int32)} {yan : (Nat → Int32)} {yno : (Nat → Int32)} {yow : (Nat → Int32)} {ypa : (Nat → Int32)}
theorem qp_X {w : Nat} {x : Int32} {post : SX → Prop} (hw : w + qp_1 x ≤ 40) (h : post (xlim, xn, nI (w + qp_1 x), xlv, xop, xql, xrc, xrt, xod, xpo, xnm, xvl, xmv, xrk, xpt, xsz, qp_a xpd w x, xpa, xct, xqu, xco, xse, xpe, xgv, xan, xal, xng, xrs)) : wpX_addPending post (xlim, xn, nI w, xlv, xop, xql, xrc, xrt, xod, xpo, xnm, xvl, xmv, xrk, xpt, xsz, xpd, xpa, xct, xqu, xco, xse, xpe, xgv, xan, xal, xng, xrs) x := by
  unfold qp_1 at hw h
  unfold qp_a at h
  by_cases e : x = 0
  · rw [if_pos e, if_pos e] at h; exact br_t e h
  · rw [if_neg e] at hw
    rw [if_neg e, if_neg e] at h
    refine br_f e ⟨vp_in_nI (by omega) (by omega), fun a ea => nm_r (nI_1 w) ?_⟩
    rw [nI_clamp (by omega)] at ea
    subst ea; exact h
theorem qp_Y {w : Nat} {x : Int32} {post : SY → Prop} (hw : w + qp_1 x ≤ 40) (h : post (ymo, yn, nI (w + qp_1 x), yle, yfo, yli, yat, ysu, yid, ydp, ynm, yvl, yci, ycd, qp_a ypd w x, yqu, ygv, yls, yrs, yor, yan, yno, yow, ypa)) : wpY_add post (ymo, yn, nI w, yle, yfo, yli, yat, ysu, yid, ydp, ynm, yvl, yci, ycd, ypd, yqu, ygv, yls, yrs, yor, yan, yno, yow, ypa) x := by
  unfold qp_1 at hw h
  unfold qp_a at h
  by_cases e : x = 0
  · rw [if_pos e, if_pos e] at h; exact br_t e h
  · rw [if_neg e] at hw
    rw [if_neg e, if_neg e] at h
    refine br_f e (nm_r (nI_1 w) ⟨vp_in_nI (by omega) (by omega), fun a ea => ?_⟩)
    rw [nI_clamp (by omega)] at ea
    subst ea; exact h
theorem qp_X3 {w : Nat} {a b c : Int32} {post : Int32 → SX → Prop} (h : w + (qp_1 a + qp_1 b + qp_1 c) ≤ 40 → post (nI (w + qp_1 a + qp_1 b + qp_1 c)) (xlim, xn, nI (w + qp_1 a + qp_1 b + qp_1 c), xlv, xop, xql, xrc, xrt, xod, xpo, xnm, xvl, xmv, xrk, xpt, xsz, qp_a (qp_a (qp_a xpd w a) (w + qp_1 a) b) (w + qp_1 a + qp_1 b) c, xpa, xct, xqu, xco, xse, xpe, xgv, xan, xal, xng, xrs)) (hw : w ≤ 40) (h' : ¬ w + (qp_1 a + qp_1 b + qp_1 c) ≤ 40 → post (-2) (xlim, xn, nI w, xlv, xop, xql, xrc, xrt, xod, xpo, xnm, xvl, xmv, xrk, xpt, xsz, xpd, xpa, xct, xqu, xco, xse, xpe, xgv, xan, xal, xng, xrs)) : wX_put_28 post a b c (nI (qp_1 c)) (nI (qp_1 a) + nI (qp_1 b)) xlim xn (nI w) xlv xop xql xrc xrt xod xpo xnm xvl xmv xrk xpt xsz xpd xpa xct xqu xco xse xpe xgv xan xal xng xrs := by
  have u1 : qp_1 a ≤ 1 := by unfold qp_1; split <;> omega
  have u2 : qp_1 b ≤ 1 := by unfold qp_1; split <;> omega
  have u3 : qp_1 c ≤ 1 := by unfold qp_1; split <;> omega
  refine nm_r (e' := nI (qp_1 a + qp_1 b + qp_1 c)) (by rw [nI_add, nI_add]) ?_
  refine pk_le (w + (qp_1 a + qp_1 b + qp_1 c)) 40 (fun g => ?_) (fun g => h' (by omega)) (nI_add _ _) rfl
  refine qp_X (by omega) (qp_X (by omega) (qp_X (by omega) (h g)))
theorem qp_Y3 {w : Nat} {a b c : Int32} {post : Int32 → SY → Prop} (h : w + (qp_1 a + qp_1 b + qp_1 c) ≤ 40 → post (nI (w + qp_1 a + qp_1 b + qp_1 c)) (ymo, yn, nI (w + qp_1 a + qp_1 b + qp_1 c), yle, yfo, yli, yat, ysu, yid, ydp, ynm, yvl, yci, ycd, qp_a (qp_a (qp_a ypd w a) (w + qp_1 a) b) (w + qp_1 a + qp_1 b) c, yqu, ygv, yls, yrs, yor, yan, yno, yow, ypa)) (hw : w ≤ 40) (h' : ¬ w + (qp_1 a + qp_1 b + qp_1 c) ≤ 40 → post (-2) (ymo, yn, nI w, yle, yfo, yli, yat, ysu, yid, ydp, ynm, yvl, yci, ycd, ypd, yqu, ygv, yls, yrs, yor, yan, yno, yow, ypa)) : wY_put_28 post a b c (nI (qp_1 c)) (nI (qp_1 a) + nI (qp_1 b)) ymo yn (nI w) yle yfo yli yat ysu yid ydp ynm yvl yci ycd ypd yqu ygv yls yrs yor yan yno yow ypa := by
  have u1 : qp_1 a ≤ 1 := by unfold qp_1; split <;> omega
  have u2 : qp_1 b ≤ 1 := by unfold qp_1; split <;> omega
  have u3 : qp_1 c ≤ 1 := by unfold qp_1; split <;> omega
  refine nm_r (e' := nI (qp_1 a + qp_1 b + qp_1 c)) (by rw [nI_add, nI_add]) ?_
  refine pk_le (w + (qp_1 a + qp_1 b + qp_1 c)) 40 (fun g => ?_) (fun g => h' (by omega)) (nI_add _ _) rfl
  refine qp_Y (by omega) (qp_Y (by omega) (qp_Y (by omega) (h g)))
theorem qp_b {x : Int32} {A : Int32 → Prop} (h : A (nI (qp_1 x))) : (x = 0 → A 0) ∧ (¬ x = 0 → A 1) := by
  unfold qp_1 at h
  by_cases e : x = 0
  · rw [if_pos e] at h; exact br_t e h
  · rw [if_neg e] at h; exact br_f e h
end
theorem i_vc_put {k : Nat} {u : SX} {v : SY} (I : i_Rel k u v) (hk : k + 5 ≤ 2561) (v1 : Int32) (v2 : Int32) (v3 : Int32) : wpX_put (fun r u' => wpY_put (fun r' v' => r' = r ∧ i_Rel (k + 5) u' v') v v1 v2 v3) u v1 v2 v3 := by
  have I0 := I
  obtain ⟨L, n, w, len, fd, i, d, xlv, xop, sm, id, po, nm, vl, mv, rk, pt, sz, pd, xpa, xct, qx, co, se, pe, xgv, xan, xal, xng, rs, yli, yat, dp, yci, ycd, qy, ygv, yls, yor, yan, yno, yow, ypa, rfl, rfl, hL, hw, hf, B, N, Q⟩ := I
  refine qp_b (A := fun z => wX_put_9 _ v1 v2 v3 z _ _ _ _ _ _ _ _ _ _ _ _ _ _ _ _ _ _ _ _ _ _ _ _ _ _ _ _) ?_
  refine qp_b (A := fun z => wX_put_18 _ v1 v2 v3 z _ _ _ _ _ _ _ _ _ _ _ _ _ _ _ _ _ _ _ _ _ _ _ _ _ _ _ _ _) ?_
  refine qp_b (A := fun z => wX_put_28 _ v1 v2 v3 z _ _ _ _ _ _ _ _ _ _ _ _ _ _ _ _ _ _ _ _ _ _ _ _ _ _ _ _ _) ?_
  refine qp_X3 (fun g => ?_) hw (fun g => ?_)
  · refine qp_b (A := fun z => wY_put_9 _ v1 v2 v3 z _ _ _ _ _ _ _ _ _ _ _ _ _ _ _ _ _ _ _ _ _ _ _ _) ?_
    refine qp_b (A := fun z => wY_put_18 _ v1 v2 v3 z _ _ _ _ _ _ _ _ _ _ _ _ _ _ _ _ _ _ _ _ _ _ _ _ _) ?_
    refine qp_b (A := fun z => wY_put_28 _ v1 v2 v3 z _ _ _ _ _ _ _ _ _ _ _ _ _ _ _ _ _ _ _ _ _ _ _ _ _) ?_
    exact qp_Y3 (fun g => ⟨rfl, qr_mk hL (by omega) hf B N Q⟩) hw (fun g' => absurd g g')
  · refine qp_b (A := fun z => wY_put_9 _ v1 v2 v3 z _ _ _ _ _ _ _ _ _ _ _ _ _ _ _ _ _ _ _ _ _ _ _ _) ?_
    refine qp_b (A := fun z => wY_put_18 _ v1 v2 v3 z _ _ _ _ _ _ _ _ _ _ _ _ _ _ _ _ _ _ _ _ _ _ _ _ _) ?_
    refine qp_b (A := fun z => wY_put_28 _ v1 v2 v3 z _ _ _ _ _ _ _ _ _ _ _ _ _ _ _ _ _ _ _ _ _ _ _ _ _) ?_
    exact qp_Y3 (fun g' => absurd g' g) hw (fun g => ⟨rfl, I0⟩)
end
section
/-! the tree's relation when a run is cut out or put in -/
theorem qa_pu_1 (f : Nat → Int32) (s : Nat) (b : Nat → Int32) : qa_pu f s b 1 = upd f s (b 0) := by
  have h := qa_pu_s f s b 0
  rw [qa_pu_0] at h
  exact h.symm
theorem qa_pu_c {f : Nat → Int32} {s w : Nat} {b b' : Nat → Int32} (h : ∀ k, k < w → b k = b' k) : qa_pu f s b w = qa_pu f s b' w := by
  funext x
  unfold qa_pu
  by_cases g : s ≤ x ∧ x < s + w
  · rw [if_pos g, if_pos g]; exact h _ (by omega)
  · rw [if_neg g, if_neg g]
theorem qa_ins {od b : Nat → Int32} {i bi : Nat → Nat} {n s w : Nat} (hs : s ≤ n) (h : ∀ x, x < n → od x = nI (i x)) (hb : ∀ k, k < w → b k = nI (bi k)) (x : Nat) (hx : x < n + w) : qa_pu (qa_og od s n w) s b w x = nI (qt_ins i s w bi x) := by
  unfold qa_pu qa_og
  by_cases g1 : x < s
  · rw [if_neg (by omega), if_neg (by omega), qt_ins_lo g1]; exact h x (by omega)
  · by_cases g2 : x < s + w
    · rw [if_pos (by omega), qt_ins_in (by omega) g2]; exact hb _ (by omega)
    · rw [if_neg (by omega), if_pos (by omega), qt_ins_hi (by omega)]; exact h _ (by omega)
theorem qa_cut {od : Nat → Int32} {i : Nat → Nat} {n p w : Nat} (hp : p + w ≤ n) (h : ∀ x, x < n → od x = nI (i x)) (x : Nat) (hx : x < n - w) : qa_cl od p (n - w) w x = nI (qt_cut i p w x) := by
  unfold qa_cl
  by_cases g : x < p
  · rw [if_neg (by omega), qt_cut_lo g]; exact h x (by omega)
  · rw [if_pos (by omega), qt_cut_hi (by omega)]; exact h _ (by omega)
theorem qr_cut_B {n : Nat} {i d : Nat → Nat} {od dp po : Nat → Int32} {p w : Nat} (B : qr_B n i d od dp po) (h0 : 0 < p) (hp : p < n) (hw : p + w = qt_en n d p) : qr_B (n - w) (qt_cut i p w) (qt_cut d p w) (qa_cl od p (n - w) w) (qa_cl dp p (n - w) w) po := by
  obtain ⟨⟨n0, n1⟩, hi, hi0, inj, D, hd, po0, hpo⟩ := B
  obtain ⟨e1, e2, e3, e4⟩ := qt_en_spec (n := n) (d := d) hp
  have D' := qt_cut_D D h0 hp hw
  have ex : ∀ (f : Nat → Nat) r, qt_cut f p w r = f (if r < p then r else r + w) := by
    intro f r
    by_cases g : r < p
    · rw [qt_cut_lo g, if_pos g]
    · rw [qt_cut_hi (by omega), if_neg g]
  have hlt : ∀ r, r < n - w → (if r < p then r else r + w) < n := by intro r hr; split <;> omega
  refine ⟨⟨by omega, by omega⟩, fun r hr => ⟨qa_cut (by omega) (fun x hx => (hi x hx).1) r hr, ?_⟩, by rw [qt_cut_lo h0]; exact hi0, ?_, D', fun r hr => ⟨qa_cut (by omega) (fun x hx => (hd x hx).1) r hr, ?_⟩, po0, ?_⟩
  · rw [ex]; exact (hi _ (hlt r hr)).2
  · intro r s hr hs e
    rw [ex, ex] at e
    have := inj _ _ (hlt r hr) (hlt s hs) e
    split at this <;> split at this <;> omega
  · have := qt_D_le D' r hr; omega
  · intro r hr0 hr
    have hl := hlt r hr
    have hr1 : 0 < (if r < p then r else r + w) := by split <;> omega
    have pa := qt_pr_spec D hr1 hl
    obtain ⟨c1, c2⟩ := qt_cut_PA D h0 hp hw hr0 hr pa
    rw [ex, hpo _ hr1 hl, qt_pr_eq c1, ex]
    have hz : ∀ Z, (p ≤ Z → p + w ≤ Z) → Z = (if (if Z < p then Z else Z - w) < p then (if Z < p then Z else Z - w) else (if Z < p then Z else Z - w) + w) := by
      intro Z hZ
      by_cases g : Z < p
      · rw [if_pos g, if_pos g]
      · have := hZ (by omega)
        rw [if_neg g, if_neg (by omega)]; omega
    rw [← hz _ c2]
theorem qr_ins_B {n : Nat} {i d bi bd : Nat → Nat} {od dp po b c po' : Nat → Int32} {t s w : Nat} (B : qr_B n i d od dp po) (ht : t < n) (hs : qt_Sp n d t s) (hB : qt_B w bd (d t + 1)) (hn : n + w ≤ 40)
    (hb : ∀ k, k < w → b k = nI (bi k) ∧ bi k < 40) (hc : ∀ k, k < w → c k = nI (bd k)) (inb : ∀ k l, k < w → l < w → bi k = bi l → k = l) (dis : ∀ r k, r < n → k < w → i r ≠ bi k)
    (q0 : po' 0 = -1) (q1 : ∀ r, 0 < r → r < n → po' (i r) = po (i r)) (q2 : po' (bi 0) = nI (i t)) (q3 : ∀ k, 0 < k → k < w → ∃ q, qt_PA bd q k ∧ po' (bi k) = nI (bi q)) :
    qr_B (n + w) (qt_ins i s w bi) (qt_ins d s w bd) (qa_pu (qa_og od s n w) s b w) (qa_pu (qa_og dp s n w) s c w) po' := by
  obtain ⟨⟨n0, n1⟩, hi, hi0, inj, D, hd, po0, hpo⟩ := B
  obtain ⟨e1, e2, e3, e4⟩ := qt_en_spec (n := n) (d := d) ht
  have s1 := hs.1
  have s2 := hs.2.1
  have w0 := hB.1
  have D' := qt_ins_D D ht hs hB
  refine ⟨⟨by omega, by omega⟩, fun r hr => ⟨qa_ins (by omega) (fun x hx => (hi x hx).1) (fun k hk => (hb k hk).1) r hr, ?_⟩, by rw [qt_ins_lo (by omega)]; exact hi0, ?_, D', fun r hr => ⟨qa_ins (by omega) (fun x hx => (hd x hx).1) hc r hr, ?_⟩, q0, ?_⟩
  · by_cases g1 : r < s
    · rw [qt_ins_lo g1]; exact (hi r (by omega)).2
    · by_cases g2 : r < s + w
      · rw [qt_ins_in (by omega) g2]; exact (hb _ (by omega)).2
      · rw [qt_ins_hi (by omega)]; exact (hi _ (by omega)).2
  · intro x y hx hy e
    by_cases g1 : x < s
    · rw [qt_ins_lo g1] at e
      by_cases k1 : y < s
      · rw [qt_ins_lo k1] at e; exact inj x y (by omega) (by omega) e
      · by_cases k2 : y < s + w
        · rw [qt_ins_in (by omega) k2] at e; exact absurd e (dis x (y - s) (by omega) (by omega))
        · rw [qt_ins_hi (by omega)] at e; have := inj x (y - w) (by omega) (by omega) e; omega
    · by_cases g2 : x < s + w
      · rw [qt_ins_in (by omega) g2] at e
        by_cases k1 : y < s
        · rw [qt_ins_lo k1] at e; exact absurd e.symm (dis y (x - s) (by omega) (by omega))
        · by_cases k2 : y < s + w
          · rw [qt_ins_in (by omega) k2] at e; have := inb (x - s) (y - s) (by omega) (by omega) e; omega
          · rw [qt_ins_hi (by omega)] at e; exact absurd e.symm (dis (y - w) (x - s) (by omega) (by omega))
      · rw [qt_ins_hi (by omega)] at e
        by_cases k1 : y < s
        · rw [qt_ins_lo k1] at e; have := inj (x - w) y (by omega) (by omega) e; omega
        · by_cases k2 : y < s + w
          · rw [qt_ins_in (by omega) k2] at e; exact absurd e (dis (x - w) (y - s) (by omega) (by omega))
          · rw [qt_ins_hi (by omega)] at e; have := inj (x - w) (y - w) (by omega) (by omega) e; omega
  · have := qt_D_le D' r hr; omega
  · intro r hr0 hr
    by_cases g1 : r < s
    · have pa := qt_pr_spec D hr0 (show r < n by omega)
      have := pa.1
      rw [qt_pr_eq (qt_ins_PA_lo (n := n) g1 pa), qt_ins_lo g1, qt_ins_lo (by omega), q1 r hr0 (by omega)]; exact hpo r hr0 (by omega)
    · by_cases g2 : r = s
      · rw [g2, qt_pr_eq (qt_ins_PA_at ht hs hB), qt_ins_in (Nat.le_refl _) (by omega), Nat.sub_self, qt_ins_lo s1]; exact q2
      · by_cases g3 : r < s + w
        · obtain ⟨k, rfl⟩ : ∃ k, r = s + k := ⟨r - s, by omega⟩
          obtain ⟨q, pa, eq⟩ := q3 k (by omega) (by omega)
          have := pa.1
          rw [qt_pr_eq (qt_ins_PA_in (by omega) pa), qt_ins_in (by omega) g3, qt_ins_in (by omega) (by omega), Nat.add_sub_cancel_left, Nat.add_sub_cancel_left]; exact eq
        · obtain ⟨x, rfl⟩ : ∃ x, r = x + w := ⟨r - w, by omega⟩
          have pa := qt_pr_spec D (show 0 < x by omega) (show x < n by omega)
          have := pa.1
          rw [qt_pr_eq (qt_ins_PA_hi ht hs hB (by omega) (by omega) pa), qt_ins_hi (by omega), Nat.add_sub_cancel, q1 x (by omega) (by omega), hpo x (by omega) (by omega)]
          by_cases k : qt_pr d x < s
          · rw [if_pos k, qt_ins_lo k]
          · rw [if_neg k, qt_ins_hi (by omega), Nat.add_sub_cancel]
/-! insert -/
section
variable {ymo : Int32} {yn : Int32} {yw : Int32} {yle : Int32} {yfo : Int32} {yli : Int32} {yat : Int32} {ysu : Int64} {yid : (Nat → Int32)} {ydp : (Nat → Int32)} {ynm : (Nat → Int32)} {yvl : (Nat → Int32)} {yci : (Nat → Int32)} {ycd : (Nat → Int32)} {ypd : (Nat → Int32)} {yqu : (Nat → Int32)} {ygv : (Nat → Int64)} {yls : (Nat → Int32)} {yrs : (Nat → Int32)} {yor : (Nat → Int32)} {yan : (Nat → Int32)} {yno : (Nat → Int32)} {yow : (Nat → Int32)} {ypa : (Nat → Int32)}
theorem qy_ins {n r m j : Nat} {i d : Nat → Nat} {po : Nat → Int32} {nv vv : Int32} {post : Int32 → SY → Prop} (B : qr_B n i d yid ydp po) (hr : r < n) (hm : m < 2 ^ 31) (hn : n < 40) (hj : qt_LF n i j)
    (h : ∀ s, qt_Spot n d r m s → post (nI j) (ymo, nI (n + 1), yw, yle, yfo, yli, yat, ysu, qa_pu (qa_og yid s n 1) s (upd yci 0 (nI j)) 1, qa_pu (qa_og ydp s n 1) s (fun k => upd ycd 0 (nI (d r + 1)) k + 0) 1, upd ynm j nv, upd yvl j vv, upd yci 0 (nI j), upd ycd 0 (nI (d r + 1)), ypd, yqu, ygv, yls, yrs, yor, yan, yno, yow, ypa)) :
    ∃ f, wY_insert_55 post (nI m) nv vv (nI r) ymo (nI n) yw yle yfo yli yat ysu yid ydp ynm yvl yci ycd ypd yqu ygv yls yrs yor yan yno yow ypa f 0 := by
  have hi := B.2.1
  have hd := B.2.2.2.2.2.1
  obtain ⟨j1, j2, j3⟩ := hj
  have key : ∀ k x, x + k = j → wY_insert_55 post (nI m) nv vv (nI r) ymo (nI n) yw yle yfo yli yat ysu yid ydp ynm yvl yci ycd ypd yqu ygv yls yrs yor yan yno yow ypa (k + 1) (nI x) := by
    intro k
    induction k with
    | zero =>
      intro x e
      have e : x = j := by omega
      subst e
      have i1 : vp_in (nI x) 40 := vp_in_nI j1 (by omega)
      unfold wY_insert_55
      refine qr_mY B (fun r hr e => j2 r hr ((nI_eq (by have := (hi r hr).2; omega) (by omega)).mp e)) ?_
      refine br_t (by decide) ⟨i1, fun a ea => ⟨i1, fun b eb c ec => ⟨vp_in_nI (by omega) (by omega), fun e ee => ?_⟩⟩⟩
      rw [nI_clamp (by omega)] at ea eb ee
      rw [(hd r hr).1, nI_1] at ee
      subst ea; subst eb; subst ec; subst ee
      refine qy_cp (by omega) hr hm hd (fun s hs => ?_)
      have sp := qt_Spot_Sp hr hs
      have he := (qt_en_spec (n := n) (d := d) hr).2.1
      have := sp.1
      have := sp.2.1
      exact qy_paste (w := 1) (by omega) (by omega) (by omega) (by omega) (h s hs)
    | succ k ih =>
      intro x e
      obtain ⟨r', hr', er⟩ := j3 x (by omega)
      unfold wY_insert_55
      rw [← er]
      refine qr_hY B hr' (br_f (nI_pos (by omega)) ?_)
      rw [er]
      exact nm_r (nI_1 x) (ih (x + 1) (by omega))
  exact ⟨_, key j 0 (by omega)⟩
end
theorem i_vc_insert {k : Nat} {u : SX} {v : SY} (I : i_Rel k u v) (hk : k + 5 ≤ 2561) (v1 : Int32) (v2 : Int32) (v3 : Int32) (v4 : Int32) : wpX_insert (fun r u' => wpY_insert (fun r' v' => r' = r ∧ i_Rel (k + 5) u' v') v v1 v2 v3 v4) u v1 v2 v3 v4 := by
  have I0 := I
  obtain ⟨L, n, w, len, fd, i, d, xlv, xop, sm, id, po, nm, vl, mv, rk, pt, sz, pd, xpa, xct, qx, co, se, pe, xgv, xan, xal, xng, rs, yli, yat, dp, yci, ycd, qy, ygv, yls, yor, yan, yno, yow, ypa, rfl, rfl, hL, hw, hf, B, N, Q⟩ := I
  have hn := B.1.2
  have hd := B.2.2.2.2.2.1
  unfold wpX_insert wpY_insert
  dsimp only
  rcases qr_node (n := n) i v1 with ⟨r, hr, rfl⟩ | hm
  · refine qr_hX B N hr (br_f (by decide) ?_)
    refine qx_nm (fun ⟨m, hm, em⟩ => ?_) (fun hm => ?_)
    · subst em
      refine br_f (by decide) ?_
      by_cases h0 : v2 < 0
      · exact br_t h0 (qr_hY B hr (br_f (nI_pos (by omega)) (br_f (nI_pos (by omega)) (br_f (nI_nlt (a := 7) (by omega) (by omega)) (br_t h0 ⟨rfl, I0⟩)))))
      · obtain ⟨pl, hpl, rfl⟩ := nI_of h0
        have hc := qt_cn_le (qt_ch n d r) n
        refine br_f h0 (qx_cc B hr ?_)
        refine pk_le pl (qt_cn (qt_ch n d r) n) (fun g => ?_) (fun g => ?_)
        · refine pk_lt n L (fun gl => ?_) (fun gl => ?_)
          · obtain ⟨j, hj⟩ := qt_LF_ex (n := n) (i := i) (by omega)
            refine qx_lf N hn hj (qx_sp B N hr hpl (fun s hs => ?_))
            have sp := qt_Spot_Sp hr hs
            have he := (qt_en_spec (n := n) (d := d) hr).2.1
            have s1 := sp.1
            have s2 := sp.2.1
            have ij : vp_in (nI j) 40 := vp_in_nI hj.1 (by omega)
            refine qx_og (w := 1) (by omega) (by omega) (by omega) (by omega) ⟨vp_in_nI (by omega) (by omega), fun a ea => ⟨ij, fun b eb => ⟨ij, fun c ec => ⟨ij, fun e ee => ?_⟩⟩⟩⟩
            rw [nI_clamp (by have := hj.1; omega)] at ea eb ec ee
            have ea2 : a = qa_pu (qa_og id s n 1) s (upd yci 0 (nI j)) 1 := by rw [qa_pu_1]; exact ea
            have B' : qr_B (n + 1) (qt_ins i s 1 (fun _ => j)) (qt_ins d s 1 (fun _ => d r + 1)) (qa_pu (qa_og id s n 1) s (upd yci 0 (nI j)) 1) (qa_pu (qa_og dp s n 1) s (fun k => upd ycd 0 (nI (d r + 1)) k + 0) 1) b := by
              refine qr_ins_B B hr sp ⟨by omega, rfl, fun k h1 h2 => by omega⟩ (by omega) (fun k hk => ?_) (fun k hk => ?_) (fun k l h1 h2 _ => by omega) (fun x k hx _ => hj.2.1 x hx) ?_ (fun x hx0 hx => ?_) ?_ (fun k h1 h2 => by omega)
              · have : k = 0 := by omega
                subst this; exact ⟨pk_us, hj.1⟩
              · have : k = 0 := by omega
                subst this
                show upd ycd 0 (nI (d r + 1)) 0 + 0 = nI (d r + 1)
                rw [pk_us, Int32.add_zero]
              · rw [eb, pk_un]
                · exact B.2.2.2.2.2.2.1
                · intro z; exact hj.2.1 0 B.1.1 (by rw [B.2.2.1]; exact z)
              · rw [eb, pk_un (hj.2.1 x hx)]
              · rw [eb, pk_us]
            subst ea2; subst eb; subst ec; subst ee
            refine qx_ns B' (fun rk' pt' sz' N' => ?_)
            refine qr_hY B hr (br_f (nI_pos (by omega)) (br_f (nI_pos (by omega)) (br_f (nI_nlt (a := 7) (by omega) (by omega)) (br_f h0 (qy_cc hn hr hd (br_t (nI_le g (by omega)) (br_f (fun z => ?_) ?_)))))))
            · have := (nI_eq (by omega) (by omega)).mp z; omega
            · refine qy_ins B hr hpl (by omega) hj (fun s' hs' => ?_)
              have := qt_Spot_uniq hs' hs
              subst this
              exact ⟨rfl, qr_mk ⟨hL.1, hL.2.1, by omega⟩ hw hf B' N' Q⟩
          · refine qr_hY B hr (br_f (nI_pos (by omega)) (br_f (nI_pos (by omega)) (br_f (nI_nlt (a := 7) (by omega) (by omega)) (br_f h0 (qy_cc hn hr hd (br_t (nI_le g (by omega)) (br_t ?_ ⟨rfl, I0⟩)))))))
            rw [show n = L by omega]
        · exact qr_hY B hr (br_f (nI_pos (by omega)) (br_f (nI_pos (by omega)) (br_f (nI_nlt (a := 7) (by omega) (by omega)) (br_f h0 (qy_cc hn hr hd (br_f (nI_ge g (by omega)) ⟨rfl, I0⟩))))))
    · refine br_t (by decide) (qr_hY B hr (br_f (nI_pos (by omega)) ?_))
      refine br_c (fun g => ⟨rfl, I0⟩) (fun g => br_t ?_ ⟨rfl, I0⟩)
      refine Int32.not_le.mp (fun g2 => hm ?_)
      obtain ⟨m, h1, h2⟩ := nI_of2 (n := 7) (by decide) g g2
      exact ⟨m, by omega, h2⟩
  · exact qr_mX N hm (br_t (by decide) (qr_mY B hm (br_t (by decide) ⟨rfl, I0⟩)))
theorem i_vc_remove {k : Nat} {u : SX} {v : SY} (I : i_Rel k u v) (hk : k + 5 ≤ 2561) (v1 : Int32) : wpX_remove (fun r u' => wpY_remove (fun r' v' => r' = r ∧ i_Rel (k + 5) u' v') v v1) u v1 := by
  have I0 := I
  obtain ⟨L, n, w, len, fd, i, d, xlv, xop, sm, id, po, nm, vl, mv, rk, pt, sz, pd, xpa, xct, qx, co, se, pe, xgv, xan, xal, xng, rs, yli, yat, dp, yci, ycd, qy, ygv, yls, yor, yan, yno, yow, ypa, rfl, rfl, hL, hw, hf, B, N, Q⟩ := I
  have hn := B.1.2
  have hd := B.2.2.2.2.2.1
  unfold wpX_remove wpY_remove
  dsimp only
  rcases qr_node (n := n) i v1 with ⟨r, hr, rfl⟩ | hm
  · refine qr_hX B N hr (br_f (by decide) ?_)
    have hir := (B.2.1 r hr).2
    obtain ⟨e1, e2, e3, e4⟩ := qt_en_spec (n := n) (d := d) hr
    by_cases e : r = 0
    · refine br_t ((qr_root B hr).mpr e) (qr_hY B hr (br_f ?_ ⟨rfl, I0⟩))
      rw [e]; decide
    · have hw' : r + (qt_en n d r - r) = qt_en n d r := by omega
      have B' := qr_cut_B B (by omega) hr hw'
      refine br_f (fun z => e ((qr_root B hr).mp z)) ⟨vp_in_nI hir (by omega), nm_r (e' := nI r) (by rw [nI_clamp (by omega), N.1 r hr]) ⟨vp_in_nI (by omega) (by omega), nm_r (e' := nI (qt_en n d r - r)) (by rw [nI_clamp (by omega), N.2.2.2.2 r hr]) ?_⟩⟩
      refine qx_cg hn (by omega) (qx_ns B' (fun rk' pt' sz' N' => ?_))
      refine qr_hY B hr (br_t (nI_lt (a := 0) (by omega) (by omega)) (qy_bh hn hr hd (nm_r (pk_sub (by omega)) ?_)))
      exact qy_cut hn (by omega) ⟨rfl, qr_mk ⟨hL.1, hL.2.1, by omega⟩ hw hf B' N' Q⟩
  · exact qr_mX N hm (br_t (by decide) (qr_mY B hm (br_f (by decide) ⟨rfl, I0⟩)))
end
section
/-! move -/
section
variable {xlim : Int32} {xn : Int32} {xpc : Int32} {xlv : Int32} {xop : Int32} {xql : Int32} {xrc : Int32} {xrt : Int64} {xod : (Nat → Int32)} {xpo : (Nat → Int32)} {xnm : (Nat → Int32)} {xvl : (Nat → Int32)} {xmv : (Nat → Int32)} {xrk : (Nat → Int32)} {xpt : (Nat → Int32)} {xsz : (Nat → Int32)} {xpd : (Nat → Int32)} {xpa : (Nat → Int32)} {xct : (Nat → Int32)} {xqu : (Nat → Int32)} {xco : (Nat → Int32)} {xse : (Nat → Int32)} {xpe : (Nat → Int32)} {xgv : (Nat → Int64)} {xan : (Nat → Int64)} {xal : (Nat → Int64)} {xng : (Nat → Int32)} {xrs : (Nat → Int32)}
theorem qx_m96 {n s w : Nat} {x1 x2 : Int32} {j : Nat} {post : Int32 → SX → Prop} (hw : s + w ≤ 40) (hx : x1 = nI j) (hj : j < 40) (h : wpX_noteShape (fun u => match u with | (xlim, xn, xpc, xlv, xop, xql, xrc, xrt, xod, xpo, xnm, xvl, xmv, xrk, xpt, xsz, xpd, xpa, xct, xqu, xco, xse, xpe, xgv, xan, xal, xng, xrs) => post (nI s) (xlim, xn, xpc, xlv, xop, xql, xrc, xrt, xod, xpo, xnm, xvl, xmv, xrk, xpt, xsz, xpd, xpa, xct, xqu, xco, xse, xpe, xgv, xan, xal, xng, xrs)) (xlim, xn, xpc, xlv, xop, xql, xrc, xrt, qa_pu xod s xmv w, upd xpo j x2, xnm, xvl, xmv, xrk, xpt, xsz, xpd, xpa, xct, xqu, xco, xse, xpe, xgv, xan, xal, xng, xrs)) : ∃ f, wX_move_96 post x1 x2 (nI w) (nI s) xlim xn xpc xlv xop xql xrc xrt f 0 xod xpo xnm xvl xmv xrk xpt xsz xpd xpa xct xqu xco xse xpe xgv xan xal xng xrs := by
  subst hx
  have key : ∀ k r, r + k = w → wX_move_96 post (nI j) x2 (nI w) (nI s) xlim xn xpc xlv xop xql xrc xrt (k + 1) (nI r) (qa_pu xod s xmv r) xpo xnm xvl xmv xrk xpt xsz xpd xpa xct xqu xco xse xpe xgv xan xal xng xrs := by
    intro k
    induction k with
    | zero =>
      intro r e
      have e : r = w := by omega
      subst e
      refine br_t (nI_le (by omega) (by omega)) ⟨vp_in_nI hj (by omega), fun a ea => ?_⟩
      rw [nI_clamp (by omega)] at ea
      subst ea
      exact h
    | succ k ih =>
      intro r e
      have e1 : nI s + nI r = nI (s + r) := nI_add s r
      have i1 : vp_in (nI s + nI r) 40 := by rw [e1]; exact vp_in_nI (by omega) (by omega)
      have i2 : vp_in (nI r) 40 := vp_in_nI (by omega) (by omega)
      refine br_f (nI_ge (by omega) (by omega)) ⟨i2, i1, fun a ea y ey => ?_⟩
      rw [e1, nI_clamp (by omega), nI_clamp (by omega), qa_pu_s] at ea
      subst ea; subst ey
      rw [nI_1]
      exact ih (r + 1) (by omega)
  have c := key w 0 (by omega)
  rw [qa_pu_0] at c
  exact ⟨_, c⟩
theorem qx_is {n r t : Nat} {i d : Nat → Nat} {od dp po rk pt sz : Nat → Int32} {post : Int32 → Prop} (B : qr_B n i d od dp po) (N : qr_N n i d rk pt sz) (hr : r < n) (ht : t < n) (h : post (qa_b (decide (r ≤ t ∧ t < qt_en n d r)))) : wpX_isInSubtree post (xlim, nI n, xpc, xlv, xop, xql, xrc, xrt, od, po, xnm, xvl, xmv, rk, pt, sz, xpd, xpa, xct, xqu, xco, xse, xpe, xgv, xan, xal, xng, xrs) (nI (i t)) (nI (i r)) := by
  have hn := B.1.2
  have hir := (B.2.1 r hr).2
  have hit := (B.2.1 t ht).2
  obtain ⟨e1, e2, e3, e4⟩ := qt_en_spec (n := n) (d := d) hr
  refine And.intro (vp_in_nI hir (by omega)) (nm_r (e' := nI r) (by rw [nI_clamp (by omega), N.1 r hr]) ⟨vp_in_nI hit (by omega), ?_⟩)
  rw [nI_clamp (n := i t) (by omega), N.1 t ht]
  refine pk_lt t r (fun g => ?_) (fun g => ⟨vp_in_nI hit (by omega), vp_in_nI (by omega) (by omega), ?_⟩)
  · rw [decide_eq_false (by omega)] at h; exact h
  · rw [nI_clamp (n := r) (by omega), N.2.2.2.2 r hr, nI_add, show r + (qt_en n d r - r) = qt_en n d r by omega]
    refine pk_le (qt_en n d r) t (fun g2 => ?_) (fun g2 => ?_)
    · rw [decide_eq_false (by omega)] at h; exact h
    · rw [decide_eq_true (by omega)] at h; exact h
end
theorem qm_dl {a b c : Nat} (h : c ≤ a) : nI a + ((nI b + 1) - nI c) = nI (a + (b + 1) - c) := by
  obtain ⟨e, rfl⟩ : ∃ e, a = c + e := ⟨a - c, by omega⟩
  rw [show c + e + (b + 1) - c = e + (b + 1) by omega, ← nI_add c e, ← nI_add e (b + 1), ← nI_1]
  generalize nI c = x
  generalize nI e = y
  generalize nI b = z
  grind
/-- what is the same on both sides once the move is allowed: the tree without the node, and with it put in again -/
theorem qr_move {n r t w : Nat} {i d : Nat → Nat} {id dp po : Nat → Int32} (B : qr_B n i d id dp po) (hr0 : 0 < r) (hr : r < n) (ht : t < n) (hw : r + w = qt_en n d r) (out : ¬ (r ≤ t ∧ t < qt_en n d r)) :
    ∃ t1, t1 < n - w ∧ qt_cut i r w t1 = i t ∧
    ∀ s, qt_Sp (n - w) (qt_cut d r w) t1 s → ∀ b c : Nat → Int32, (∀ k, k < w → b k = id (r + k)) → (∀ k, k < w → c k = dp (r + k) + ((nI (qt_cut d r w t1) + 1) - nI (d r))) →
      qr_B n (qt_ins (qt_cut i r w) s w (fun k => i (r + k))) (qt_ins (qt_cut d r w) s w (fun k => d (r + k) + (qt_cut d r w t1 + 1) - d r)) (qa_pu (qa_og (qa_cl id r (n - w) w) s (n - w) w) s b w) (qa_pu (qa_og (qa_cl dp r (n - w) w) s (n - w) w) s c w) (upd po (i r) (nI (i t))) := by
  obtain ⟨e1, e2, e3, e4⟩ := qt_en_spec (n := n) (d := d) hr
  have B1 := qr_cut_B B hr0 hr hw
  obtain ⟨⟨n0, n1⟩, hi, hi0, inj, D, hd, po0, hpo⟩ := B
  have hdr : ∀ k, k < w → d r ≤ d (r + k) := by
    intro k hk
    by_cases g : k = 0
    · rw [g]; exact Nat.le_refl _
    · have := e3 (r + k) (by omega) (by omega); omega
  refine ⟨if t < r then t else t - w, by split <;> omega, ?_, ?_⟩
  · by_cases g : t < r
    · rw [if_pos g, qt_cut_lo g]
    · rw [if_neg g, qt_cut_hi (by omega), show t - w + w = t by omega]
  · intro s hs b c hb hc
    have et : qt_cut i r w (if t < r then t else t - w) = i t := by
      by_cases g : t < r
      · rw [if_pos g, qt_cut_lo g]
      · rw [if_neg g, qt_cut_hi (by omega), show t - w + w = t by omega]
    have ht1 : (if t < r then t else t - w) < n - w := by split <;> omega
    generalize (if t < r then t else t - w) = t1 at hs hc et ht1 ⊢
    have ci : ∀ x, x < n - w → ∃ y, y < n ∧ qt_cut i r w x = i y ∧ (y < r ∨ r + w ≤ y) := by
      intro x hx
      by_cases g : x < r
      · exact ⟨x, by omega, qt_cut_lo g, by omega⟩
      · exact ⟨x + w, by omega, qt_cut_hi (by omega), by omega⟩
    have hir := hi r hr
    have c1 := qr_ins_B (w := w) (bi := fun k => i (r + k)) (bd := fun k => d (r + k) + (qt_cut d r w t1 + 1) - d r) (b := b) (c := c) (po' := upd po (i r) (nI (i t))) B1 ht1 hs
      ⟨by omega, by show d (r + 0) + (qt_cut d r w t1 + 1) - d r = _; rw [Nat.add_zero]; omega, fun k h1 h2 => by
        have a1 := e3 (r + k) (by omega) (by omega)
        have a2 := (D.2 (r + k) (by omega) (by omega)).2
        have a3 := hdr (k - 1) (by omega)
        rw [show r + k - 1 = r + (k - 1) by omega] at a2
        exact ⟨by show _ < d (r + k) + (qt_cut d r w t1 + 1) - d r; omega, by show d (r + k) + (qt_cut d r w t1 + 1) - d r ≤ d (r + (k - 1)) + (qt_cut d r w t1 + 1) - d r + 1; omega⟩⟩
      (by omega) (fun k hk => ⟨by rw [hb k hk]; exact (hi _ (by omega)).1, (hi _ (by omega)).2⟩)
      (fun k hk => by rw [hc k hk, (hd _ (show r + k < n by omega)).1]; exact qm_dl (hdr k hk))
      (fun k l hk hl e => by have := inj _ _ (show r + k < n by omega) (show r + l < n by omega) e; omega)
      (fun x k hx hk e => by
        obtain ⟨y, hy, ey, hyr⟩ := ci x hx
        rw [ey] at e
        have := inj _ _ hy (show r + k < n by omega) e
        omega)
      (by rw [pk_un]
          · exact po0
          · intro z
            have := inj 0 r (by omega) hr (by rw [hi0]; exact z)
            omega)
      (fun x hx0 hx => by
        obtain ⟨y, hy, ey, hyr⟩ := ci x hx
        rw [ey, pk_un]
        intro z
        have := inj _ _ hy hr z
        omega)
      (by show upd po (i r) (nI (i t)) (i (r + 0)) = _
          rw [Nat.add_zero, pk_us, et])
      (fun k hk0 hk => by
        have hk2 : r + k < n := by omega
        have pa := qt_pr_spec D (show 0 < r + k by omega) hk2
        have a1 := e3 (r + k) (by omega) (by omega)
        have ge : r ≤ qt_pr d (r + k) := by
          refine Nat.le_of_not_lt (fun g => ?_)
          have := pa.2.2 r g (by omega)
          omega
        obtain ⟨p1, p2, p3⟩ := pa
        refine ⟨qt_pr d (r + k) - r, ⟨by omega, ?_, fun x hx hy => ?_⟩, ?_⟩
        · show d (r + (qt_pr d (r + k) - r)) + (qt_cut d r w t1 + 1) - d r < d (r + k) + (qt_cut d r w t1 + 1) - d r
          rw [show r + (qt_pr d (r + k) - r) = qt_pr d (r + k) by omega]; omega
        · show d (r + k) + (qt_cut d r w t1 + 1) - d r ≤ d (r + x) + (qt_cut d r w t1 + 1) - d r
          have := p3 (r + x) (by omega) (by omega)
          omega
        · show upd po (i r) (nI (i t)) (i (r + k)) = nI (i (r + (qt_pr d (r + k) - r)))
          rw [show r + (qt_pr d (r + k) - r) = qt_pr d (r + k) by omega, pk_un, hpo _ (by omega) hk2]
          intro z
          have := inj _ _ hk2 hr z
          omega)
    rw [show n - w + w = n by omega] at c1
    exact c1
section
variable {xlim : Int32} {xn : Int32} {xpc : Int32} {xlv : Int32} {xop : Int32} {xql : Int32} {xrc : Int32} {xrt : Int64} {xod : (Nat → Int32)} {xpo : (Nat → Int32)} {xnm : (Nat → Int32)} {xvl : (Nat → Int32)} {xmv : (Nat → Int32)} {xrk : (Nat → Int32)} {xpt : (Nat → Int32)} {xsz : (Nat → Int32)} {xpd : (Nat → Int32)} {xpa : (Nat → Int32)} {xct : (Nat → Int32)} {xqu : (Nat → Int32)} {xco : (Nat → Int32)} {xse : (Nat → Int32)} {xpe : (Nat → Int32)} {xgv : (Nat → Int64)} {xan : (Nat → Int64)} {xal : (Nat → Int64)} {xng : (Nat → Int32)} {xrs : (Nat → Int32)} {ymo : Int32} {yn : Int32} {yw : Int32} {yle : Int32} {yfo : Int32} {yli : Int32} {yat : Int32} {ysu : Int64} {yid : (Nat → Int32)} {ydp : (Nat → Int32)} {ynm : (Nat → Int32)} {yvl : (Nat → Int32)} {yci : (Nat → Int32)} {ycd : (Nat → Int32)} {ypd : (Nat → Int32)} {yqu : (Nat → Int32)} {ygv : (Nat → Int64)} {yls : (Nat → Int32)} {yrs : (Nat → Int32)} {yor : (Nat → Int32)} {yan : (Nat → Int32)} {yno : (Nat → Int32)} {yow : (Nat → Int32)} {ypa : (Nat → Int32)}
theorem qm_go {k L n w len fd : Nat} {i d : Nat → Nat} {xlv xop : Int32} {sm : Int64} {id po nm vl mv rk pt sz pd xpa xct qx co se pe : Nat → Int32} {xgv xan xal : Nat → Int64} {xng rs : Nat → Int32} {yli yat : Int32} {dp yci ycd qy : Nat → Int32} {ygv : Nat → Int64} {yls yor yan yno yow ypa : Nat → Int32}
    (hL : 4 ≤ L ∧ L ≤ 40 ∧ n ≤ L) (hw : w ≤ 40) (hf : fd ≤ 40) (B : qr_B n i d id dp po) (N : qr_N n i d rk pt sz) (Q : qr_Q len qx qy co se pe) {r t : Nat} (hr0 : 0 < r) (hr : r < n) (ht : t < n) (out : ¬ (r ≤ t ∧ t < qt_en n d r)) (v3 z c : Int32) (h0 : ¬ v3 < 0) (h02 : (0 : Int32) ≤ v3) {post : Int32 → SX → Prop}
    (hpost : ∀ r' u', wY_move_70 (fun r'' v' => r'' = r' ∧ i_Rel (k + 5) u' v') (nI (i t)) v3 (nI r) z c (nI L) (nI n) (nI w) (nI len) (nI fd) yli yat sm id dp nm vl yci ycd pd qy ygv yls rs yor yan yno yow ypa → post r' u') :
    wX_move_51 post (nI (i r)) (nI (i t)) v3 z c (nI L) (nI n) (nI w) xlv xop (nI len) (nI fd) sm id po nm vl mv rk pt sz pd xpa xct qx co se pe xgv xan xal xng rs := by
  have hn := B.1.2
  have hd := B.2.2.2.2.2.1
  have hir := (B.2.1 r hr).2
  obtain ⟨e1, e2, e3, e4⟩ := qt_en_spec (n := n) (d := d) hr
  obtain ⟨wd, hwd⟩ : ∃ wd, r + wd = qt_en n d r := ⟨qt_en n d r - r, by omega⟩
  have I0 : i_Rel (k + 5) (nI L, nI n, nI w, xlv, xop, nI len, nI fd, sm, id, po, nm, vl, mv, rk, pt, sz, pd, xpa, xct, qx, co, se, pe, xgv, xan, xal, xng, rs) (nI L, nI n, nI w, nI len, nI fd, yli, yat, sm, id, dp, nm, vl, yci, ycd, pd, qy, ygv, yls, rs, yor, yan, yno, yow, ypa) := qr_mk hL hw hf B N Q
  intro x4 ex4
  refine br_f h0 ?_
  by_cases g : v3 ≤ x4
  · refine br_t g ?_
    obtain ⟨m, hm, rfl⟩ := nI_of h0
    obtain ⟨t1, t1n, et1, MV⟩ := qr_move B hr0 hr ht hwd out
    have B1 := qr_cut_B B hr0 hr hwd
    refine qx_to (w := wd) hn (by omega) hr hir (N.1 r hr) (by rw [N.2.2.2.2 r hr, show qt_en n d r - r = wd by omega]) ?_
    refine qx_ns B1 (fun rk1 pt1 sz1 N1 => ?_)
    rw [← et1]
    refine qx_sp B1 N1 t1n hm (fun s hs => ?_)
    have sp := qt_Spot_Sp t1n hs
    have he := (qt_en_spec (n := n - wd) (d := qt_cut d r wd) t1n).2.1
    have s1 := sp.1
    have s2 := sp.2.1
    refine qx_og (by omega) (by omega) (by omega) (by omega) ?_
    rw [show n - wd + wd = n by omega]
    refine qx_m96 (n := n) (by omega) rfl hir ?_
    rw [et1]
    have hb : ∀ (f : Nat → Int32) k, k < wd → qa_bl f id r wd k = id (r + k) := fun f k hk => by unfold qa_bl; rw [if_pos hk]
    have hc : ∀ (f : Nat → Int32) k, k < wd → qa_bl f dp r wd k = dp (r + k) := fun f k hk => by unfold qa_bl; rw [if_pos hk]
    have B2 := MV s sp (qa_bl yci id r wd) (fun k => qa_bl ycd dp r wd k + ((nI (qt_cut d r wd t1) + 1) - nI (d r))) (hb yci) (fun k hk => by rw [← hc ycd k hk])
    rw [qa_pu_c (b' := qa_bl yci id r wd) (fun k hk => by rw [hb _ k hk, hb _ k hk])]
    refine qx_ns B2 (fun rk2 pt2 sz2 N2 => ?_)
    refine hpost _ _ ?_
    have hd1 := B1.2.2.2.2.2.1
    refine nm_r (ex4.symm) (br_t g (qy_bh hn hr hd (nm_r (e' := nI wd) (by rw [pk_sub (by omega), show qt_en n d r - r = wd by omega]) ⟨vp_in_nI (by omega) (by omega), nm_r (e' := nI (d r)) (by rw [nI_clamp (by omega)]; exact (hd r hr).1) ?_⟩)))
    refine qy_cut hn (by omega) ?_
    rw [← et1]
    refine qr_hY B1 t1n (qy_cp (by omega) t1n hm hd1 (fun s' hs' => ⟨vp_in_nI (by omega) (by omega), ?_⟩))
    have := qt_Spot_uniq hs' hs
    subst this
    rw [nI_clamp (n := t1) (by omega), (hd1 t1 t1n).1]
    refine qy_paste (n := n - wd) (by omega) (by omega) (by omega) (by omega) ?_
    rw [show n - wd + wd = n by omega]
    rw [et1] at *
    exact ⟨rfl, qr_mk hL hw hf B2 N2 Q⟩
  · refine br_f g ?_
    refine hpost _ _ ?_
    exact nm_r (ex4.symm) (br_f g ⟨rfl, I0⟩)
end
theorem i_vc_move {k : Nat} {u : SX} {v : SY} (I : i_Rel k u v) (hk : k + 5 ≤ 2561) (v1 : Int32) (v2 : Int32) (v3 : Int32) : wpX_move (fun r u' => wpY_move (fun r' v' => r' = r ∧ i_Rel (k + 5) u' v') v v1 v2 v3) u v1 v2 v3 := by
  have I0 := I
  obtain ⟨L, n, w, len, fd, i, d, xlv, xop, sm, id, po, nm, vl, mv, rk, pt, sz, pd, xpa, xct, qx, co, se, pe, xgv, xan, xal, xng, rs, yli, yat, dp, yci, ycd, qy, ygv, yls, yor, yan, yno, yow, ypa, rfl, rfl, hL, hw, hf, B, N, Q⟩ := I
  have hn := B.1.2
  have hd := B.2.2.2.2.2.1
  unfold wpX_move wpY_move
  dsimp only
  rcases qr_node (n := n) i v1 with ⟨r, hr, rfl⟩ | hm
  · refine qr_hX B N hr (br_f (by decide) ?_)
    have hir := (B.2.1 r hr).2
    obtain ⟨e1, e2, e3, e4⟩ := qt_en_spec (n := n) (d := d) hr
    by_cases e : r = 0
    · refine br_t ((qr_root B hr).mpr e) (qr_hY B hr ?_)
      have h0 : nI r ≤ 0 := by rw [e]; decide
      rcases qr_node (n := n) i v2 with ⟨t, ht, rfl⟩ | hm
      · exact qr_hY B ht (br_t h0 ⟨rfl, I0⟩)
      · exact qr_mY B hm (br_t h0 ⟨rfl, I0⟩)
    · refine br_f (fun z => e ((qr_root B hr).mp z)) ?_
      have h0 : ¬ nI r ≤ 0 := nI_nle (by omega) (by omega)
      rcases qr_node (n := n) i v2 with ⟨t, ht, rfl⟩ | hm
      · refine qr_hX B N ht (br_f (by decide) ?_)
        refine qx_is B N hr ht (qa_br (fun ho => ?_) (fun ho => ?_))
        · have out := of_decide_eq_false ho
          have nab : qt_ab n d r t = false := decide_eq_false (by omega)
          have ntr : ¬ nI t = nI r := fun z => by have := (nI_eq (by omega) (by omega)).mp z; omega
          refine qx_cc B ht ⟨vp_in_nI hir (by omega), ?_⟩
          rw [nI_clamp (n := i r) (by omega)]
          by_cases h3 : v3 < 0
          · have h32 : ¬ (0 : Int32) ≤ v3 := Int32.not_le.mpr h3
            have c : ∀ post : Int32 → SX → Prop, ∀ z c, post (-1) (nI L, nI n, nI w, xlv, xop, nI len, nI fd, sm, id, po, nm, vl, mv, rk, pt, sz, pd, xpa, xct, qx, co, se, pe, xgv, xan, xal, xng, rs) → wX_move_51 post (nI (i r)) (nI (i t)) v3 z c (nI L) (nI n) (nI w) xlv xop (nI len) (nI fd) sm id po nm vl mv rk pt sz pd xpa xct qx co se pe xgv xan xal xng rs := fun post z c hp x ex => br_t h3 hp
            refine br_c (fun _ => c _ _ _ ?_) (fun _ => c _ _ _ ?_)
            · refine qr_hY B hr (qr_hY B ht (br_f h0 (br_f (nI_pos (by omega)) (br_f ntr (qy_ab hn hr ht hd ?_)))))
              rw [nab]; exact br_t (by decide) (br_f h32 ⟨rfl, I0⟩)
            · refine qr_hY B hr (qr_hY B ht (br_f h0 (br_f (nI_pos (by omega)) (br_f ntr (qy_ab hn hr ht hd ?_)))))
              rw [nab]; exact br_t (by decide) (br_f h32 ⟨rfl, I0⟩)
          · have h32 : (0 : Int32) ≤ v3 := Int32.not_lt.mp h3
            refine br_c (fun z => ?_) (fun z => ?_)
            · have z := (qr_ch B ht hr).mp z
              refine qm_go (k := k) (yli := yli) (yat := yat) (yci := yci) (ycd := ycd) (ygv := ygv) (yls := yls) (yor := yor) (yan := yan) (yno := yno) (yow := yow) (ypa := ypa) hL hw hf B N Q (by omega) hr ht out v3 1 (nI (qt_cn (qt_ch n d t) n)) h3 h32 (fun r' u' h => ?_)
              refine qr_hY B hr (qr_hY B ht (br_f h0 (br_f (nI_pos (by omega)) (br_f ntr (qy_ab hn hr ht hd ?_)))))
              rw [nab]
              refine br_t (by decide) (br_t h32 (qy_cc hn ht hd (qy_ch hn ht hr hd ?_)))
              rw [z]
              exact br_f (by decide) h
            · have z : qt_ch n d t r = false := by rw [← Bool.not_eq_true]; exact fun g => z ((qr_ch B ht hr).mpr g)
              refine qm_go (k := k) (yli := yli) (yat := yat) (yci := yci) (ycd := ycd) (ygv := ygv) (yls := yls) (yor := yor) (yan := yan) (yno := yno) (yow := yow) (ypa := ypa) hL hw hf B N Q (by omega) hr ht out v3 0 (nI (qt_cn (qt_ch n d t) n)) h3 h32 (fun r' u' h => ?_)
              refine qr_hY B hr (qr_hY B ht (br_f h0 (br_f (nI_pos (by omega)) (br_f ntr (qy_ab hn hr ht hd ?_)))))
              rw [nab]
              refine br_t (by decide) (br_t h32 (qy_cc hn ht hd (qy_ch hn ht hr hd ?_)))
              rw [z]
              exact br_t (by decide) h
        · have ins := of_decide_eq_true ho
          refine qr_hY B hr (qr_hY B ht (br_f h0 (br_f (nI_pos (by omega)) ?_)))
          refine pk_eq t r (fun g => ⟨rfl, I0⟩) (fun g => ?_)
          refine qy_ab hn hr ht hd ?_
          rw [show qt_ab n d r t = true from decide_eq_true (by omega)]
          exact br_f (by decide) ⟨rfl, I0⟩
      · exact qr_mX N hm (br_t (by decide) (qr_hY B hr (qr_mY B hm (br_f h0 (br_t (by decide) ⟨rfl, I0⟩)))))
  · refine qr_mX N hm (br_t (by decide) (qr_mY B hm ?_))
    rcases qr_node (n := n) i v2 with ⟨t, ht, rfl⟩ | hm
    · exact qr_hY B ht (br_t (by decide) ⟨rfl, I0⟩)
    · exact qr_mY B hm (br_t (by decide) ⟨rfl, I0⟩)
end
section
/-! the grammar's machine: X and Y walk it alike -/
def qc_sm (pa : Nat → Nat) : Nat → Nat
  | 0 => 0
  | l + 1 => qc_sm pa l + pa (l + 1)
theorem qc_sm_c (pa pa' : Nat → Nat) : ∀ l, (∀ j, 1 ≤ j → j ≤ l → pa' j = pa j) → qc_sm pa' l = qc_sm pa l := by
  intro l
  induction l with
  | zero => intro _; rfl
  | succ l ih => intro h; simp only [qc_sm]; rw [ih (fun j h1 h2 => h j h1 (by omega)), h (l + 1) (by omega) (by omega)]
theorem qc_sm_put (pa : Nat → Nat) (l x : Nat) (h : 1 ≤ l) : qc_sm (qc_put pa l x) l + pa l = qc_sm pa l + x := by
  obtain ⟨m, rfl⟩ : ∃ m, l = m + 1 := ⟨l - 1, by omega⟩
  simp only [qc_sm]
  rw [qc_sm_c pa (qc_put pa (m + 1) x) m (fun j h1 h2 => if_neg (by omega))]
  simp only [qc_put, if_true]; omega
theorem qc_sm_ge (pa : Nat → Nat) (l : Nat) (h : 1 ≤ l) : pa l ≤ qc_sm pa l := by
  obtain ⟨m, rfl⟩ : ∃ m, l = m + 1 := ⟨l - 1, by omega⟩
  simp only [qc_sm]; omega
/-- what holds in every state that isn't wrong -/
def qc_W (S : qc_St) : Prop := match S with
  | (s, l, o, pa, _) => 1 ≤ s ∧ s ≤ 7 ∧ l ≤ 3 ∧ o ≤ 4 ∧ o = qc_sm pa l ∧ (4 ≤ s → 1 ≤ l)
theorem qc_put_s {α : Type} {f : Nat → α} {k : Nat} {x : α} : qc_put f k x k = x := if_pos rfl
theorem qc_put_n {α : Type} {f : Nat → α} {k j : Nat} {x : α} (h : j ≠ k) : qc_put f k x j = f j := if_neg h
theorem qc_W_af {l o : Nat} {pa : Nat → Nat} {ct : Nat → Bool} {t : Int32} (h1 : 1 ≤ l) (h2 : l ≤ 3) (h3 : o ≤ 4) (h4 : o = qc_sm pa l) (hz : (qc_af l o pa ct t).1 ≠ 0) : qc_W (qc_af l o pa ct t) := by
  unfold qc_af at hz ⊢
  split
  · exact ⟨by omega, by omega, h2, h3, h4, fun _ => h1⟩
  · split
    · next g =>
      have a := qc_sm_put pa l (pa l - 1) h1
      have b := qc_sm_ge pa l h1
      exact ⟨by omega, by omega, h2, by omega, by omega, fun _ => h1⟩
    · split
      · next g =>
        obtain ⟨m, rfl⟩ : ∃ m, l = m + 1 := ⟨l - 1, by omega⟩
        simp only [qc_sm] at h4
        exact ⟨by omega, by omega, by omega, h3, by simp only [Nat.add_sub_cancel]; omega, fun h => by omega⟩
      · next g1 g2 g3 => simp only [g1, g2, g3, if_false] at hz; exact absurd rfl hz
theorem qc_W_nx {S : qc_St} {t : Int32} (W : qc_W S) (hz : (qc_nx S t).1 ≠ 0) : qc_W (qc_nx S t) := by
  obtain ⟨s, l, o, pa, ct⟩ := S
  obtain ⟨w1, w2, w3, w4, w5, w6⟩ := W
  have hs : s = 1 ∨ s = 2 ∨ s = 3 ∨ s = 4 ∨ s = 5 ∨ s = 6 ∨ s = 7 := by omega
  rcases hs with rfl | rfl | rfl | rfl | rfl | rfl | rfl
  · simp only [qc_nx, if_true] at hz ⊢
    split
    · exact ⟨by omega, by omega, w3, w4, w5, fun h => by omega⟩
    · next g => rw [if_neg g] at hz; exact absurd rfl hz
  · simp only [qc_nx, if_true] at hz ⊢
    simp only [show ¬ (2 : Nat) = 1 by omega, if_false] at hz ⊢
    split
    · exact ⟨by omega, by omega, w3, w4, w5, fun h => by omega⟩
    · next g => rw [if_neg g] at hz; exact absurd rfl hz
  · simp only [qc_nx, if_true, show ¬ (3 : Nat) = 1 by omega, show ¬ (3 : Nat) = 2 by omega, if_false] at hz ⊢
    unfold qc_sp at hz ⊢
    by_cases g1 : qc_ax t = true
    · rw [if_pos g1]; exact ⟨by omega, by omega, w3, w4, w5, fun h => by omega⟩
    · rw [if_neg g1] at hz ⊢
      by_cases g2 : t = 1
      · rw [if_pos g2] at hz ⊢
        by_cases g3 : l < 3
        · rw [if_pos g3]
          refine ⟨by omega, by omega, by omega, w4, ?_, fun _ => by omega⟩
          simp only [qc_sm, qc_put_s]
          rw [qc_sm_c pa _ l (fun j h1 h2 => qc_put_n (by omega))]; omega
        · rw [if_neg g3] at hz; exact absurd rfl hz
      · rw [if_neg g2] at hz ⊢
        by_cases g3 : l = 0
        · rw [if_pos g3] at hz; exact absurd rfl hz
        · rw [if_neg g3] at hz ⊢
          by_cases g4 : ct l = true
          · rw [if_pos g4] at hz ⊢
            by_cases g5 : qc_cp t = true
            · rw [if_pos g5]; exact ⟨by omega, by omega, w3, w4, w5, fun h => by omega⟩
            · rw [if_neg g5] at hz; exact absurd rfl hz
          · rw [if_neg g4] at hz ⊢; exact qc_W_af (by omega) w3 w4 w5 hz
  · simp only [qc_nx, if_true, show ¬ (4 : Nat) = 1 by omega, show ¬ (4 : Nat) = 2 by omega, show ¬ (4 : Nat) = 3 by omega, if_false] at hz ⊢
    have hl := w6 (by omega)
    unfold qc_op at hz ⊢
    by_cases g1 : t = 7
    · rw [if_pos g1]; exact ⟨by omega, by omega, w3, w4, w5, fun h => hl⟩
    · rw [if_neg g1] at hz ⊢
      by_cases g2 : t = 3
      · rw [if_pos g2] at hz ⊢
        by_cases g3 : o < 4
        · rw [if_pos g3]
          have a := qc_sm_put pa l (pa l + 1) hl
          exact ⟨by omega, by omega, w3, by omega, by omega, fun h => hl⟩
        · rw [if_neg g3] at hz; exact absurd rfl hz
      · rw [if_neg g2] at hz ⊢
        by_cases g3 : t = 8 ∨ t = 10
        · rw [if_pos g3]; exact ⟨by omega, by omega, w3, w4, w5, fun h => hl⟩
        · rw [if_neg g3] at hz ⊢
          by_cases g4 : t = 9
          · rw [if_pos g4]; exact ⟨by omega, by omega, w3, w4, w5, fun h => hl⟩
          · rw [if_neg g4] at hz ⊢
            by_cases g5 : t = 11
            · rw [if_pos g5]; exact ⟨by omega, by omega, w3, w4, w5, fun h => hl⟩
            · rw [if_neg g5] at hz ⊢
              by_cases g6 : qc_ax t = true
              · rw [if_pos g6]; exact ⟨by omega, by omega, w3, w4, w5, fun h => hl⟩
              · rw [if_neg g6] at hz; exact absurd rfl hz
  · simp only [qc_nx, if_true, show ¬ (5 : Nat) = 1 by omega, show ¬ (5 : Nat) = 2 by omega, show ¬ (5 : Nat) = 3 by omega, show ¬ (5 : Nat) = 4 by omega, if_false] at hz ⊢
    split
    · exact ⟨by omega, by omega, w3, w4, w5, fun h => w6 (by omega)⟩
    · next g => rw [if_neg g] at hz; exact absurd rfl hz
  · simp only [qc_nx, if_true, show ¬ (6 : Nat) = 1 by omega, show ¬ (6 : Nat) = 2 by omega, show ¬ (6 : Nat) = 3 by omega, show ¬ (6 : Nat) = 4 by omega, show ¬ (6 : Nat) = 5 by omega, if_false] at hz ⊢
    split
    · exact ⟨by omega, by omega, w3, w4, w5, fun h => w6 (by omega)⟩
    · next g => rw [if_neg g] at hz; exact absurd rfl hz
  · simp only [qc_nx, if_true, show ¬ (7 : Nat) = 1 by omega, show ¬ (7 : Nat) = 2 by omega, show ¬ (7 : Nat) = 3 by omega, show ¬ (7 : Nat) = 4 by omega, show ¬ (7 : Nat) = 5 by omega, show ¬ (7 : Nat) = 6 by omega, if_false] at hz ⊢
    exact qc_W_af (w6 (by omega)) w3 w4 w5 hz
theorem qc_W_0 : qc_W (1, 0, 0, (fun _ => 0), (fun _ => false)) := ⟨by omega, by omega, by omega, by omega, rfl, fun h => by omega⟩
theorem qc_nx_1 (l o : Nat) (pa : Nat → Nat) (ct : Nat → Bool) (t : Int32) : qc_nx (1, l, o, pa, ct) t = if qc_ax t = true then (2, l, o, pa, ct) else (0, l, o, pa, ct) := rfl
theorem qc_nx_2 (l o : Nat) (pa : Nat → Nat) (ct : Nat → Bool) (t : Int32) : qc_nx (2, l, o, pa, ct) t = if qc_nm t = true then (3, l, o, pa, ct) else (0, l, o, pa, ct) := rfl
theorem qc_nx_3 (l o : Nat) (pa : Nat → Nat) (ct : Nat → Bool) (t : Int32) : qc_nx (3, l, o, pa, ct) t = qc_sp l o pa ct t := rfl
theorem qc_nx_4 (l o : Nat) (pa : Nat → Nat) (ct : Nat → Bool) (t : Int32) : qc_nx (4, l, o, pa, ct) t = qc_op l o pa ct t := rfl
theorem qc_nx_5 (l o : Nat) (pa : Nat → Nat) (ct : Nat → Bool) (t : Int32) : qc_nx (5, l, o, pa, ct) t = if qc_cp t = true then (6, l, o, pa, ct) else (0, l, o, pa, ct) := rfl
theorem qc_nx_6 (l o : Nat) (pa : Nat → Nat) (ct : Nat → Bool) (t : Int32) : qc_nx (6, l, o, pa, ct) t = if qc_nu t = true then (7, l, o, pa, ct) else (0, l, o, pa, ct) := rfl
theorem qc_nx_7 (l o : Nat) (pa : Nat → Nat) (ct : Nat → Bool) (t : Int32) : qc_nx (7, l, o, pa, ct) t = qc_af l o pa ct t := rfl
/-- the answer of the reading -/
def qc_wp (q : Nat → Int32) : Nat → Nat → Nat
  | 0, i => if (qc_tr q i).1 = 3 ∧ (qc_tr q i).2.1 = 0 then 0 else i + 1
  | f + 1, i => if (qc_tr q (i + 1)).1 = 0 then i + 1 else qc_wp q f (i + 1)
theorem qc_wp_0 (q : Nat → Int32) : ∀ f i, qc_wp q f i = 0 → (qc_tr q (i + f)).1 = 3 ∧ (qc_tr q (i + f)).2.1 = 0 := by
  intro f
  induction f with
  | zero =>
    intro i h
    simp only [qc_wp] at h
    by_cases g : (qc_tr q i).1 = 3 ∧ (qc_tr q i).2.1 = 0
    · exact g
    · rw [if_neg g] at h; omega
  | succ f ih =>
    intro i h
    simp only [qc_wp] at h
    by_cases g : (qc_tr q (i + 1)).1 = 0
    · rw [if_pos g] at h; omega
    · rw [if_neg g] at h
      have := ih (i + 1) h
      rw [show i + (f + 1) = i + 1 + f by omega]; exact this
theorem qc_wp_le (q : Nat → Int32) : ∀ f i, qc_wp q f i ≤ i + f + 1 := by
  intro f
  induction f with
  | zero => intro i; simp only [qc_wp]; split <;> omega
  | succ f ih => intro i; simp only [qc_wp]; have := ih (i + 1); split <;> omega
/-! X's state against it -/
def qc_X (S : qc_St) (lv op : Int32) (xpa xct : Nat → Int32) : Prop := match S with
  | (s, l, o, pa, ct) => lv = nI l ∧ op = nI o ∧ (∀ j, 1 ≤ j → j ≤ l → xpa j = nI (pa j)) ∧ (∀ j, 1 ≤ j → j ≤ l → (j < l ∨ s ≤ 3) → xct j = qa_b (ct j))
section
variable {xlim : Int32} {xn : Int32} {xpc : Int32} {xlv : Int32} {xop : Int32} {xql : Int32} {xrc : Int32} {xrt : Int64} {xod : (Nat → Int32)} {xpo : (Nat → Int32)} {xnm : (Nat → Int32)} {xvl : (Nat → Int32)} {xmv : (Nat → Int32)} {xrk : (Nat → Int32)} {xpt : (Nat → Int32)} {xsz : (Nat → Int32)} {xpd : (Nat → Int32)} {xpa : (Nat → Int32)} {xct : (Nat → Int32)} {xqu : (Nat → Int32)} {xco : (Nat → Int32)} {xse : (Nat → Int32)} {xpe : (Nat → Int32)} {xgv : (Nat → Int64)} {xan : (Nat → Int64)} {xal : (Nat → Int64)} {xng : (Nat → Int32)} {xrs : (Nat → Int32)}
theorem qc_xax {t : Int32} {post : Int32 → Prop} (h : post (qa_b (qc_ax t))) : wpX_isAxisToken post (xlim, xn, xpc, xlv, xop, xql, xrc, xrt, xod, xpo, xnm, xvl, xmv, xrk, xpt, xsz, xpd, xpa, xct, xqu, xco, xse, xpe, xgv, xan, xal, xng, xrs) t := by
  refine br_c (fun g => ?_) (fun g => br_c (fun g2 => ?_) (fun g2 => ?_))
  · rw [show qc_ax t = false from decide_eq_false (fun z => z.1 g)] at h; exact h
  · rw [show qc_ax t = false from decide_eq_false (fun z => z.2 g2)] at h; exact h
  · rw [show qc_ax t = true from decide_eq_true ⟨g, g2⟩] at h; exact h
theorem qc_xnm {t : Int32} {post : Int32 → Prop} (h : post (qa_b (qc_nm t))) : wpX_isNameToken post (xlim, xn, xpc, xlv, xop, xql, xrc, xrt, xod, xpo, xnm, xvl, xmv, xrk, xpt, xsz, xpd, xpa, xct, xqu, xco, xse, xpe, xgv, xan, xal, xng, xrs) t := by
  refine br_c (fun g => ?_) (fun g => br_c (fun g2 => ?_) (fun g2 => ?_))
  · rw [show qc_nm t = false from decide_eq_false (fun z => z.1 g)] at h; exact h
  · rw [show qc_nm t = false from decide_eq_false (fun z => z.2 g2)] at h; exact h
  · rw [show qc_nm t = true from decide_eq_true ⟨g, g2⟩] at h; exact h
theorem qc_xnu {t : Int32} {post : Int32 → Prop} (h : post (qa_b (qc_nu t))) : wpX_isNumber post (xlim, xn, xpc, xlv, xop, xql, xrc, xrt, xod, xpo, xnm, xvl, xmv, xrk, xpt, xsz, xpd, xpa, xct, xqu, xco, xse, xpe, xgv, xan, xal, xng, xrs) t := by
  refine br_c (fun g => ?_) (fun g => br_c (fun g2 => ?_) (fun g2 => ?_))
  · rw [show qc_nu t = false from decide_eq_false (fun z => z.1 g)] at h; exact h
  · rw [show qc_nu t = false from decide_eq_false (fun z => z.2 g2)] at h; exact h
  · rw [show qc_nu t = true from decide_eq_true ⟨g, g2⟩] at h; exact h
theorem qc_xcp {t : Int32} {post : Int32 → Prop} (h : post (qa_b (qc_cp t))) : wpX_isComparison post (xlim, xn, xpc, xlv, xop, xql, xrc, xrt, xod, xpo, xnm, xvl, xmv, xrk, xpt, xsz, xpd, xpa, xct, xqu, xco, xse, xpe, xgv, xan, xal, xng, xrs) t := by
  refine br_c (fun g => ?_) (fun g => br_c (fun g2 => ?_) (fun g2 => br_c (fun g3 => ?_) (fun g3 => ?_)))
  · rw [show qc_cp t = true from decide_eq_true (Or.inl g)] at h; exact h
  · rw [show qc_cp t = true from decide_eq_true (Or.inr (Or.inl g2))] at h; exact h
  · rw [show qc_cp t = true from decide_eq_true (Or.inr (Or.inr g3))] at h; exact h
  · rw [show qc_cp t = false from decide_eq_false (fun z => by rcases z with z | z | z; exact g z; exact g2 z; exact g3 z)] at h; exact h
theorem qc_xaf {s l o : Nat} {pa : Nat → Nat} {ct : Nat → Bool} {t : Int32} {post : Int32 → SX → Prop} (R : qc_X (s, l, o, pa, ct) xlv xop xpa xct) (h1 : 1 ≤ l) (h2 : l ≤ 3) (h3 : o ≤ 4) (h4 : o = qc_sm pa l)
    (h : ∀ lv op pa' ct', ((qc_af l o pa ct t).1 ≠ 0 → qc_X (qc_af l o pa ct t) lv op pa' ct') → post (nI (qc_af l o pa ct t).1) (xlim, xn, xpc, lv, op, xql, xrc, xrt, xod, xpo, xnm, xvl, xmv, xrk, xpt, xsz, xpd, pa', ct', xqu, xco, xse, xpe, xgv, xan, xal, xng, xrs)) : wpX_stateAfterAtom post (xlim, xn, xpc, xlv, xop, xql, xrc, xrt, xod, xpo, xnm, xvl, xmv, xrk, xpt, xsz, xpd, xpa, xct, xqu, xco, xse, xpe, xgv, xan, xal, xng, xrs) t := by
  obtain ⟨rfl, rfl, r3, r4⟩ := R
  have hp := qc_sm_ge pa l h1
  have il : vp_in (nI l) 4 := vp_in_nI (by omega) (by omega)
  have el : xpa (nI l).toNatClampNeg = nI (pa l) := by rw [nI_clamp (by omega)]; exact r3 l h1 (Nat.le_refl _)
  unfold qc_af at h
  by_cases g5 : t = 5
  · rw [if_pos (Or.inl g5)] at h
    exact br_t g5 (h _ _ _ _ (fun _ => ⟨rfl, rfl, r3, fun j j1 j2 j3 => r4 j j1 j2 (by omega)⟩))
  · by_cases g6 : t = 6
    · rw [if_pos (Or.inr g6)] at h
      exact br_f g5 (br_t g6 (h _ _ _ _ (fun _ => ⟨rfl, rfl, r3, fun j j1 j2 j3 => r4 j j1 j2 (by omega)⟩)))
    · rw [if_neg (by rintro (z | z); exact g5 z; exact g6 z)] at h
      refine br_f g5 (br_f g6 ?_)
      by_cases g4 : t = 4
      · refine br_t g4 ⟨il, ?_⟩
        rw [el]
        by_cases gp : 0 < pa l
        · rw [if_pos ⟨g4, gp⟩] at h
          refine br_f (nI_nle gp (by omega)) (nm_r (pk_sub (a := o) (b := 1) (by omega)) ⟨il, il, fun a ea => ?_⟩)
          rw [nI_clamp (by omega)] at ea
          refine h _ _ _ _ (fun _ => ⟨rfl, rfl, fun j j1 j2 => ?_, fun j j1 j2 j3 => r4 j j1 j2 (by omega)⟩)
          rw [ea]
          by_cases e : j = l
          · rw [e, pk_us, qc_put_s]; exact pk_sub (a := pa l) (b := 1) (by omega)
          · rw [pk_un e, qc_put_n e]; exact r3 j j1 j2
        · rw [if_neg (fun z => gp z.2), if_neg (fun z => by rw [g4] at z; exact absurd z.1 (by decide))] at h
          have e0 : pa l = 0 := by omega
          refine br_t (by rw [e0]; decide) (br_f (by rw [g4]; decide) (h _ _ _ _ (fun z => absurd rfl z)))
      · rw [if_neg (fun z => g4 z.1)] at h
        refine br_f g4 ?_
        by_cases g2 : t = 2
        · refine br_t g2 ⟨il, ?_⟩
          rw [el]
          by_cases gp : pa l = 0
          · rw [if_pos ⟨g2, gp⟩] at h
            refine br_t (by rw [gp]; decide) (nm_r (pk_sub (a := l) (b := 1) (by omega)) (h _ _ _ _ (fun _ => ⟨rfl, rfl, fun j j1 j2 => r3 j j1 (by omega), fun j j1 j2 j3 => r4 j j1 (by omega) (by omega)⟩)))
          · rw [if_neg (fun z => gp z.2)] at h
            exact br_f (nI_ne0 (by omega) (by omega)) (h _ _ _ _ (fun z => absurd rfl z))
        · rw [if_neg (fun z => g2 z.1)] at h
          exact br_f g2 (h _ _ _ _ (fun z => absurd rfl z))
theorem qc_xsp {l o : Nat} {pa : Nat → Nat} {ct : Nat → Bool} {t : Int32} {post : Int32 → SX → Prop} (R : qc_X (3, l, o, pa, ct) xlv xop xpa xct) (h2 : l ≤ 3) (h3 : o ≤ 4) (h4 : o = qc_sm pa l)
    (h : ∀ lv op pa' ct', ((qc_sp l o pa ct t).1 ≠ 0 → qc_X (qc_sp l o pa ct t) lv op pa' ct') → post (nI (qc_sp l o pa ct t).1) (xlim, xn, xpc, lv, op, xql, xrc, xrt, xod, xpo, xnm, xvl, xmv, xrk, xpt, xsz, xpd, pa', ct', xqu, xco, xse, xpe, xgv, xan, xal, xng, xrs)) : wpX_stateAfterStep post (xlim, xn, xpc, xlv, xop, xql, xrc, xrt, xod, xpo, xnm, xvl, xmv, xrk, xpt, xsz, xpd, xpa, xct, xqu, xco, xse, xpe, xgv, xan, xal, xng, xrs) t := by
  have R0 := R
  obtain ⟨rfl, rfl, r3, r4⟩ := R
  unfold wpX_stateAfterStep
  dsimp only
  unfold qc_sp at h
  refine qc_xax (qa_br (fun ga => ?_) (fun ga => ?_))
  · rw [if_neg (by rw [ga]; decide)] at h
    by_cases g1 : t = 1
    · rw [if_pos g1] at h
      refine br_t g1 ?_
      refine pk_lt l 3 (fun g => ?_) (fun g => ?_)
      · rw [if_pos g] at h
        refine nm_r (nI_1 l) ⟨vp_in_nI (by omega) (by omega), fun a ea => ?_⟩
        rw [nI_clamp (by omega)] at ea
        refine h (nI (l + 1)) (nI o) a xct (fun _ => ⟨rfl, rfl, fun j j1 j2 => ?_, fun j j1 j2 j3 => r4 j j1 (by omega) (by omega)⟩)
        rw [ea]
        by_cases e : j = l + 1
        · rw [e, pk_us, qc_put_s]; rfl
        · rw [pk_un e, qc_put_n e]; exact r3 j j1 (by omega)
      · rw [if_neg (by omega)] at h; exact h _ _ _ _ (fun z => absurd rfl z)
    · rw [if_neg g1] at h
      refine br_f g1 ?_
      by_cases g0 : l = 0
      · rw [if_pos g0] at h
        exact br_t (by rw [g0]; decide) (h _ _ _ _ (fun z => absurd rfl z))
      · rw [if_neg g0] at h
        refine br_f (nI_ne0 (by omega) (by omega)) ⟨vp_in_nI (by omega) (by omega), ?_⟩
        rw [nI_clamp (by omega), r4 l (by omega) (Nat.le_refl _) (Or.inr (by omega))]
        refine qa_br (fun gc => ?_) (fun gc => ?_)
        · rw [if_neg (by rw [gc]; decide)] at h
          exact qc_xaf R0 (by omega) h2 h3 h4 h
        · rw [if_pos gc] at h
          refine qc_xcp (qa_br (fun gd => ?_) (fun gd => ?_))
          · rw [if_neg (by rw [gd]; decide)] at h; exact h _ _ _ _ (fun z => absurd rfl z)
          · rw [if_pos gd] at h
            exact h _ _ _ _ (fun _ => ⟨rfl, rfl, r3, fun j j1 j2 j3 => r4 j j1 j2 (by omega)⟩)
  · rw [if_pos ga] at h
    exact h _ _ _ _ (fun _ => ⟨rfl, rfl, r3, fun j j1 j2 j3 => r4 j j1 j2 (by omega)⟩)
theorem qc_xop76 {l o : Nat} {pa : Nat → Nat} {ct : Nat → Bool} {t : Int32} {post : Int32 → SX → Prop} (R : qc_X (4, l, o, pa, ct) xlv xop xpa xct) (h2 : l ≤ 3)
    (n1 : t ≠ 7) (n2 : t ≠ 3) (n3 : t ≠ 8) (n4 : t ≠ 10) (n5 : t ≠ 9) (n6 : t ≠ 11)
    (h : ∀ lv op pa' ct', ((qc_op l o pa ct t).1 ≠ 0 → qc_X (qc_op l o pa ct t) lv op pa' ct') → post (nI (qc_op l o pa ct t).1) (xlim, xn, xpc, lv, op, xql, xrc, xrt, xod, xpo, xnm, xvl, xmv, xrk, xpt, xsz, xpd, pa', ct', xqu, xco, xse, xpe, xgv, xan, xal, xng, xrs)) : wX_stateInOperand_76 post t xlim xn xpc xlv xop xql xrc xrt xod xpo xnm xvl xmv xrk xpt xsz xpd xpa xct xqu xco xse xpe xgv xan xal xng xrs := by
  obtain ⟨rfl, rfl, r3, r4⟩ := R
  unfold qc_op at h
  rw [if_neg n1, if_neg n2, if_neg (by rintro (z | z); exact n3 z; exact n4 z), if_neg n5, if_neg n6] at h
  refine And.intro (vp_in_nI (by omega) (by omega)) (fun a ea => qc_xax (qa_br (fun g => ?_) (fun g => ?_)))
  · rw [if_neg (by rw [g]; decide)] at h; exact h _ _ _ _ (fun z => absurd rfl z)
  · rw [if_pos g] at h
    rw [nI_clamp (by omega)] at ea
    refine h _ _ _ _ (fun _ => ⟨rfl, rfl, r3, fun j j1 j2 j3 => ?_⟩)
    rw [ea]
    by_cases e : j = l
    · rw [e, pk_us, qc_put_s]; rfl
    · rw [pk_un e, qc_put_n e]; exact r4 j j1 j2 (by omega)
theorem qc_xop {l o : Nat} {pa : Nat → Nat} {ct : Nat → Bool} {t : Int32} {post : Int32 → SX → Prop} (R : qc_X (4, l, o, pa, ct) xlv xop xpa xct) (h1 : 1 ≤ l) (h2 : l ≤ 3) (h3 : o ≤ 4)
    (h : ∀ lv op pa' ct', ((qc_op l o pa ct t).1 ≠ 0 → qc_X (qc_op l o pa ct t) lv op pa' ct') → post (nI (qc_op l o pa ct t).1) (xlim, xn, xpc, lv, op, xql, xrc, xrt, xod, xpo, xnm, xvl, xmv, xrk, xpt, xsz, xpd, pa', ct', xqu, xco, xse, xpe, xgv, xan, xal, xng, xrs)) : wpX_stateInOperand post (xlim, xn, xpc, xlv, xop, xql, xrc, xrt, xod, xpo, xnm, xvl, xmv, xrk, xpt, xsz, xpd, xpa, xct, xqu, xco, xse, xpe, xgv, xan, xal, xng, xrs) t := by
  have R0 := R
  obtain ⟨rfl, rfl, r3, r4⟩ := R
  have il : vp_in (nI l) 4 := vp_in_nI (by omega) (by omega)
  have el : xpa (nI l).toNatClampNeg = nI (pa l) := by rw [nI_clamp (by omega)]; exact r3 l h1 (Nat.le_refl _)
  have keep : qc_X (4, l, o, pa, ct) (nI l) (nI o) xpa xct := R0
  have k5 : qc_X (5, l, o, pa, ct) (nI l) (nI o) xpa xct := ⟨rfl, rfl, r3, fun j j1 j2 j3 => r4 j j1 j2 (by omega)⟩
  have k7 : qc_X (7, l, o, pa, ct) (nI l) (nI o) xpa xct := ⟨rfl, rfl, r3, fun j j1 j2 j3 => r4 j j1 j2 (by omega)⟩
  by_cases g7 : t = 7
  · subst g7; exact br_f (by decide) (br_f (by decide) (br_f (by decide) (br_f (by decide) (br_f (by decide) (br_f (by decide) (br_t (by decide) (h _ _ _ _ (fun _ => keep))))))))
  · by_cases g3 : t = 3
    · subst g3
      refine br_f (by decide) (br_f (by decide) (br_t (by decide) ?_))
      rw [show qc_op l o pa ct 3 = (if o < 4 then (4, l, o + 1, qc_put pa l (pa l + 1), ct) else (0, l, o, pa, ct)) from rfl] at h
      refine pk_lt o 4 (fun g => ?_) (fun g => ?_)
      · rw [if_pos g] at h
        refine nm_r (nI_1 o) ⟨il, il, fun a ea => ?_⟩
        rw [el, nI_clamp (by omega), nI_1] at ea
        refine h (nI l) (nI (o + 1)) a xct (fun _ => ⟨rfl, rfl, fun j j1 j2 => ?_, fun j j1 j2 j3 => r4 j j1 j2 (by omega)⟩)
        rw [ea]
        by_cases e : j = l
        · rw [e, pk_us, qc_put_s]
        · rw [pk_un e, qc_put_n e]; exact r3 j j1 j2
      · rw [if_neg (by omega)] at h; exact h _ _ _ _ (fun z => absurd rfl z)
    · by_cases g8 : t = 8
      · subst g8; exact br_f (by decide) (br_f (by decide) (br_f (by decide) (br_f (by decide) (br_f (by decide) (br_f (by decide) (br_f (by decide) (br_t (by decide) (h _ _ _ _ (fun _ => k5)))))))))
      · by_cases g10 : t = 10
        · subst g10; exact br_f (by decide) (br_f (by decide) (br_f (by decide) (br_f (by decide) (br_f (by decide) (br_f (by decide) (br_f (by decide) (br_f (by decide) (br_f (by decide) (br_t (by decide) (h _ _ _ _ (fun _ => k5)))))))))))
        · by_cases g9 : t = 9
          · subst g9; exact br_f (by decide) (br_f (by decide) (br_f (by decide) (br_f (by decide) (br_f (by decide) (br_f (by decide) (br_f (by decide) (br_f (by decide) (br_t (by decide) (h _ _ _ _ (fun _ => k7))))))))))
          · by_cases g11 : t = 11
            · subst g11
              rw [show qc_op l o pa ct 11 = (1, l, o, pa, qc_put ct l true) from rfl] at h
              refine br_f (by decide) (br_f (by decide) (br_f (by decide) (br_f (by decide) (br_f (by decide) (br_f (by decide) (br_f (by decide) (br_f (by decide) (br_f (by decide) (br_f (by decide) (br_t (by decide) ⟨il, fun a ea => ?_⟩))))))))))
              rw [nI_clamp (by omega)] at ea
              refine h _ _ _ _ (fun _ => ⟨rfl, rfl, r3, fun j j1 j2 j3 => ?_⟩)
              rw [ea]
              by_cases e : j = l
              · rw [e, pk_us, qc_put_s]; rfl
              · rw [pk_un e, qc_put_n e]; exact r4 j j1 j2 (by omega)
            · have c := qc_xop76 R0 h2 g7 g3 g8 g10 g9 g11 h
              exact br_c (fun _ => c) (fun _ => br_c (fun _ => c) (fun _ => br_f g3 (br_c (fun _ => c) (fun _ => br_c (fun _ => c) (fun _ => br_c (fun _ => c) (fun _ => br_f g7 (br_f g8 (br_f g9 (br_f g10 (br_f g11 trivial))))))))))
theorem qc_xnx {s l o : Nat} {pa : Nat → Nat} {ct : Nat → Bool} {t : Int32} {post : Int32 → SX → Prop} (R : qc_X (s, l, o, pa, ct) xlv xop xpa xct) (W : qc_W (s, l, o, pa, ct))
    (h : ∀ lv op pa' ct', ((qc_nx (s, l, o, pa, ct) t).1 ≠ 0 → qc_X (qc_nx (s, l, o, pa, ct) t) lv op pa' ct') → post (nI (qc_nx (s, l, o, pa, ct) t).1) (xlim, xn, xpc, lv, op, xql, xrc, xrt, xod, xpo, xnm, xvl, xmv, xrk, xpt, xsz, xpd, pa', ct', xqu, xco, xse, xpe, xgv, xan, xal, xng, xrs)) : wpX_stateAfter post (xlim, xn, xpc, xlv, xop, xql, xrc, xrt, xod, xpo, xnm, xvl, xmv, xrk, xpt, xsz, xpd, xpa, xct, xqu, xco, xse, xpe, xgv, xan, xal, xng, xrs) (nI s) t := by
  obtain ⟨w1, w2, w3, w4, w5, w6⟩ := W
  have R0 := R
  obtain ⟨r1, r2, r3, r4⟩ := R
  have hs : s = 1 ∨ s = 2 ∨ s = 3 ∨ s = 4 ∨ s = 5 ∨ s = 6 ∨ s = 7 := by omega
  unfold wpX_stateAfter
  dsimp only
  rcases hs with rfl | rfl | rfl | rfl | rfl | rfl | rfl
  · rw [qc_nx_1] at h
    refine br_f (by decide) (br_f (by decide) (br_t (by decide) (qc_xax (qa_br (fun g => ?_) (fun g => ?_)))))
    · rw [if_neg (by rw [g]; decide)] at h; exact h _ _ _ _ (fun z => absurd rfl z)
    · rw [if_pos g] at h; exact h _ _ _ _ (fun _ => ⟨r1, r2, r3, fun j j1 j2 j3 => r4 j j1 j2 (by omega)⟩)
  · rw [qc_nx_2] at h
    refine br_f (by decide) (br_f (by decide) (br_f (by decide) (br_t (by decide) (qc_xnm (qa_br (fun g => ?_) (fun g => ?_))))))
    · rw [if_neg (by rw [g]; decide)] at h; exact h _ _ _ _ (fun z => absurd rfl z)
    · rw [if_pos g] at h; exact h _ _ _ _ (fun _ => ⟨r1, r2, r3, fun j j1 j2 j3 => r4 j j1 j2 (by omega)⟩)
  · rw [qc_nx_3] at h
    exact br_f (by decide) (br_f (by decide) (br_f (by decide) (br_f (by decide) (br_t (by decide) (qc_xsp R0 w3 w4 w5 h)))))
  · rw [qc_nx_4] at h
    exact br_f (by decide) (br_f (by decide) (br_f (by decide) (br_f (by decide) (br_f (by decide) (br_t (by decide) (qc_xop R0 (w6 (by omega)) w3 w4 h))))))
  · rw [qc_nx_5] at h
    refine br_f (by decide) (br_f (by decide) (br_f (by decide) (br_f (by decide) (br_f (by decide) (br_f (by decide) (br_t (by decide) (qc_xcp (qa_br (fun g => ?_) (fun g => ?_)))))))))
    · rw [if_neg (by rw [g]; decide)] at h; exact h _ _ _ _ (fun z => absurd rfl z)
    · rw [if_pos g] at h; exact h _ _ _ _ (fun _ => ⟨r1, r2, r3, fun j j1 j2 j3 => r4 j j1 j2 (by omega)⟩)
  · rw [qc_nx_6] at h
    refine br_f (by decide) (br_f (by decide) (br_f (by decide) (br_f (by decide) (br_f (by decide) (br_f (by decide) (br_f (by decide) (br_t (by decide) (qc_xnu (qa_br (fun g => ?_) (fun g => ?_))))))))))
    · rw [if_neg (by rw [g]; decide)] at h; exact h _ _ _ _ (fun z => absurd rfl z)
    · rw [if_pos g] at h; exact h _ _ _ _ (fun _ => ⟨r1, r2, r3, fun j j1 j2 j3 => r4 j j1 j2 (by omega)⟩)
  · rw [qc_nx_7] at h
    exact br_f (by decide) (br_f (by decide) (br_f (by decide) (br_f (by decide) (br_f (by decide) (br_f (by decide) (br_f (by decide) (br_f (by decide) (br_t (by decide) (qc_xaf R0 (w6 (by omega)) w3 w4 w5 h)))))))))
end
section
variable {xlim : Int32} {xn : Int32} {xpc : Int32} {xlv : Int32} {xop : Int32} {xql : Int32} {xrc : Int32} {xrt : Int64} {xod : (Nat → Int32)} {xpo : (Nat → Int32)} {xnm : (Nat → Int32)} {xvl : (Nat → Int32)} {xmv : (Nat → Int32)} {xrk : (Nat → Int32)} {xpt : (Nat → Int32)} {xsz : (Nat → Int32)} {xpd : (Nat → Int32)} {xpa : (Nat → Int32)} {xct : (Nat → Int32)} {xqu : (Nat → Int32)} {xco : (Nat → Int32)} {xse : (Nat → Int32)} {xpe : (Nat → Int32)} {xgv : (Nat → Int64)} {xan : (Nat → Int64)} {xal : (Nat → Int64)} {xng : (Nat → Int32)} {xrs : (Nat → Int32)}
theorem qc_xwp {w : Nat} {post : Int32 → SX → Prop} (hw : w ≤ 40) (h : ∀ lv op pa ct, post (nI (qc_wp xpd w 0)) (xlim, xn, nI w, lv, op, xql, xrc, xrt, xod, xpo, xnm, xvl, xmv, xrk, xpt, xsz, xpd, pa, ct, xqu, xco, xse, xpe, xgv, xan, xal, xng, xrs)) : wpX_wrongPlace post (xlim, xn, nI w, xlv, xop, xql, xrc, xrt, xod, xpo, xnm, xvl, xmv, xrk, xpt, xsz, xpd, xpa, xct, xqu, xco, xse, xpe, xgv, xan, xal, xng, xrs) := by
  have key : ∀ k i lv op pa ct, i + k = w → qc_W (qc_tr xpd i) → qc_X (qc_tr xpd i) lv op pa ct → (∀ lv op pa ct, post (nI (qc_wp xpd k i)) (xlim, xn, nI w, lv, op, xql, xrc, xrt, xod, xpo, xnm, xvl, xmv, xrk, xpt, xsz, xpd, pa, ct, xqu, xco, xse, xpe, xgv, xan, xal, xng, xrs)) → wX_wrongPlace_14 post (k + 1) (nI (qc_tr xpd i).1) (nI i) xlim xn (nI w) lv op xql xrc xrt xod xpo xnm xvl xmv xrk xpt xsz xpd pa ct xqu xco xse xpe xgv xan xal xng xrs := by
    intro k
    induction k with
    | zero =>
      intro i lv op pa ct e W R h
      simp only [qc_wp] at h
      refine br_t (nI_le (by omega) (by omega)) ?_
      have hl : lv = nI (qc_tr xpd i).2.1 := R.1
      have w2 : (qc_tr xpd i).1 ≤ 7 := W.2.1
      have w3 : (qc_tr xpd i).2.1 ≤ 3 := W.2.2.1
      have ew : w = i := by omega
      subst ew
      refine pk_eq (qc_tr xpd w).1 3 (fun g => ?_) (fun g => ?_)
      · rw [hl]
        refine pk_eq (qc_tr xpd w).2.1 0 (fun g2 => ?_) (fun g2 => ?_)
        · rw [if_pos ⟨g, g2⟩] at h; exact h _ _ _ _
        · rw [if_neg (fun z => g2 z.2)] at h; rw [nI_1]; exact h _ _ _ _
      · rw [if_neg (fun z => g z.1)] at h; rw [nI_1]; exact h _ _ _ _
    | succ k ih =>
      intro i lv op pa ct e W R h
      simp only [qc_wp] at h
      refine br_f (nI_ge (by omega) (by omega)) ⟨vp_in_nI (by omega) (by omega), ?_⟩
      rw [nI_clamp (by omega)]
      refine qc_xnx (s := (qc_tr xpd i).1) R W (fun lv' op' pa' ct' R' => ?_)
      have en : qc_nx (qc_tr xpd i) (xpd i) = qc_tr xpd (i + 1) := rfl
      rw [show ((qc_tr xpd i).1, (qc_tr xpd i).2.1, (qc_tr xpd i).2.2.1, (qc_tr xpd i).2.2.2.1, (qc_tr xpd i).2.2.2.2) = qc_tr xpd i from rfl, en] at R' ⊢
      by_cases g : (qc_tr xpd (i + 1)).1 = 0
      · rw [if_pos g] at h
        refine br_t (by rw [g]; decide) ?_
        rw [nI_1]; exact h _ _ _ _
      · rw [if_neg g] at h
        have W' : qc_W (qc_tr xpd (i + 1)) := qc_W_nx W g
        have w2 : (qc_tr xpd (i + 1)).1 ≤ 7 := W'.2.1
        exact br_f (nI_ne0 (by omega) (by omega)) (nm_r (nI_1 i) (ih (i + 1) _ _ _ _ (by omega) W' (R' g) h))
  exact Exists.intro _ (key w 0 0 0 xpa xct (by omega) qc_W_0 ⟨rfl, rfl, fun j j1 j2 => by omega, fun j j1 j2 => by omega⟩ h)
end
end
section
/-! the grammar's machine in Y -/
def qc_cd (s : Nat) : Int32 := if s = 1 then 0 else if s = 2 then 1 else if s = 3 then 2 else if s = 4 then 3 else if s = 5 then 5 else if s = 6 then 6 else 4
def qc_ow (b : Bool) : Int32 := if b then 2 else 1
def qc_Y (S : qc_St) (x2 x3 x4 : Int32) (ow pa' : Nat → Int32) : Prop := match S with
  | (s, l, o, pa, ct) => x2 = qc_cd s ∧ x3 = nI l ∧ x4 = nI o ∧ (∀ j, 1 ≤ j → j ≤ l → pa' j = nI (pa j)) ∧ ow 0 = 0 ∧ (∀ j, 1 ≤ j → j ≤ l → (j < l ∨ s ≤ 3) → ow j = qc_ow (ct j))
theorem qc_yax {t : Int32} {post : Int32 → Prop} (h : post (qa_b (qc_ax t))) : wpY_isAxis post t := by
  refine br_c (fun g => ?_) (fun g => br_c (fun g2 => ?_) (fun g2 => ?_))
  · rw [show qc_ax t = false from decide_eq_false (fun z => z.1 g)] at h; exact h
  · rw [show qc_ax t = false from decide_eq_false (fun z => z.2 g2)] at h; exact h
  · rw [show qc_ax t = true from decide_eq_true ⟨g, g2⟩] at h; exact h
section
variable {ymo : Int32} {yn : Int32} {yw : Int32} {yle : Int32} {yfo : Int32} {yli : Int32} {yat : Int32} {ysu : Int64} {yid : (Nat → Int32)} {ydp : (Nat → Int32)} {ynm : (Nat → Int32)} {yvl : (Nat → Int32)} {yci : (Nat → Int32)} {ycd : (Nat → Int32)} {ypd : (Nat → Int32)} {yqu : (Nat → Int32)} {ygv : (Nat → Int64)} {yls : (Nat → Int32)} {yrs : (Nat → Int32)} {yor : (Nat → Int32)} {yan : (Nat → Int32)} {yno : (Nat → Int32)} {yow : (Nat → Int32)} {ypa : (Nat → Int32)}
variable {post : Int32 → SY → Prop} {J : Int32 → Int32 → Int32 → Int32 → (Nat → Int32) → (Nat → Int32) → (Nat → Int32) → (Nat → Int32) → (Nat → Int32) → (Nat → Int32) → (Nat → Int32) → (Nat → Int32) → (Nat → Int64) → (Nat → Int32) → (Nat → Int32) → (Nat → Int32) → (Nat → Int32) → (Nat → Int32) → (Nat → Int32) → (Nat → Int32) → Prop} {x1 x2 x3 x4 x5 t : Int32}
theorem qc_F458 (h : post (x5 + 1) (ymo, yn, yw, yle, yfo, yli, yat, ysu, yid, ydp, ynm, yvl, yci, ycd, ypd, yqu, ygv, yls, yrs, yor, yan, yno, yow, ypa)) : wY_wrongPlace_458 post J x1 x3 x4 x5 (-1) ymo yn yw yle yfo yli yat ysu yid ydp ynm yvl yci ycd ypd yqu ygv yls yrs yor yan yno yow ypa := br_f (by decide) h
theorem qc_G458 {x7 : Int32} (h7 : 0 ≤ x7) (h : J x7 x3 x4 (x5 + 1) yid ydp ynm yvl yci ycd ypd yqu ygv yls yrs yor yan yno yow ypa) : wY_wrongPlace_458 post J x1 x3 x4 x5 x7 ymo yn yw yle yfo yli yat ysu yid ydp ynm yvl yci ycd ypd yqu ygv yls yrs yor yan yno yow ypa := br_t h7 (nm_e h)
theorem qc_F433 (n6 : ¬ x2 = 6) (h : post (x5 + 1) (ymo, yn, yw, yle, yfo, yli, yat, ysu, yid, ydp, ynm, yvl, yci, ycd, ypd, yqu, ygv, yls, yrs, yor, yan, yno, yow, ypa)) : wY_wrongPlace_433 post J x1 x2 x3 x4 x5 t (-1) ymo yn yw yle yfo yli yat ysu yid ydp ynm yvl yci ycd ypd yqu ygv yls yrs yor yan yno yow ypa := br_f n6 (qc_F458 h)
theorem qc_F407 (n5 : ¬ x2 = 5) (n6 : ¬ x2 = 6) (h : post (x5 + 1) (ymo, yn, yw, yle, yfo, yli, yat, ysu, yid, ydp, ynm, yvl, yci, ycd, ypd, yqu, ygv, yls, yrs, yor, yan, yno, yow, ypa)) : wY_wrongPlace_407 post J x1 x2 x3 x4 x5 t (-1) ymo yn yw yle yfo yli yat ysu yid ydp ynm yvl yci ycd ypd yqu ygv yls yrs yor yan yno yow ypa := br_f n5 (qc_F433 n6 h)
theorem qc_F374 (n4 : ¬ x2 = 4) (n5 : ¬ x2 = 5) (n6 : ¬ x2 = 6) (h : post (x5 + 1) (ymo, yn, yw, yle, yfo, yli, yat, ysu, yid, ydp, ynm, yvl, yci, ycd, ypd, yqu, ygv, yls, yrs, yor, yan, yno, yow, ypa)) : wY_wrongPlace_374 post J x1 x2 x3 x4 x5 t (-1) ymo yn yw yle yfo yli yat ysu yid ydp ynm yvl yci ycd ypd yqu ygv yls yrs yor yan yno yow ypa := br_f n4 (qc_F407 n5 n6 h)
theorem qc_F335 (n4 : ¬ x2 = 4) (n5 : ¬ x2 = 5) (n6 : ¬ x2 = 6) (h : post (x5 + 1) (ymo, yn, yw, yle, yfo, yli, yat, ysu, yid, ydp, ynm, yvl, yci, ycd, ypd, yqu, ygv, yls, yrs, yor, yan, yno, yow, ypa)) : wY_wrongPlace_335 post J x1 x2 x3 x4 x5 t (-1) ymo yn yw yle yfo yli yat ysu yid ydp ynm yvl yci ycd ypd yqu ygv yls yrs yor yan yno yow ypa := br_f n4 (qc_F374 n4 n5 n6 h)
theorem qc_F311 (n4 : ¬ x2 = 4) (n5 : ¬ x2 = 5) (n6 : ¬ x2 = 6) (h : post (x5 + 1) (ymo, yn, yw, yle, yfo, yli, yat, ysu, yid, ydp, ynm, yvl, yci, ycd, ypd, yqu, ygv, yls, yrs, yor, yan, yno, yow, ypa)) : wY_wrongPlace_311 post J x1 x2 x3 x4 x5 t (-1) ymo yn yw yle yfo yli yat ysu yid ydp ynm yvl yci ycd ypd yqu ygv yls yrs yor yan yno yow ypa := br_f n4 (qc_F335 n4 n5 n6 h)
theorem qc_F189 (n3 : ¬ x2 = 3) (n4 : ¬ x2 = 4) (n5 : ¬ x2 = 5) (n6 : ¬ x2 = 6) (h : post (x5 + 1) (ymo, yn, yw, yle, yfo, yli, yat, ysu, yid, ydp, ynm, yvl, yci, ycd, ypd, yqu, ygv, yls, yrs, yor, yan, yno, yow, ypa)) : wY_wrongPlace_189 post J x1 x2 x3 x4 x5 t (-1) ymo yn yw yle yfo yli yat ysu yid ydp ynm yvl yci ycd ypd yqu ygv yls yrs yor yan yno yow ypa := br_f n3 (br_f n3 (br_f n3 (br_f n3 (br_f n3 (qc_F311 n4 n5 n6 h)))))
theorem qc_F157 (n2 : ¬ x2 = 2) (n3 : ¬ x2 = 3) (n4 : ¬ x2 = 4) (n5 : ¬ x2 = 5) (n6 : ¬ x2 = 6) (h : post (x5 + 1) (ymo, yn, yw, yle, yfo, yli, yat, ysu, yid, ydp, ynm, yvl, yci, ycd, ypd, yqu, ygv, yls, yrs, yor, yan, yno, yow, ypa)) : wY_wrongPlace_157 post J x1 x2 x3 x4 x5 t (-1) ymo yn yw yle yfo yli yat ysu yid ydp ynm yvl yci ycd ypd yqu ygv yls yrs yor yan yno yow ypa := br_f n2 (qc_F189 n3 n4 n5 n6 h)
theorem qc_F132 (n1 : ¬ x2 = 1) (n2 : ¬ x2 = 2) (n3 : ¬ x2 = 3) (n4 : ¬ x2 = 4) (n5 : ¬ x2 = 5) (n6 : ¬ x2 = 6) (h : post (x5 + 1) (ymo, yn, yw, yle, yfo, yli, yat, ysu, yid, ydp, ynm, yvl, yci, ycd, ypd, yqu, ygv, yls, yrs, yor, yan, yno, yow, ypa)) : wY_wrongPlace_132 post J x1 x2 x3 x4 x5 t (-1) ymo yn yw yle yfo yli yat ysu yid ydp ynm yvl yci ycd ypd yqu ygv yls yrs yor yan yno yow ypa := br_f n1 (qc_F157 n2 n3 n4 n5 n6 h)
/-- comparisons and numbers, at code 5 and 6 -/
theorem qc_y5 (h1 : qc_cp t = true → J 6 x3 x4 (x5 + 1) yid ydp ynm yvl yci ycd ypd yqu ygv yls yrs yor yan yno yow ypa) (h0 : qc_cp t = false → post (x5 + 1) (ymo, yn, yw, yle, yfo, yli, yat, ysu, yid, ydp, ynm, yvl, yci, ycd, ypd, yqu, ygv, yls, yrs, yor, yan, yno, yow, ypa)) : wY_wrongPlace_89 post J x1 5 x3 x4 x5 t ymo yn yw yle yfo yli yat ysu yid ydp ynm yvl yci ycd ypd yqu ygv yls yrs yor yan yno yow ypa := by
  refine br_f (by decide) (br_f (by decide) (br_f (by decide) ?_))
  refine br_f (by decide) (br_f (by decide) (br_f (by decide) (br_f (by decide) (br_f (by decide) (br_f (by decide) (br_f (by decide) (br_f (by decide) (br_f (by decide) (br_f (by decide) (br_t (by decide) ?_))))))))))
  refine br_c (fun g => ?_) (fun g => br_c (fun g2 => ?_) (fun g2 => ?_))
  · refine qc_F433 (by decide) (h0 (decide_eq_false ?_))
    rintro (rfl | rfl | rfl) <;> exact absurd g (by decide)
  · refine qc_F433 (by decide) (h0 (decide_eq_false ?_))
    rintro (rfl | rfl | rfl) <;> exact absurd g2 (by decide)
  · refine qc_G458 (by decide) (h1 (decide_eq_true ?_))
    have hg : ¬ t < 0 := fun z => g (Int32.lt_trans z (by decide))
    obtain ⟨m, hm, rfl⟩ := nI_of2 (M := 14) (n := 14) (by decide) hg (Int32.not_lt.mp g2)
    have h12 : 12 ≤ m := by
      refine Nat.le_of_not_lt (fun z => g ?_)
      exact nI_lt (b := 12) z (by omega)
    have : m = 12 ∨ m = 13 ∨ m = 14 := by omega
    rcases this with rfl | rfl | rfl
    · exact Or.inl rfl
    · exact Or.inr (Or.inl rfl)
    · exact Or.inr (Or.inr rfl)
theorem qc_y6 (h1 : qc_nu t = true → J 4 x3 x4 (x5 + 1) yid ydp ynm yvl yci ycd ypd yqu ygv yls yrs yor yan yno yow ypa) (h0 : qc_nu t = false → post (x5 + 1) (ymo, yn, yw, yle, yfo, yli, yat, ysu, yid, ydp, ynm, yvl, yci, ycd, ypd, yqu, ygv, yls, yrs, yor, yan, yno, yow, ypa)) : wY_wrongPlace_89 post J x1 6 x3 x4 x5 t ymo yn yw yle yfo yli yat ysu yid ydp ynm yvl yci ycd ypd yqu ygv yls yrs yor yan yno yow ypa := by
  refine br_f (by decide) (br_f (by decide) (br_f (by decide) ?_))
  refine br_f (by decide) (br_f (by decide) (br_f (by decide) (br_f (by decide) (br_f (by decide) (br_f (by decide) (br_f (by decide) (br_f (by decide) (br_f (by decide) (br_f (by decide) (br_f (by decide) (br_t (by decide) ?_)))))))))))
  refine br_c (fun g => ?_) (fun g => br_c (fun g2 => ?_) (fun g2 => ?_))
  · exact qc_F458 (h0 (decide_eq_false (fun z => z.1 g)))
  · exact qc_F458 (h0 (decide_eq_false (fun z => z.2 g2)))
  · exact qc_G458 (by decide) (h1 (decide_eq_true ⟨g, g2⟩))
theorem qc_y7 (h0 : post (x5 + 1) (ymo, yn, yw, yle, yfo, yli, yat, ysu, yid, ydp, ynm, yvl, yci, ycd, ypd, yqu, ygv, yls, yrs, yor, yan, yno, yow, ypa)) : wY_wrongPlace_89 post J x1 7 x3 x4 x5 t ymo yn yw yle yfo yli yat ysu yid ydp ynm yvl yci ycd ypd yqu ygv yls yrs yor yan yno yow ypa :=
  br_f (by decide) (br_f (by decide) (br_f (by decide) (qc_F132 (by decide) (by decide) (by decide) (by decide) (by decide) (by decide) h0)))
theorem qc_y0 (h1 : qc_ax t = true → J 1 x3 x4 (x5 + 1) yid ydp ynm yvl yci ycd ypd yqu ygv yls yrs yor yan yno yow ypa) (h0 : qc_ax t = false → post (x5 + 1) (ymo, yn, yw, yle, yfo, yli, yat, ysu, yid, ydp, ynm, yvl, yci, ycd, ypd, yqu, ygv, yls, yrs, yor, yan, yno, yow, ypa)) : wY_wrongPlace_89 post J x1 0 x3 x4 x5 t ymo yn yw yle yfo yli yat ysu yid ydp ynm yvl yci ycd ypd yqu ygv yls yrs yor yan yno yow ypa := by
  refine br_t (by decide) (qc_yax (qa_br (fun g => ?_) (fun g => ?_)))
  · exact qc_F132 (by decide) (by decide) (by decide) (by decide) (by decide) (by decide) (h0 g)
  · exact br_f (by decide) (qc_G458 (by decide) (h1 g))
theorem qc_y1 (h1 : qc_nm t = true → J 2 x3 x4 (x5 + 1) yid ydp ynm yvl yci ycd ypd yqu ygv yls yrs yor yan yno yow ypa) (h0 : qc_nm t = false → post (x5 + 1) (ymo, yn, yw, yle, yfo, yli, yat, ysu, yid, ydp, ynm, yvl, yci, ycd, ypd, yqu, ygv, yls, yrs, yor, yan, yno, yow, ypa)) : wY_wrongPlace_89 post J x1 1 x3 x4 x5 t ymo yn yw yle yfo yli yat ysu yid ydp ynm yvl yci ycd ypd yqu ygv yls yrs yor yan yno yow ypa := by
  refine br_f (by decide) (br_f (by decide) (br_f (by decide) (br_t (by decide) ?_)))
  refine br_c (fun g => ?_) (fun g => br_c (fun g2 => ?_) (fun g2 => ?_))
  · exact qc_F157 (by decide) (by decide) (by decide) (by decide) (by decide) (h0 (decide_eq_false (fun z => z.1 g)))
  · exact qc_F157 (by decide) (by decide) (by decide) (by decide) (by decide) (h0 (decide_eq_false (fun z => z.2 g2)))
  · exact qc_G458 (by decide) (h1 (decide_eq_true ⟨g, g2⟩))
theorem qc_y2a (ha : qc_ax t = true) (h1 : J 1 x3 x4 (x5 + 1) yid ydp ynm yvl yci ycd ypd yqu ygv yls yrs yor yan yno yow ypa) : wY_wrongPlace_89 post J x1 2 x3 x4 x5 t ymo yn yw yle yfo yli yat ysu yid ydp ynm yvl yci ycd ypd yqu ygv yls yrs yor yan yno yow ypa := by
  refine br_f (by decide) (br_t (by decide) (qc_yax ?_))
  rw [ha]
  exact br_f (by decide) (br_f (by decide) (qc_G458 (by decide) h1))
theorem qc_y2b {l : Nat} (hl : l ≤ 3) (h1 : l < 3 → ∀ pa, pa = upd ypa (l + 1) 0 → J 3 (nI (l + 1)) x4 (x5 + 1) yid ydp ynm yvl yci ycd ypd yqu ygv yls yrs yor yan yno yow pa) (h0 : l = 3 → post (x5 + 1) (ymo, yn, yw, yle, yfo, yli, yat, ysu, yid, ydp, ynm, yvl, yci, ycd, ypd, yqu, ygv, yls, yrs, yor, yan, yno, yow, ypa)) : wY_wrongPlace_89 post J x1 2 (nI l) x4 x5 1 ymo yn yw yle yfo yli yat ysu yid ydp ynm yvl yci ycd ypd yqu ygv yls yrs yor yan yno yow ypa := by
  refine br_f (by decide) (br_t (by decide) (qc_yax ?_))
  rw [show qc_ax 1 = false by decide]
  refine br_t (by decide) (br_f (by decide) (br_t (by decide) (br_t (by decide) ?_)))
  refine pk_le 3 l (fun g => ?_) (fun g => ?_)
  · exact qc_F189 (by decide) (by decide) (by decide) (by decide) (h0 (by omega))
  · refine nm_r (nI_1 l) ⟨vp_in_nI (by omega) (by omega), fun a ea => qc_G458 (by decide) (h1 g a ?_)⟩
    rw [nI_clamp (by omega)] at ea; exact ea
theorem qc_y3 {l o : Nat} (hl : l ≤ 3) (ho : o ≤ 4)
    (hax : qc_ax t = true → J 1 (nI l) (nI o) (x5 + 1) yid ydp ynm yvl yci ycd ypd yqu ygv yls yrs yor yan yno (upd yow l 1) ypa)
    (h7 : t = 7 → J 3 (nI l) (nI o) (x5 + 1) yid ydp ynm yvl yci ycd ypd yqu ygv yls yrs yor yan yno yow ypa)
    (h3 : t = 3 → o < 4 → J 3 (nI l) (nI (o + 1)) (x5 + 1) yid ydp ynm yvl yci ycd ypd yqu ygv yls yrs yor yan yno yow (upd ypa l (ypa l + 1)))
    (h8 : t = 8 ∨ t = 10 → J 5 (nI l) (nI o) (x5 + 1) yid ydp ynm yvl yci ycd ypd yqu ygv yls yrs yor yan yno yow ypa)
    (h9 : t = 9 → J 4 (nI l) (nI o) (x5 + 1) yid ydp ynm yvl yci ycd ypd yqu ygv yls yrs yor yan yno yow ypa)
    (h11 : t = 11 → J 0 (nI l) (nI o) (x5 + 1) yid ydp ynm yvl yci ycd ypd yqu ygv yls yrs yor yan yno (upd yow l 2) ypa)
    (h0 : (t = 3 ∧ o = 4) ∨ (¬ qc_ax t = true ∧ t ≠ 7 ∧ t ≠ 3 ∧ t ≠ 8 ∧ t ≠ 10 ∧ t ≠ 9 ∧ t ≠ 11) → post (x5 + 1) (ymo, yn, yw, yle, yfo, yli, yat, ysu, yid, ydp, ynm, yvl, yci, ycd, ypd, yqu, ygv, yls, yrs, yor, yan, yno, yow, ypa)) : wY_wrongPlace_89 post J x1 3 (nI l) (nI o) x5 t ymo yn yw yle yfo yli yat ysu yid ydp ynm yvl yci ycd ypd yqu ygv yls yrs yor yan yno yow ypa := by
  have il : vp_in (nI l) 8 := vp_in_nI (by omega) (by omega)
  have e1 : (nI l).toNatClampNeg = l := nI_clamp (by omega)
  refine br_f (by decide) (br_f (by decide) (br_t (by decide) (qc_yax (qa_br (fun g => ?_) (fun g => ?_)))))
  · refine br_f (by decide) (br_f (by decide) (br_t (by decide) ?_))
    by_cases g7 : t = 7
    · exact br_t g7 (qc_G458 (by decide) (h7 g7))
    · refine br_f g7 (br_t (by decide) ?_)
      by_cases g3 : t = 3
      · refine br_t g3 (pk_le 4 o (fun z => ?_) (fun z => ?_))
        · subst g3
          exact br_t (by decide) (br_f (by decide) (br_f (by decide) (br_t (by decide) (br_f (by decide) (br_t (by decide) (br_f (by decide) (qc_F311 (by decide) (by decide) (by decide) (h0 (Or.inl ⟨rfl, by omega⟩)))))))))
        · refine ⟨il, il, fun a ea => nm_r (nI_1 o) (qc_G458 (by decide) ?_)⟩
          rw [e1] at ea
          subst ea
          exact h3 g3 z
      · refine br_f g3 (br_t (by decide) ?_)
        by_cases g8 : t = 8
        · exact br_t g8 (qc_G458 (by decide) (h8 (Or.inl g8)))
        · refine br_f g8 ?_
          by_cases g10 : t = 10
          · exact br_t g10 (qc_G458 (by decide) (h8 (Or.inr g10)))
          · refine br_f g10 (br_t (by decide) ?_)
            by_cases g9 : t = 9
            · exact br_t g9 (qc_G458 (by decide) (h9 g9))
            · refine br_f g9 (br_t (by decide) ?_)
              by_cases g11 : t = 11
              · refine br_t g11 ⟨il, fun a ea => qc_G458 (by decide) ?_⟩
                rw [e1] at ea
                subst ea
                exact h11 g11
              · refine br_f g11 (qc_F311 (by decide) (by decide) (by decide) (h0 (Or.inr ⟨by rw [g]; decide, g7, g3, g8, g10, g9, g11⟩)))
  · refine br_t (by decide) ⟨il, fun a ea => qc_G458 (by decide) ?_⟩
    rw [e1] at ea
    subst ea
    exact hax g
theorem qc_y4 {l o p : Nat} (hl0 : 1 ≤ l) (hl : l ≤ 3) (ho : o ≤ 4) (hp : p ≤ o) (ep : ypa l = nI p)
    (h5 : t = 5 ∨ t = 6 → J 3 (nI l) (nI o) (x5 + 1) yid ydp ynm yvl yci ycd ypd yqu ygv yls yrs yor yan yno yow ypa)
    (h4 : t = 4 → 0 < p → J 4 (nI l) (nI (o - 1)) (x5 + 1) yid ydp ynm yvl yci ycd ypd yqu ygv yls yrs yor yan yno yow (upd ypa l (nI (p - 1))))
    (h2 : t = 2 → p = 0 → J 2 (nI (l - 1)) (nI o) (x5 + 1) yid ydp ynm yvl yci ycd ypd yqu ygv yls yrs yor yan yno yow ypa)
    (h0 : ¬ (t = 5 ∨ t = 6) → ¬ (t = 4 ∧ 0 < p) → ¬ (t = 2 ∧ p = 0) → post (x5 + 1) (ymo, yn, yw, yle, yfo, yli, yat, ysu, yid, ydp, ynm, yvl, yci, ycd, ypd, yqu, ygv, yls, yrs, yor, yan, yno, yow, ypa)) : wY_wrongPlace_89 post J x1 4 (nI l) (nI o) x5 t ymo yn yw yle yfo yli yat ysu yid ydp ynm yvl yci ycd ypd yqu ygv yls yrs yor yan yno yow ypa := by
  have il : vp_in (nI l) 8 := vp_in_nI (by omega) (by omega)
  have e1 : (nI l).toNatClampNeg = l := nI_clamp (by omega)
  have ep' : ypa (nI l).toNatClampNeg = nI p := by rw [e1]; exact ep
  refine br_f (by decide) (br_f (by decide) (br_f (by decide) (br_f (by decide) (br_f (by decide) ?_))))
  refine br_f (by decide) (br_f (by decide) (br_f (by decide) (br_f (by decide) (br_f (by decide) (br_t (by decide) ?_)))))
  by_cases g5 : t = 5
  · exact br_t g5 (qc_G458 (by decide) (h5 (Or.inl g5)))
  · refine br_f g5 ?_
    by_cases g6 : t = 6
    · exact br_t g6 (qc_G458 (by decide) (h5 (Or.inr g6)))
    · have n56 : ¬ (t = 5 ∨ t = 6) := by rintro (z | z); exact g5 z; exact g6 z
      refine br_f g6 (br_t (by decide) ?_)
      by_cases g4 : t = 4
      · refine br_t g4 ⟨il, ?_⟩
        rw [ep']
        by_cases gp : 0 < p
        · refine br_f (nI_nle gp (by omega)) ⟨il, il, fun a ea => nm_r (sb_m1 (p := o) (by omega)) (qc_G458 (by decide) ?_)⟩
          rw [e1, show nI p - 1 = nI (p - 1) from pk_sub (a := p) (b := 1) (by omega)] at ea
          subst ea
          exact h4 g4 gp
        · refine br_t (by rw [show p = 0 by omega]; decide) (br_t (by decide) (br_f (by rw [g4]; decide) (qc_F407 (by decide) (by decide) (h0 n56 (fun z => gp z.2) (fun z => by rw [g4] at z; exact absurd z.1 (by decide))))))
      · refine br_f g4 (br_t (by decide) ?_)
        by_cases g2 : t = 2
        · refine br_t g2 ⟨il, ?_⟩
          rw [ep']
          by_cases gp : p = 0
          · exact br_t (by rw [gp]; decide) (br_f (nI_nle (by omega) (by omega)) (nm_r (sb_m1 (p := l) (by omega)) (qc_G458 (by decide) (h2 g2 gp))))
          · exact br_f (nI_ne0 (by omega) (by omega)) (qc_F407 (by decide) (by decide) (h0 n56 (fun z => g4 z.1) (fun z => gp z.2)))
        · exact br_f g2 (qc_F407 (by decide) (by decide) (h0 n56 (fun z => g4 z.1) (fun z => g2 z.1)))
end
section
variable {ymo : Int32} {yn : Int32} {yw : Int32} {yle : Int32} {yfo : Int32} {yli : Int32} {yat : Int32} {ysu : Int64} {yid : (Nat → Int32)} {ydp : (Nat → Int32)} {ynm : (Nat → Int32)} {yvl : (Nat → Int32)} {yci : (Nat → Int32)} {ycd : (Nat → Int32)} {ypd : (Nat → Int32)} {yqu : (Nat → Int32)} {ygv : (Nat → Int64)} {yls : (Nat → Int32)} {yrs : (Nat → Int32)} {yor : (Nat → Int32)} {yan : (Nat → Int32)} {yno : (Nat → Int32)} {yow : (Nat → Int32)} {ypa : (Nat → Int32)}
variable {post : Int32 → SY → Prop} {J : Int32 → Int32 → Int32 → Int32 → (Nat → Int32) → (Nat → Int32) → (Nat → Int32) → (Nat → Int32) → (Nat → Int32) → (Nat → Int32) → (Nat → Int32) → (Nat → Int32) → (Nat → Int64) → (Nat → Int32) → (Nat → Int32) → (Nat → Int32) → (Nat → Int32) → (Nat → Int32) → (Nat → Int32) → (Nat → Int32) → Prop} {x1 x2 x3 x4 x5 t : Int32}
theorem qc_yaf {s l o : Nat} {pa : Nat → Nat} {ct : Nat → Bool} (h1 : 1 ≤ l) (h2 : l ≤ 3) (h3 : o ≤ 4) (h4 : o = qc_sm pa l)
    (r3 : ∀ j, 1 ≤ j → j ≤ l → ypa j = nI (pa j)) (r5 : yow 0 = 0) (r6 : ∀ j, 1 ≤ j → j ≤ l → (j < l ∨ s ≤ 3) → yow j = qc_ow (ct j))
    (h0 : (qc_af l o pa ct t).1 = 0 → ∀ ow pa', post (x5 + 1) (ymo, yn, yw, yle, yfo, yli, yat, ysu, yid, ydp, ynm, yvl, yci, ycd, ypd, yqu, ygv, yls, yrs, yor, yan, yno, ow, pa'))
    (hj : (qc_af l o pa ct t).1 ≠ 0 → ∀ x2 x3 x4 ow pa', qc_Y (qc_af l o pa ct t) x2 x3 x4 ow pa' → J x2 x3 x4 (x5 + 1) yid ydp ynm yvl yci ycd ypd yqu ygv yls yrs yor yan yno ow pa') : wY_wrongPlace_89 post J x1 4 (nI l) (nI o) x5 t ymo yn yw yle yfo yli yat ysu yid ydp ynm yvl yci ycd ypd yqu ygv yls yrs yor yan yno yow ypa := by
  have hp := qc_sm_ge pa l h1
  unfold qc_af at h0 hj
  refine qc_y4 (p := pa l) h1 h2 h3 (by omega) (r3 l h1 (Nat.le_refl _)) (fun g => ?_) (fun g gp => ?_) (fun g gp => ?_) (fun g1 g2 g3 => ?_)
  · rw [if_pos g] at hj
    exact hj (by show (4 : Nat) ≠ 0; decide) _ _ _ _ _ ⟨rfl, rfl, rfl, r3, r5, fun j j1 j2 j3 => r6 j j1 j2 (by omega)⟩
  · rw [if_neg (by rw [g]; decide), if_pos ⟨g, gp⟩] at hj
    refine hj (by show (7 : Nat) ≠ 0; decide) _ _ _ _ _ ⟨rfl, rfl, rfl, fun j j1 j2 => ?_, r5, fun j j1 j2 j3 => r6 j j1 j2 (by omega)⟩
    by_cases e : j = l
    · rw [e, pk_us, qc_put_s]
    · rw [pk_un e, qc_put_n e]; exact r3 j j1 j2
  · rw [if_neg (by rw [g]; decide), if_neg (by rw [g]; exact fun z => absurd z.1 (by decide)), if_pos ⟨g, gp⟩] at hj
    exact hj (by show (3 : Nat) ≠ 0; decide) _ _ _ _ _ ⟨rfl, rfl, rfl, fun j j1 j2 => r3 j j1 (by omega), r5, fun j j1 j2 j3 => r6 j j1 (by omega) (by omega)⟩
  · rw [if_neg g1, if_neg g2, if_neg g3] at h0
    exact h0 rfl _ _
theorem qc_ynx {x6 : Int32} {s l o : Nat} {pa : Nat → Nat} {ct : Nat → Bool} (W : qc_W (s, l, o, pa, ct)) (R : qc_Y (s, l, o, pa, ct) x2 x3 x4 yow ypa)
    (h0 : (qc_nx (s, l, o, pa, ct) t).1 = 0 → ∀ ow pa', post (x5 + 1) (ymo, yn, yw, yle, yfo, yli, yat, ysu, yid, ydp, ynm, yvl, yci, ycd, ypd, yqu, ygv, yls, yrs, yor, yan, yno, ow, pa'))
    (hj : (qc_nx (s, l, o, pa, ct) t).1 ≠ 0 → ∀ x2 x3 x4 ow pa', qc_Y (qc_nx (s, l, o, pa, ct) t) x2 x3 x4 ow pa' → J x2 x3 x4 (x5 + 1) yid ydp ynm yvl yci ycd ypd yqu ygv yls yrs yor yan yno ow pa') :
    (x2 = 2 → ((t = 1 → wY_wrongPlace_89 post J x1 x2 x3 x4 x5 t ymo yn yw yle yfo yli yat ysu yid ydp ynm yvl yci ycd ypd yqu ygv yls yrs yor yan yno yow ypa) ∧ (¬ t = 1 → wpY_isAxis (fun r_72 => ((r_72 = 0 → (vp_in x3 8 ∧ ((yow x3.toNatClampNeg = 1 → wY_wrongPlace_88 post J x1 x3 x4 x5 t 4 ymo yn yw yle yfo yli yat ysu yid ydp ynm yvl yci ycd ypd yqu ygv yls yrs yor yan yno yow ypa) ∧ (¬ yow x3.toNatClampNeg = 1 → (vp_in x3 8 ∧ ((yow x3.toNatClampNeg = 2 → wY_wrongPlace_88 post J x1 x3 x4 x5 t 5 ymo yn yw yle yfo yli yat ysu yid ydp ynm yvl yci ycd ypd yqu ygv yls yrs yor yan yno yow ypa) ∧ (¬ yow x3.toNatClampNeg = 2 → wY_wrongPlace_88 post J x1 x3 x4 x5 t 7 ymo yn yw yle yfo yli yat ysu yid ydp ynm yvl yci ycd ypd yqu ygv yls yrs yor yan yno yow ypa))))))) ∧ (¬ r_72 = 0 → wY_wrongPlace_89 post J x1 x2 x3 x4 x5 t ymo yn yw yle yfo yli yat ysu yid ydp ynm yvl yci ycd ypd yqu ygv yls yrs yor yan yno yow ypa))) t))) ∧ (¬ x2 = 2 → wY_wrongPlace_89 post J x1 x2 x3 x4 x5 t ymo yn yw yle yfo yli yat ysu yid ydp ynm yvl yci ycd ypd yqu ygv yls yrs yor yan yno yow ypa) := by
  obtain ⟨w1, w2, w3, w4, w5, w6⟩ := W
  obtain ⟨rfl, rfl, rfl, r3, r5, r6⟩ := R
  have hs : s = 1 ∨ s = 2 ∨ s = 3 ∨ s = 4 ∨ s = 5 ∨ s = 6 ∨ s = 7 := by omega
  have il : vp_in (nI l) 8 := vp_in_nI (by omega) (by omega)
  have e1 : (nI l).toNatClampNeg = l := nI_clamp (by omega)
  rcases hs with rfl | rfl | rfl | rfl | rfl | rfl | rfl
  · rw [qc_nx_1] at h0 hj
    refine br_f (by decide) (qc_y0 (fun g => ?_) (fun g => ?_))
    · rw [if_pos g] at hj
      exact hj (by show (2 : Nat) ≠ 0; decide) _ _ _ _ _ ⟨rfl, rfl, rfl, r3, r5, fun j j1 j2 j3 => r6 j j1 j2 (by omega)⟩
    · rw [if_neg (by rw [g]; decide)] at h0; exact h0 rfl _ _
  · rw [qc_nx_2] at h0 hj
    refine br_f (by decide) (qc_y1 (fun g => ?_) (fun g => ?_))
    · rw [if_pos g] at hj
      exact hj (by show (3 : Nat) ≠ 0; decide) _ _ _ _ _ ⟨rfl, rfl, rfl, r3, r5, fun j j1 j2 j3 => r6 j j1 j2 (by omega)⟩
    · rw [if_neg (by rw [g]; decide)] at h0; exact h0 rfl _ _
  · rw [qc_nx_3] at h0 hj
    refine br_t rfl ?_
    unfold qc_sp at h0 hj
    by_cases g1 : t = 1
    · subst g1
      rw [if_neg (show ¬ qc_ax 1 = true by decide), if_pos rfl] at h0 hj
      refine br_t rfl (qc_y2b w3 (fun g a ea => ?_) (fun g => ?_))
      · rw [if_pos g] at hj
        refine hj (by show (4 : Nat) ≠ 0; decide) _ _ _ _ _ ⟨rfl, rfl, rfl, fun j j1 j2 => ?_, r5, fun j j1 j2 j3 => r6 j j1 (by omega) (by omega)⟩
        rw [ea]
        by_cases e : j = l + 1
        · rw [e, pk_us, qc_put_s]; rfl
        · rw [pk_un e, qc_put_n e]; exact r3 j j1 (by omega)
      · rw [if_neg (by omega)] at h0; exact h0 rfl _ _
    · refine br_f g1 (qc_yax (qa_br (fun g => ?_) (fun g => ?_)))
      · rw [if_neg (by rw [g]; decide), if_neg g1] at h0 hj
        refine ⟨il, ?_⟩
        rw [e1]
        by_cases g0 : l = 0
        · rw [if_pos g0] at h0
          subst g0
          exact br_f (by rw [r5]; decide) ⟨il, br_f (by rw [r5]; decide) (qc_y7 (h0 rfl _ _))⟩
        · rw [if_neg g0] at h0 hj
          have ew := r6 l (by omega) (Nat.le_refl _) (Or.inr (by omega))
          by_cases gc : ct l = true
          · rw [gc] at ew
            rw [if_pos gc] at h0 hj
            refine br_f (by rw [ew]; decide) ⟨il, br_t ew (qc_y5 (fun z => ?_) (fun z => ?_))⟩
            · rw [if_pos z] at hj
              exact hj (by show (6 : Nat) ≠ 0; decide) _ _ _ _ _ ⟨rfl, rfl, rfl, r3, r5, fun j j1 j2 j3 => r6 j j1 j2 (by omega)⟩
            · rw [if_neg (by rw [z]; decide)] at h0; exact h0 rfl _ _
          · rw [show ct l = false from by rw [← Bool.not_eq_true]; exact gc] at ew
            rw [if_neg gc] at h0 hj
            exact br_t ew (qc_yaf (s := 3) (by omega) w3 w4 w5 r3 r5 r6 h0 hj)
      · rw [if_pos g] at hj
        exact qc_y2a g (hj (by show (2 : Nat) ≠ 0; decide) _ _ _ _ _ ⟨rfl, rfl, rfl, r3, r5, fun j j1 j2 j3 => r6 j j1 j2 (by omega)⟩)
  · rw [qc_nx_4] at h0 hj
    have hl := w6 (by omega)
    refine br_f (by decide) (qc_y3 w3 w4 (fun g => ?_) (fun g => ?_) (fun g go => ?_) (fun g => ?_) (fun g => ?_) (fun g => ?_) (fun g => ?_))
    · have hne : t ≠ 7 ∧ t ≠ 3 ∧ ¬ (t = 8 ∨ t = 10) ∧ t ≠ 9 ∧ t ≠ 11 := by
        refine ⟨?_, ?_, ?_, ?_, ?_⟩
        · rintro rfl; exact absurd g (by decide)
        · rintro rfl; exact absurd g (by decide)
        · rintro (rfl | rfl) <;> exact absurd g (by decide)
        · rintro rfl; exact absurd g (by decide)
        · rintro rfl; exact absurd g (by decide)
      unfold qc_op at hj
      rw [if_neg hne.1, if_neg hne.2.1, if_neg hne.2.2.1, if_neg hne.2.2.2.1, if_neg hne.2.2.2.2, if_pos g] at hj
      refine hj (by show (2 : Nat) ≠ 0; decide) _ _ _ _ _ ⟨rfl, rfl, rfl, r3, ?_, fun j j1 j2 j3 => ?_⟩
      · rw [pk_un (by omega)]; exact r5
      · by_cases e : j = l
        · rw [e, pk_us, qc_put_s]; rfl
        · rw [pk_un e, qc_put_n e]; exact r6 j j1 j2 (by omega)
    · subst g
      exact hj (by show (4 : Nat) ≠ 0; decide) _ _ _ _ _ ⟨rfl, rfl, rfl, r3, r5, fun j j1 j2 j3 => r6 j j1 j2 j3⟩
    · subst g
      rw [show qc_op l o pa ct 3 = (if o < 4 then (4, l, o + 1, qc_put pa l (pa l + 1), ct) else (0, l, o, pa, ct)) from rfl, if_pos go] at hj
      refine hj (by show (4 : Nat) ≠ 0; decide) _ _ _ _ _ ⟨rfl, rfl, rfl, fun j j1 j2 => ?_, r5, fun j j1 j2 j3 => r6 j j1 j2 (by omega)⟩
      by_cases e : j = l
      · rw [e, pk_us, qc_put_s, r3 l hl (Nat.le_refl _), nI_1]
      · rw [pk_un e, qc_put_n e]; exact r3 j j1 j2
    · rcases g with rfl | rfl
      · exact hj (by show (5 : Nat) ≠ 0; decide) _ _ _ _ _ ⟨rfl, rfl, rfl, r3, r5, fun j j1 j2 j3 => r6 j j1 j2 (by rcases j3 with z | z; exact Or.inl z; exact absurd z (by show ¬ (5 ≤ 3); omega))⟩
      · exact hj (by show (5 : Nat) ≠ 0; decide) _ _ _ _ _ ⟨rfl, rfl, rfl, r3, r5, fun j j1 j2 j3 => r6 j j1 j2 (by rcases j3 with z | z; exact Or.inl z; exact absurd z (by show ¬ (5 ≤ 3); omega))⟩
    · subst g
      exact hj (by show (7 : Nat) ≠ 0; decide) _ _ _ _ _ ⟨rfl, rfl, rfl, r3, r5, fun j j1 j2 j3 => r6 j j1 j2 (by rcases j3 with z | z; exact Or.inl z; exact absurd z (by show ¬ (7 ≤ 3); omega))⟩
    · subst g
      rw [show qc_op l o pa ct 11 = (1, l, o, pa, qc_put ct l true) from rfl] at hj
      refine hj (by show (1 : Nat) ≠ 0; decide) _ _ _ _ _ ⟨rfl, rfl, rfl, r3, ?_, fun j j1 j2 j3 => ?_⟩
      · rw [pk_un (by omega)]; exact r5
      · by_cases e : j = l
        · rw [e, pk_us, qc_put_s]; rfl
        · rw [pk_un e, qc_put_n e]; exact r6 j j1 j2 (by omega)
    · rcases g with ⟨g, go⟩ | ⟨g1, g2, g3, g4, g5, g6, g7⟩
      · subst g
        rw [show qc_op l o pa ct 3 = (if o < 4 then (4, l, o + 1, qc_put pa l (pa l + 1), ct) else (0, l, o, pa, ct)) from rfl, if_neg (by omega)] at h0
        exact h0 rfl _ _
      · unfold qc_op at h0
        rw [if_neg g2, if_neg g3, if_neg (by rintro (z | z); exact g4 z; exact g5 z), if_neg g6, if_neg g7, if_neg g1] at h0
        exact h0 rfl _ _
  · rw [qc_nx_5] at h0 hj
    refine br_f (by decide) (qc_y5 (fun g => ?_) (fun g => ?_))
    · rw [if_pos g] at hj
      exact hj (by show (6 : Nat) ≠ 0; decide) _ _ _ _ _ ⟨rfl, rfl, rfl, r3, r5, fun j j1 j2 j3 => r6 j j1 j2 (by omega)⟩
    · rw [if_neg (by rw [g]; decide)] at h0; exact h0 rfl _ _
  · rw [qc_nx_6] at h0 hj
    refine br_f (by decide) (qc_y6 (fun g => ?_) (fun g => ?_))
    · rw [if_pos g] at hj
      exact hj (by show (7 : Nat) ≠ 0; decide) _ _ _ _ _ ⟨rfl, rfl, rfl, r3, r5, fun j j1 j2 j3 => r6 j j1 j2 (by omega)⟩
    · rw [if_neg (by rw [g]; decide)] at h0; exact h0 rfl _ _
  · rw [qc_nx_7] at h0 hj
    exact br_f (by decide) (qc_yaf (s := 7) (w6 (by omega)) w3 w4 w5 r3 r5 r6 h0 hj)
theorem qc_ywp {w : Nat} (hw : w ≤ 40) (h : ∀ ow pa, post (nI (qc_wp ypd w 0)) (ymo, yn, yw, yle, yfo, yli, yat, ysu, yid, ydp, ynm, yvl, yci, ycd, ypd, yqu, ygv, yls, yrs, yor, yan, yno, ow, pa)) : wpY_wrongPlace post (ymo, yn, yw, yle, yfo, yli, yat, ysu, yid, ydp, ynm, yvl, yci, ycd, ypd, yqu, ygv, yls, yrs, yor, yan, yno, yow, ypa) (nI w) := by
  have key : ∀ k i x2 x3 x4 ow pa, i + k = w → qc_W (qc_tr ypd i) → qc_Y (qc_tr ypd i) x2 x3 x4 ow pa → (∀ ow pa, post (nI (qc_wp ypd k i)) (ymo, yn, yw, yle, yfo, yli, yat, ysu, yid, ydp, ynm, yvl, yci, ycd, ypd, yqu, ygv, yls, yrs, yor, yan, yno, ow, pa)) → wY_wrongPlace_24 post (nI w) ymo yn yw yle yfo yli yat ysu (k + 1) x2 x3 x4 (nI i) yid ydp ynm yvl yci ycd ypd yqu ygv yls yrs yor yan yno ow pa := by
    intro k
    induction k with
    | zero =>
      intro i x2 x3 x4 ow pa e W R h
      simp only [qc_wp] at h
      refine br_t (nI_le (by omega) (by omega)) ?_
      have hl : x3 = nI (qc_tr ypd i).2.1 := R.2.1
      have hc : x2 = qc_cd (qc_tr ypd i).1 := R.1
      have w1 : 1 ≤ (qc_tr ypd i).1 := W.1
      have w2 : (qc_tr ypd i).1 ≤ 7 := W.2.1
      have w3 : (qc_tr ypd i).2.1 ≤ 3 := W.2.2.1
      have ew : w = i := by omega
      subst ew
      by_cases g : (qc_tr ypd w).1 = 3
      · refine br_t (by rw [hc, g]; decide) ?_
        rw [hl]
        refine pk_eq (qc_tr ypd w).2.1 0 (fun g2 => ?_) (fun g2 => ?_)
        · rw [if_pos ⟨g, g2⟩] at h; exact h _ _
        · rw [if_neg (fun z => g2 z.2)] at h; rw [nI_1]; exact h _ _
      · rw [if_neg (fun z => g z.1)] at h
        refine br_f ?_ (by rw [nI_1]; exact h _ _)
        rw [hc]
        generalize (qc_tr ypd w).1 = s at w1 w2 g
        have hs : s = 1 ∨ s = 2 ∨ s = 4 ∨ s = 5 ∨ s = 6 ∨ s = 7 := by omega
        rcases hs with rfl | rfl | rfl | rfl | rfl | rfl <;> decide
    | succ k ih =>
      intro i x2 x3 x4 ow pa e W R h
      simp only [qc_wp] at h
      refine br_f (nI_ge (by omega) (by omega)) ⟨vp_in_nI (by omega) (by omega), nm_r (e' := ypd i) (by rw [nI_clamp (by omega)]) ?_⟩
      have en : qc_nx (qc_tr ypd i) (ypd i) = qc_tr ypd (i + 1) := rfl
      refine qc_ynx (s := (qc_tr ypd i).1) (l := (qc_tr ypd i).2.1) (o := (qc_tr ypd i).2.2.1) (pa := (qc_tr ypd i).2.2.2.1) (ct := (qc_tr ypd i).2.2.2.2) (x6 := 0) W R (fun g ow' pa' => ?_) (fun g x2' x3' x4' ow' pa' R' => ?_)
      · have g : (qc_tr ypd (i + 1)).1 = 0 := g
        rw [if_pos g] at h
        rw [nI_1]; exact h _ _
      · have g : (qc_tr ypd (i + 1)).1 ≠ 0 := g
        rw [if_neg g] at h
        rw [nI_1]
        exact ih (i + 1) _ _ _ _ _ (by omega) (qc_W_nx W g) R' h
  refine fun a ea b eb => Exists.intro _ (key w 0 0 0 0 a b (by omega) qc_W_0 ⟨rfl, rfl, rfl, fun j j1 j2 => by omega, by rw [ea]; exact pk_us, fun j j1 j2 => by omega⟩ h)
end
end
section
/-! the trace of a query that is whole -/
theorem qc_tr_c {q q' : Nat → Int32} : ∀ k, (∀ x, x < k → q x = q' x) → qc_tr q k = qc_tr q' k := by
  intro k
  induction k with
  | zero => intro _; rfl
  | succ k ih => intro h; simp only [qc_tr]; rw [ih (fun x hx => h x (by omega)), h k (by omega)]
theorem qc_nx_0 (l o : Nat) (pa : Nat → Nat) (ct : Nat → Bool) (t : Int32) : (qc_nx (0, l, o, pa, ct) t).1 = 0 := rfl
theorem qc_tr_back {q : Nat → Int32} {k : Nat} (h : (qc_tr q (k + 1)).1 ≠ 0) : (qc_tr q k).1 ≠ 0 := by
  intro z
  apply h
  show (qc_nx (qc_tr q k) (q k)).1 = 0
  rcases hk : qc_tr q k with ⟨s, l, o, pa, ct⟩
  rw [hk] at z
  have z : s = 0 := z
  subst z
  exact qc_nx_0 l o pa ct (q k)
theorem qc_tr_all {q : Nat → Int32} {n : Nat} (h : (qc_tr q n).1 ≠ 0) : ∀ k, k ≤ n → (qc_tr q k).1 ≠ 0 := by
  induction n with
  | zero => intro k hk; have : k = 0 := by omega
            rw [this]; exact h
  | succ n ih =>
    intro k hk
    by_cases e : k = n + 1
    · rw [e]; exact h
    · exact ih (qc_tr_back h) k (by omega)
theorem qc_tr_W {q : Nat → Int32} : ∀ k, (qc_tr q k).1 ≠ 0 → qc_W (qc_tr q k) := by
  intro k
  induction k with
  | zero => intro _; exact qc_W_0
  | succ k ih => intro h; exact qc_W_nx (ih (qc_tr_back h)) h
/-- what one token does -/
def qc_Step (S S' : qc_St) (t : Int32) : Prop :=
  (t = 1 → S.1 = 3 ∧ S'.1 = 4 ∧ S'.2.1 = S.2.1 + 1 ∧ S'.2.2.2.1 (S.2.1 + 1) = 0) ∧
  (t = 2 → 1 ≤ S.2.1 ∧ S'.1 = 3 ∧ S'.2.1 + 1 = S.2.1 ∧ S.2.2.2.1 S.2.1 = 0) ∧
  (t ≠ 1 → t ≠ 2 → S'.2.1 = S.2.1) ∧
  (∀ j, j < S.2.1 → S'.2.2.2.1 j = S.2.2.2.1 j ∧ S'.2.2.2.2 j = S.2.2.2.2 j) ∧
  (t = 1 → S'.2.2.2.1 S.2.1 = S.2.2.2.1 S.2.1 ∧ S'.2.2.2.2 S.2.1 = S.2.2.2.2 S.2.1)
theorem qc_step_af {l o : Nat} {pa : Nat → Nat} {ct : Nat → Bool} {t : Int32} {s : Nat} (hl : 1 ≤ l) (h : (qc_af l o pa ct t).1 ≠ 0) : qc_Step (s, l, o, pa, ct) (qc_af l o pa ct t) t := by
  unfold qc_af at h ⊢
  by_cases g1 : t = 5 ∨ t = 6
  · rw [if_pos g1]
    refine ⟨?_, ?_, fun _ _ => rfl, fun j _ => ⟨rfl, rfl⟩, ?_⟩
    · rintro rfl; exact absurd g1 (by decide)
    · rintro rfl; exact absurd g1 (by decide)
    · rintro rfl; exact absurd g1 (by decide)
  · rw [if_neg g1] at h ⊢
    by_cases g2 : t = 4 ∧ 0 < pa l
    · rw [if_pos g2]
      refine ⟨?_, ?_, fun _ _ => rfl, fun j hj => ⟨qc_put_n (by have : j < l := hj; omega), rfl⟩, ?_⟩
      · rintro rfl; exact absurd g2.1 (by decide)
      · rintro rfl; exact absurd g2.1 (by decide)
      · rintro rfl; exact absurd g2.1 (by decide)
    · rw [if_neg g2] at h ⊢
      by_cases g3 : t = 2 ∧ pa l = 0
      · rw [if_pos g3]
        refine ⟨?_, fun _ => ⟨hl, rfl, by show l - 1 + 1 = l; omega, g3.2⟩, fun _ z => absurd g3.1 z, fun j _ => ⟨rfl, rfl⟩, ?_⟩
        · rintro rfl; exact absurd g3.1 (by decide)
        · rintro rfl; exact absurd g3.1 (by decide)
      · rw [if_neg g3] at h; exact absurd rfl h
theorem qc_step {S : qc_St} {t : Int32} (W : qc_W S) (h : (qc_nx S t).1 ≠ 0) : qc_Step S (qc_nx S t) t := by
  obtain ⟨s, l, o, pa, ct⟩ := S
  obtain ⟨w1, w2, w3, w4, w5, w6⟩ := W
  have hs : s = 1 ∨ s = 2 ∨ s = 3 ∨ s = 4 ∨ s = 5 ∨ s = 6 ∨ s = 7 := by omega
  rcases hs with rfl | rfl | rfl | rfl | rfl | rfl | rfl
  · rw [qc_nx_1] at h ⊢
    by_cases g : qc_ax t = true
    · rw [if_pos g]
      refine ⟨?_, ?_, fun _ _ => rfl, fun j _ => ⟨rfl, rfl⟩, ?_⟩ <;> (rintro rfl; exact absurd g (by decide))
    · rw [if_neg g] at h; exact absurd rfl h
  · rw [qc_nx_2] at h ⊢
    by_cases g : qc_nm t = true
    · rw [if_pos g]
      refine ⟨?_, ?_, fun _ _ => rfl, fun j _ => ⟨rfl, rfl⟩, ?_⟩ <;> (rintro rfl; exact absurd g (by decide))
    · rw [if_neg g] at h; exact absurd rfl h
  · rw [qc_nx_3] at h ⊢
    by_cases g0 : l = 0
    · unfold qc_sp at h ⊢
      by_cases g : qc_ax t = true
      · rw [if_pos g]
        refine ⟨?_, ?_, fun _ _ => rfl, fun j _ => ⟨rfl, rfl⟩, ?_⟩ <;> (rintro rfl; exact absurd g (by decide))
      · rw [if_neg g] at h ⊢
        by_cases g1 : t = 1
        · rw [if_pos g1] at h ⊢
          by_cases g3 : l < 3
          · rw [if_pos g3]
            refine ⟨fun _ => ⟨rfl, rfl, rfl, qc_put_s⟩, ?_, fun z => absurd g1 z, fun j hj => ⟨qc_put_n (by have : j < l := hj; omega), rfl⟩, fun _ => ⟨qc_put_n (show l ≠ l + 1 by omega), rfl⟩⟩
            rw [g1]; intro z; exact absurd z (by decide)
          · rw [if_neg g3] at h; exact absurd rfl h
        · rw [if_neg g1, if_pos g0] at h; exact absurd rfl h
    · unfold qc_sp at h ⊢
      by_cases g : qc_ax t = true
      · rw [if_pos g]
        refine ⟨?_, ?_, fun _ _ => rfl, fun j _ => ⟨rfl, rfl⟩, ?_⟩ <;> (rintro rfl; exact absurd g (by decide))
      · rw [if_neg g] at h ⊢
        by_cases g1 : t = 1
        · rw [if_pos g1] at h ⊢
          by_cases g3 : l < 3
          · rw [if_pos g3]
            refine ⟨fun _ => ⟨rfl, rfl, rfl, qc_put_s⟩, ?_, fun z => absurd g1 z, fun j hj => ⟨qc_put_n (by have : j < l := hj; omega), rfl⟩, fun _ => ⟨qc_put_n (show l ≠ l + 1 by omega), rfl⟩⟩
            rw [g1]; intro z; exact absurd z (by decide)
          · rw [if_neg g3] at h; exact absurd rfl h
        · rw [if_neg g1, if_neg g0] at h ⊢
          by_cases g2 : ct l = true
          · rw [if_pos g2] at h ⊢
            by_cases g3 : qc_cp t = true
            · rw [if_pos g3]
              refine ⟨?_, ?_, fun _ _ => rfl, fun j _ => ⟨rfl, rfl⟩, ?_⟩ <;> (rintro rfl; exact absurd g3 (by decide))
            · rw [if_neg g3] at h; exact absurd rfl h
          · rw [if_neg g2] at h ⊢
            exact qc_step_af (by omega) h
  · rw [qc_nx_4] at h ⊢
    unfold qc_op at h ⊢
    by_cases g1 : t = 7
    · rw [if_pos g1]
      refine ⟨?_, ?_, fun _ _ => rfl, fun j _ => ⟨rfl, rfl⟩, ?_⟩ <;> (rintro rfl; exact absurd g1 (by decide))
    · rw [if_neg g1] at h ⊢
      by_cases g2 : t = 3
      · rw [if_pos g2] at h ⊢
        by_cases g3 : o < 4
        · rw [if_pos g3]
          refine ⟨?_, ?_, fun _ _ => rfl, fun j hj => ⟨qc_put_n (by have : j < l := hj; omega), rfl⟩, ?_⟩ <;> (rintro rfl; exact absurd g2 (by decide))
        · rw [if_neg g3] at h; exact absurd rfl h
      · rw [if_neg g2] at h ⊢
        by_cases g3 : t = 8 ∨ t = 10
        · rw [if_pos g3]
          refine ⟨?_, ?_, fun _ _ => rfl, fun j _ => ⟨rfl, rfl⟩, ?_⟩ <;> (rintro rfl; exact absurd g3 (by decide))
        · rw [if_neg g3] at h ⊢
          by_cases g4 : t = 9
          · rw [if_pos g4]
            refine ⟨?_, ?_, fun _ _ => rfl, fun j _ => ⟨rfl, rfl⟩, ?_⟩ <;> (rintro rfl; exact absurd g4 (by decide))
          · rw [if_neg g4] at h ⊢
            by_cases g5 : t = 11
            · rw [if_pos g5]
              refine ⟨?_, ?_, fun _ _ => rfl, fun j hj => ⟨rfl, qc_put_n (by have : j < l := hj; omega)⟩, ?_⟩ <;> (rintro rfl; exact absurd g5 (by decide))
            · rw [if_neg g5] at h ⊢
              by_cases g6 : qc_ax t = true
              · rw [if_pos g6]
                refine ⟨?_, ?_, fun _ _ => rfl, fun j hj => ⟨rfl, qc_put_n (by have : j < l := hj; omega)⟩, ?_⟩ <;> (rintro rfl; exact absurd g6 (by decide))
              · rw [if_neg g6] at h; exact absurd rfl h
  · rw [qc_nx_5] at h ⊢
    by_cases g : qc_cp t = true
    · rw [if_pos g]
      refine ⟨?_, ?_, fun _ _ => rfl, fun j _ => ⟨rfl, rfl⟩, ?_⟩ <;> (rintro rfl; exact absurd g (by decide))
    · rw [if_neg g] at h; exact absurd rfl h
  · rw [qc_nx_6] at h ⊢
    by_cases g : qc_nu t = true
    · rw [if_pos g]
      refine ⟨?_, ?_, fun _ _ => rfl, fun j _ => ⟨rfl, rfl⟩, ?_⟩ <;> (rintro rfl; exact absurd g (by decide))
    · rw [if_neg g] at h; exact absurd rfl h
  · rw [qc_nx_7] at h ⊢
    exact qc_step_af (w6 (by omega)) h
/-- a whole query -/
def qe_G (q : Nat → Int32) (len : Nat) : Prop := (qc_tr q len).1 = 3 ∧ (qc_tr q len).2.1 = 0
theorem qe_nz {q : Nat → Int32} {len k : Nat} (G : qe_G q len) (h : k ≤ len) : (qc_tr q k).1 ≠ 0 := qc_tr_all (by rw [G.1]; omega) k h
theorem qe_W {q : Nat → Int32} {len k : Nat} (G : qe_G q len) (h : k ≤ len) : qc_W (qc_tr q k) := qc_tr_W k (qe_nz G h)
theorem qe_st {q : Nat → Int32} {len k : Nat} (G : qe_G q len) (h : k < len) : qc_Step (qc_tr q k) (qc_tr q (k + 1)) (q k) := qc_step (qe_W G (by omega)) (qe_nz (k := k + 1) G (by omega))
/-- where a bracket ends -/
def qe_CL (q : Nat → Int32) (len t m : Nat) : Prop := t < m ∧ m < len ∧ q m = 2 ∧ (qc_tr q (m + 1)).2.1 = (qc_tr q t).2.1 ∧ ∀ x, t < x → x ≤ m → (qc_tr q t).2.1 < (qc_tr q x).2.1
theorem qe_C_ge (q : Nat → Int32) : ∀ f e k, k ≤ qe_C q f e k := by
  intro f
  induction f with
  | zero => intro e k; exact Nat.le_refl _
  | succ f ih =>
    intro e k
    simp only [qe_C]
    split
    · exact Nat.le_trans (by omega) (ih _ _)
    · split
      · split
        · exact Nat.le_refl _
        · exact Nat.le_trans (by omega) (ih _ _)
      · exact Nat.le_trans (by omega) (ih _ _)
theorem qe_C_spec {q : Nat → Int32} {len : Nat} (G : qe_G q len) (L : Nat) : ∀ f e k, k + f = len → L + e = (qc_tr q k).2.1 → 1 ≤ e → qe_C q f e k < len ∧ q (qe_C q f e k) = 2 ∧ (qc_tr q (qe_C q f e k + 1)).2.1 = L ∧ ∀ x, k ≤ x → x ≤ qe_C q f e k → L < (qc_tr q x).2.1 := by
  intro f
  induction f with
  | zero =>
    intro e k hk he h1
    have : k = len := by omega
    rw [this, G.2] at he
    omega
  | succ f ih =>
    intro e k hk he h1
    obtain ⟨s1, s2, s3, _, _⟩ := qe_st G (show k < len by omega)
    simp only [qe_C]
    by_cases g1 : q k = 1
    · rw [if_pos g1]
      obtain ⟨a1, a2, a3, a4⟩ := ih (e + 1) (k + 1) (by omega) (by rw [(s1 g1).2.2.1]; omega) (by omega)
      refine ⟨a1, a2, a3, fun x hx hy => ?_⟩
      by_cases e' : x = k
      · rw [e']; omega
      · exact a4 x (by omega) hy
    · rw [if_neg g1]
      by_cases g2 : q k = 2
      · rw [if_pos g2]
        have := s2 g2
        by_cases g3 : e = 1
        · rw [if_pos g3]
          exact ⟨by omega, g2, by omega, fun x hx hy => by rw [show x = k by omega]; omega⟩
        · rw [if_neg g3]
          obtain ⟨a1, a2, a3, a4⟩ := ih (e - 1) (k + 1) (by omega) (by omega) (by omega)
          refine ⟨a1, a2, a3, fun x hx hy => ?_⟩
          by_cases e' : x = k
          · rw [e']; omega
          · exact a4 x (by omega) hy
      · rw [if_neg g2]
        obtain ⟨a1, a2, a3, a4⟩ := ih e (k + 1) (by omega) (by rw [s3 g1 g2]; omega) h1
        refine ⟨a1, a2, a3, fun x hx hy => ?_⟩
        by_cases e' : x = k
        · rw [e']; omega
        · exact a4 x (by omega) hy
theorem qe_cl_spec {q : Nat → Int32} {len t : Nat} (G : qe_G q len) (ht : t < len) (h1 : q t = 1) : qe_CL q len t (qe_cl q len t) := by
  have s := (qe_st G ht).1 h1
  obtain ⟨a1, a2, a3, a4⟩ := qe_C_spec G (qc_tr q t).2.1 (len - (t + 1)) 1 (t + 1) (by omega) (by rw [s.2.2.1]) (by omega)
  have a5 := qe_C_ge q (len - (t + 1)) 1 (t + 1)
  exact ⟨by unfold qe_cl; omega, a1, a2, a3, fun x hx hy => a4 x (by omega) hy⟩
theorem qe_cl_ge (q : Nat → Int32) (len t : Nat) : t + 1 ≤ qe_cl q len t := qe_C_ge q _ _ _
/-! ends of steps and paths -/
def qe_so (q : Nat → Int32) (len k : Nat) : Nat := qe_S q len (len - k) k
theorem qe_S_fuel (q : Nat → Int32) (len : Nat) : ∀ f k, len - k ≤ f → qe_S q len f k = qe_so q len k := by
  intro f
  induction f using Nat.strongRecOn with
  | _ f ih =>
    intro k h
    unfold qe_so
    have hg := qe_cl_ge q len k
    by_cases g : k < len ∧ q k = 1
    · obtain ⟨f', rfl⟩ : ∃ f', f = f' + 1 := ⟨f - 1, by omega⟩
      obtain ⟨m, hm⟩ : ∃ m, len - k = m + 1 := ⟨len - k - 1, by omega⟩
      rw [hm]
      simp only [qe_S]
      rw [if_pos g, if_pos g, ih f' (by omega) _ (by omega)]
      by_cases e : m < f' + 1
      · rw [ih m (by omega) _ (by omega)]
      · omega
    · have z : ∀ f, qe_S q len f k = k := by
        intro f
        cases f with
        | zero => rfl
        | succ f => simp only [qe_S]; rw [if_neg g]
      rw [z, z]
theorem qe_so_eq (q : Nat → Int32) (len k : Nat) : qe_so q len k = if k < len ∧ q k = 1 then qe_so q len (qe_cl q len k + 1) else k := by
  have hg := qe_cl_ge q len k
  by_cases g : k < len ∧ q k = 1
  · rw [if_pos g]
    obtain ⟨m, hm⟩ : ∃ m, len - k = m + 1 := ⟨len - k - 1, by omega⟩
    rw [show qe_so q len k = qe_S q len (len - k) k from rfl, hm]
    simp only [qe_S]
    rw [if_pos g, qe_S_fuel q len m _ (by omega)]
  · rw [if_neg g, show qe_so q len k = qe_S q len (len - k) k from rfl]
    cases len - k with
    | zero => rfl
    | succ f => simp only [qe_S]; rw [if_neg g]
theorem qe_se_so (q : Nat → Int32) (len t : Nat) : qe_se q len t = qe_so q len (t + 2) := rfl
theorem qe_so_ge (q : Nat → Int32) (len : Nat) : ∀ f k, len - k ≤ f → k ≤ qe_so q len k := by
  intro f
  induction f with
  | zero => intro k h; rw [qe_so_eq, if_neg (by omega)]; exact Nat.le_refl _
  | succ f ih =>
    intro k h
    have hg := qe_cl_ge q len k
    rw [qe_so_eq]
    split
    · have := ih (qe_cl q len k + 1) (by omega); omega
    · exact Nat.le_refl _
theorem qe_se_ge (q : Nat → Int32) (len t : Nat) : t + 2 ≤ qe_se q len t := qe_so_ge q len _ _ (Nat.le_refl _)
theorem qe_P_fuel (q : Nat → Int32) (len : Nat) : ∀ f k, len - k ≤ f → qe_P q len f k = qe_pe q len k := by
  intro f
  induction f using Nat.strongRecOn with
  | _ f ih =>
    intro k h
    unfold qe_pe
    have hg := qe_se_ge q len k
    by_cases g : k < len ∧ qc_ax (q k) = true
    · obtain ⟨f', rfl⟩ : ∃ f', f = f' + 1 := ⟨f - 1, by omega⟩
      obtain ⟨m, hm⟩ : ∃ m, len - k = m + 1 := ⟨len - k - 1, by omega⟩
      rw [hm]
      simp only [qe_P]
      rw [if_pos g, if_pos g, ih f' (by omega) _ (by omega)]
      by_cases e : m < f' + 1
      · rw [ih m (by omega) _ (by omega)]
      · omega
    · have z : ∀ f, qe_P q len f k = k := by
        intro f
        cases f with
        | zero => rfl
        | succ f => simp only [qe_P]; rw [if_neg g]
      rw [z, z]
theorem qe_pe_eq (q : Nat → Int32) (len k : Nat) : qe_pe q len k = if k < len ∧ qc_ax (q k) = true then qe_pe q len (qe_se q len k) else k := by
  have hg := qe_se_ge q len k
  by_cases g : k < len ∧ qc_ax (q k) = true
  · rw [if_pos g]
    obtain ⟨m, hm⟩ : ∃ m, len - k = m + 1 := ⟨len - k - 1, by omega⟩
    rw [show qe_pe q len k = qe_P q len (len - k) k from rfl, hm]
    simp only [qe_P]
    rw [if_pos g, qe_P_fuel q len m _ (by omega)]
  · rw [if_neg g, show qe_pe q len k = qe_P q len (len - k) k from rfl]
    cases len - k with
    | zero => rfl
    | succ f => simp only [qe_P]; rw [if_neg g]
/-- behind the brackets the step is done, at the same level, with what the level knows unchanged -/
def qe_Sm (S S' : qc_St) : Prop := S'.1 = 3 ∧ S'.2.1 = S.2.1 ∧ S'.2.2.2.1 S.2.1 = S.2.2.2.1 S.2.1 ∧ S'.2.2.2.2 S.2.1 = S.2.2.2.2 S.2.1
theorem qe_cl_same {q : Nat → Int32} {len t : Nat} (G : qe_G q len) (ht : t < len) (h1 : q t = 1) : qe_Sm (qc_tr q t) (qc_tr q (qe_cl q len t + 1)) := by
  obtain ⟨c1, c2, c3, c4, c5⟩ := qe_cl_spec G ht h1
  have s := (qe_st G c2).2.1 c3
  refine ⟨s.2.1, c4, ?_⟩
  have key : ∀ d x, x = t + 1 + d → x ≤ qe_cl q len t + 1 → (qc_tr q x).2.2.2.1 (qc_tr q t).2.1 = (qc_tr q t).2.2.2.1 (qc_tr q t).2.1 ∧ (qc_tr q x).2.2.2.2 (qc_tr q t).2.1 = (qc_tr q t).2.2.2.2 (qc_tr q t).2.1 := by
    intro d
    induction d with
    | zero => intro x e _; rw [e]; exact (qe_st G ht).2.2.2.2 h1
    | succ d ih =>
      intro x e hx
      have a := ih (t + 1 + d) rfl (by omega)
      have b := (qe_st G (show t + 1 + d < len by omega)).2.2.2.1 (qc_tr q t).2.1 (c5 _ (by omega) (by omega))
      rw [show x = t + 1 + d + 1 by omega]
      exact ⟨b.1.trans a.1, b.2.trans a.2⟩
  exact key (qe_cl q len t - t) (qe_cl q len t + 1) (by omega) (Nat.le_refl _)
theorem qe_Sm_refl {S : qc_St} (h : S.1 = 3) : qe_Sm S S := ⟨h, rfl, rfl, rfl⟩
theorem qe_Sm_trans {S S' S'' : qc_St} (h : qe_Sm S S') (h' : qe_Sm S' S'') : qe_Sm S S'' := by
  obtain ⟨a1, a2, a3, a4⟩ := h
  obtain ⟨b1, b2, b3, b4⟩ := h'
  rw [a2] at b2 b3 b4
  exact ⟨b1, b2, b3.trans a3, b4.trans a4⟩
theorem qe_so_spec {q : Nat → Int32} {len : Nat} (G : qe_G q len) : ∀ f k, len - k ≤ f → k ≤ len → (qc_tr q k).1 = 3 → qe_so q len k ≤ len ∧ qe_Sm (qc_tr q k) (qc_tr q (qe_so q len k)) ∧ (qe_so q len k < len → q (qe_so q len k) ≠ 1) := by
  intro f
  induction f with
  | zero =>
    intro k h hk hs
    rw [qe_so_eq, if_neg (by omega)]
    exact ⟨hk, qe_Sm_refl hs, fun z => by omega⟩
  | succ f ih =>
    intro k h hk hs
    rw [qe_so_eq]
    by_cases g : k < len ∧ q k = 1
    · rw [if_pos g]
      have c := qe_cl_spec G g.1 g.2
      have c1 := c.1
      have c2 := c.2.1
      have sm := qe_cl_same G g.1 g.2
      obtain ⟨a1, a2, a3⟩ := ih (qe_cl q len k + 1) (by omega) (by omega) sm.1
      exact ⟨a1, qe_Sm_trans sm a2, a3⟩
    · rw [if_neg g]
      exact ⟨hk, qe_Sm_refl hs, fun z y => g ⟨z, y⟩⟩
end
section
/-! compile -/
def qe_tk (qu pd : Nat → Int32) (w k : Nat) : Nat → Int32 := fun x => if x < k then (if x < w then pd x else 0) else qu x
theorem qe_tk_0 (qu pd : Nat → Int32) (w : Nat) : qe_tk qu pd w 0 = qu := by funext x; unfold qe_tk; rw [if_neg (by omega)]
theorem qe_tk_s (qu pd : Nat → Int32) (w k : Nat) : upd (qe_tk qu pd w k) k (if k < w then pd k else 0) = qe_tk qu pd w (k + 1) := by
  funext x
  unfold upd qe_tk
  by_cases e : x = k
  · subst e; rw [if_pos rfl, if_pos (show x < x + 1 by omega)]
  · rw [if_neg e]
    by_cases g : x < k
    · rw [if_pos g, if_pos (show x < k + 1 by omega)]
    · rw [if_neg g, if_neg (by omega)]
theorem qe_m1 (k : Nat) : nI k + (-1) = nI k - 1 := by rw [Int32.sub_eq_add_neg]
theorem qe_axt {q : Nat → Int32} {len t : Nat} (G : qe_G q len) (ht : t < len) (ha : qc_ax (q t) = true) : (qc_tr q (t + 1)).1 = 2 ∧ (qc_tr q (t + 1)).2.1 = (qc_tr q t).2.1 ∧ (qc_tr q (t + 1)).2.2.2.1 = (qc_tr q t).2.2.2.1 ∧ ((qc_tr q t).1 ≠ 4 → (qc_tr q (t + 1)).2.2.2.2 = (qc_tr q t).2.2.2.2) ∧ ((qc_tr q t).1 = 1 ∨ (qc_tr q t).1 = 3 ∨ (qc_tr q t).1 = 4) ∧ ((qc_tr q t).1 = 4 → (qc_tr q (t + 1)).2.2.2.2 (qc_tr q t).2.1 = false) := by
  have hz := qe_nz (k := t + 1) G (by omega)
  have W := qe_W (k := t) G (by omega)
  show (qc_nx (qc_tr q t) (q t)).1 = 2 ∧ (qc_nx (qc_tr q t) (q t)).2.1 = _ ∧ (qc_nx (qc_tr q t) (q t)).2.2.2.1 = _ ∧ (_ → (qc_nx (qc_tr q t) (q t)).2.2.2.2 = _) ∧ _ ∧ (_ → (qc_nx (qc_tr q t) (q t)).2.2.2.2 _ = _)
  have hz : (qc_nx (qc_tr q t) (q t)).1 ≠ 0 := hz
  rcases hk : qc_tr q t with ⟨s, l, o, pa, ct⟩
  rw [hk] at W hz
  obtain ⟨w1, w2, w3, w4, w5, w6⟩ := W
  generalize q t = x at ha hz
  have n5 : x ≠ 5 := by rintro rfl; exact absurd ha (by decide)
  have n6 : x ≠ 6 := by rintro rfl; exact absurd ha (by decide)
  have n4 : x ≠ 4 := by rintro rfl; exact absurd ha (by decide)
  have n2 : x ≠ 2 := by rintro rfl; exact absurd ha (by decide)
  have nm : ¬ qc_nm x = true := by
    intro z
    have a := of_decide_eq_true ha
    have b := of_decide_eq_true z
    exact b.1 (Int32.lt_of_le_of_lt (Int32.not_lt.mp a.2) (by decide))
  have nu : ¬ qc_nu x = true := by
    intro z
    have a := of_decide_eq_true ha
    have b := of_decide_eq_true z
    exact b.1 (Int32.lt_of_le_of_lt (Int32.not_lt.mp a.2) (by decide))
  have nc : ¬ qc_cp x = true := by
    intro z
    rcases of_decide_eq_true z with rfl | rfl | rfl <;> exact absurd ha (by decide)
  have af : (qc_af l o pa ct x).1 = 0 := by
    unfold qc_af
    rw [if_neg (by rintro (z | z); exact n5 z; exact n6 z), if_neg (fun z => n4 z.1), if_neg (fun z => n2 z.1)]
  have hs : s = 1 ∨ s = 2 ∨ s = 3 ∨ s = 4 ∨ s = 5 ∨ s = 6 ∨ s = 7 := by omega
  rcases hs with rfl | rfl | rfl | rfl | rfl | rfl | rfl
  · rw [qc_nx_1, if_pos ha]; exact ⟨rfl, rfl, rfl, fun _ => rfl, Or.inl rfl, fun z => absurd z (by show ¬ (1 = 4); omega)⟩
  · rw [qc_nx_2, if_neg nm] at hz; exact absurd rfl hz
  · rw [qc_nx_3]; unfold qc_sp; rw [if_pos ha]; exact ⟨rfl, rfl, rfl, fun _ => rfl, Or.inr (Or.inl rfl), fun z => absurd z (by show ¬ (3 = 4); omega)⟩
  · rw [qc_nx_4]
    unfold qc_op
    rw [if_neg (by rintro rfl; exact absurd ha (by decide)), if_neg (by rintro rfl; exact absurd ha (by decide)), if_neg (by rintro (rfl | rfl) <;> exact absurd ha (by decide)), if_neg (by rintro rfl; exact absurd ha (by decide)), if_neg (by rintro rfl; exact absurd ha (by decide)), if_pos ha]
    exact ⟨rfl, rfl, rfl, fun z => absurd rfl z, Or.inr (Or.inr rfl), fun _ => qc_put_s⟩
  · rw [qc_nx_5, if_neg nc] at hz; exact absurd rfl hz
  · rw [qc_nx_6, if_neg nu] at hz; exact absurd rfl hz
  · rw [qc_nx_7] at hz; exact absurd af hz
theorem qe_nmt {q : Nat → Int32} {len t : Nat} (G : qe_G q len) (ht : t < len) (hs : (qc_tr q t).1 = 2) : qc_nm (q t) = true ∧ (qc_tr q (t + 1)).1 = 3 ∧ (qc_tr q (t + 1)).2 = (qc_tr q t).2 := by
  have hz := qe_nz (k := t + 1) G (by omega)
  show _ ∧ (qc_nx (qc_tr q t) (q t)).1 = 3 ∧ (qc_nx (qc_tr q t) (q t)).2 = _
  have hz : (qc_nx (qc_tr q t) (q t)).1 ≠ 0 := hz
  rcases hk : qc_tr q t with ⟨s, l, o, pa, ct⟩
  rw [hk] at hs hz
  have hs : s = 2 := hs
  subst hs
  rw [qc_nx_2] at hz ⊢
  by_cases g : qc_nm (q t) = true
  · rw [if_pos g]; exact ⟨g, rfl, rfl⟩
  · rw [if_neg g] at hz; exact absurd rfl hz
/-- an axis token begins a step: its name stands behind it, and behind the step it is done -/
theorem qe_se_spec {q : Nat → Int32} {len t : Nat} (G : qe_G q len) (ht : t < len) (ha : qc_ax (q t) = true) :
    t + 1 < len ∧ qc_nm (q (t + 1)) = true ∧ (qc_tr q (t + 2)).1 = 3 ∧ qe_se q len t ≤ len ∧ qe_Sm (qc_tr q (t + 1)) (qc_tr q (qe_se q len t)) ∧ (qe_se q len t < len → q (qe_se q len t) ≠ 1) := by
  obtain ⟨a1, a2, a3, a4, a5⟩ := qe_axt G ht ha
  have h1 : t + 1 < len := by
    by_cases e : t + 1 = len
    · rw [e, G.1] at a1; omega
    · omega
  obtain ⟨b1, b2, b3⟩ := qe_nmt G h1 a1
  obtain ⟨c1, c2, c3⟩ := qe_so_spec G (len - (t + 2)) (t + 2) (Nat.le_refl _) (by omega) b2
  refine ⟨h1, b1, b2, c1, ?_, c3⟩
  have b3 : (qc_tr q (t + 2)).2 = (qc_tr q (t + 1)).2 := b3
  unfold qe_Sm at c2 ⊢
  rw [b3] at c2
  exact c2
section
variable {xlim : Int32} {xn : Int32} {xpc : Int32} {xlv : Int32} {xop : Int32} {xql : Int32} {xrc : Int32} {xrt : Int64} {xod : (Nat → Int32)} {xpo : (Nat → Int32)} {xnm : (Nat → Int32)} {xvl : (Nat → Int32)} {xmv : (Nat → Int32)} {xrk : (Nat → Int32)} {xpt : (Nat → Int32)} {xsz : (Nat → Int32)} {xpd : (Nat → Int32)} {xpa : (Nat → Int32)} {xct : (Nat → Int32)} {xqu : (Nat → Int32)} {xco : (Nat → Int32)} {xse : (Nat → Int32)} {xpe : (Nat → Int32)} {xgv : (Nat → Int64)} {xan : (Nat → Int64)} {xal : (Nat → Int64)} {xng : (Nat → Int32)} {xrs : (Nat → Int32)} {ymo : Int32} {yn : Int32} {yw : Int32} {yle : Int32} {yfo : Int32} {yli : Int32} {yat : Int32} {ysu : Int64} {yid : (Nat → Int32)} {ydp : (Nat → Int32)} {ynm : (Nat → Int32)} {yvl : (Nat → Int32)} {yci : (Nat → Int32)} {ycd : (Nat → Int32)} {ypd : (Nat → Int32)} {yqu : (Nat → Int32)} {ygv : (Nat → Int64)} {yls : (Nat → Int32)} {yrs : (Nat → Int32)} {yor : (Nat → Int32)} {yan : (Nat → Int32)} {yno : (Nat → Int32)} {yow : (Nat → Int32)} {ypa : (Nat → Int32)}
theorem qe_xtk {w : Nat} {post : SX → Prop} (hw : w ≤ 40) (h : post (xlim, xn, nI w, xlv, xop, nI w, xrc, xrt, xod, xpo, xnm, xvl, xmv, xrk, xpt, xsz, xpd, xpa, xct, qe_tk xqu xpd w 41, xco, xse, xpe, xgv, xan, xal, xng, xrs)) : wpX_takePending post (xlim, xn, nI w, xlv, xop, xql, xrc, xrt, xod, xpo, xnm, xvl, xmv, xrk, xpt, xsz, xpd, xpa, xct, xqu, xco, xse, xpe, xgv, xan, xal, xng, xrs) := by
  have key : ∀ k r, r + k = 41 → wX_takePending_10 post xlim xn (nI w) xlv xop (nI w) xrc xrt (k + 1) (nI r) xod xpo xnm xvl xmv xrk xpt xsz xpd xpa xct (qe_tk xqu xpd w r) xco xse xpe xgv xan xal xng xrs := by
    intro k
    induction k with
    | zero =>
      intro r e
      have e : r = 41 := by omega
      subst e
      exact br_t (by decide) h
    | succ k ih =>
      intro r e
      refine br_f (nI_ge (b := 41) (by omega) (by omega)) ?_
      have c := qe_tk_s xqu xpd w r
      refine pk_le w r (fun g => ?_) (fun g => ?_)
      · refine ⟨vp_in_nI (by omega) (by omega), fun a ea y ey => ?_⟩
        rw [nI_clamp (by omega)] at ea
        rw [if_neg (by omega)] at c
        rw [c] at ea
        rw [nI_1] at ey
        subst ea; subst ey
        exact ih (r + 1) (by omega)
      · refine ⟨vp_in_nI (by omega) (by omega), vp_in_nI (by omega) (by omega), fun a ea y ey => ?_⟩
        rw [nI_clamp (by omega)] at ea
        rw [if_pos g] at c
        rw [c] at ea
        rw [nI_1] at ey
        subst ea; subst ey
        exact ih (r + 1) (by omega)
  have c := key 41 0 (by omega)
  rw [qe_tk_0] at c
  exact Exists.intro _ c
theorem qe_ycp {w : Nat} {post : Int32 → SY → Prop} (hw : w ≤ 40) (h : post 0 (ymo, yn, yw, nI w, yfo, yli, yat, ysu, yid, ydp, ynm, yvl, yci, ycd, ypd, qa_bl yqu ypd 0 w, ygv, yls, yrs, yor, yan, yno, yow, ypa)) : ∃ f, wY_compile_24 post (nI w) ymo yn yw yle yfo yli yat ysu f 0 yid ydp ynm yvl yci ycd ypd yqu ygv yls yrs yor yan yno yow ypa := by
  have key : ∀ k r, r + k = w → wY_compile_24 post (nI w) ymo yn yw yle yfo yli yat ysu (k + 1) (nI r) yid ydp ynm yvl yci ycd ypd (qa_bl yqu ypd 0 r) ygv yls yrs yor yan yno yow ypa := by
    intro k
    induction k with
    | zero =>
      intro r e
      have e : r = w := by omega
      subst e
      exact br_t (nI_le (by omega) (by omega)) h
    | succ k ih =>
      intro r e
      have i1 : vp_in (nI r) 40 := vp_in_nI (by omega) (by omega)
      refine br_f (nI_ge (by omega) (by omega)) ⟨i1, i1, fun a ea y ey => ?_⟩
      have c := qa_bl_s yqu ypd 0 r
      rw [Nat.zero_add] at c
      rw [nI_clamp (by omega), c] at ea
      rw [nI_1] at ey
      subst ea; subst ey
      exact ih (r + 1) (by omega)
  have c := key w 0 (by omega)
  rw [qa_bl_0] at c
  exact ⟨_, c⟩
theorem qe_xcb {q : Nat → Int32} {len t : Nat} {post : Int32 → Prop} (hl : len ≤ 40) (ht : t < len) (h1 : q t = 1) (h : post (nI (qe_cl q len t))) : wpX_closingBracket post (xlim, xn, xpc, xlv, xop, nI len, xrc, xrt, xod, xpo, xnm, xvl, xmv, xrk, xpt, xsz, xpd, xpa, xct, q, xco, xse, xpe, xgv, xan, xal, xng, xrs) (nI t) := by
  have key : ∀ f e k, k + f = len → 1 ≤ e → e ≤ k + 1 → post (nI (qe_C q f e k)) → wX_closingBracket_4 post xlim xn xpc xlv xop (nI len) xrc xrt xod xpo xnm xvl xmv xrk xpt xsz xpd xpa xct q xco xse xpe xgv xan xal xng xrs (f + 1) (nI e) (nI k) := by
    intro f
    induction f with
    | zero =>
      intro e k hk _ _ hp
      simp only [qe_C] at hp
      rw [show k = len by omega] at hp ⊢
      exact br_t (nI_le (Nat.le_refl _) (by omega)) hp
    | succ f ih =>
      intro e k hk he he2 hp
      simp only [qe_C] at hp
      have ik : vp_in (nI k) 41 := vp_in_nI (by omega) (by omega)
      have ek : (nI k).toNatClampNeg = k := nI_clamp (by omega)
      refine br_f (nI_ge (by omega) (by omega)) ⟨ik, ?_⟩
      rw [ek]
      by_cases g1 : q k = 1
      · rw [if_pos g1] at hp
        exact br_t g1 (nm_r (nI_1 e) (nm_r (nI_1 k) (ih (e + 1) (k + 1) (by omega) (by omega) (by omega) hp)))
      · rw [if_neg g1] at hp
        refine br_f g1 ⟨ik, ?_⟩
        by_cases g2 : q k = 2
        · rw [if_pos g2] at hp
          refine br_t g2 (nm_r (sb_m1 he) ?_)
          refine pk_eq (e - 1) 0 (fun g3 => ?_) (fun g3 => ?_)
          · rw [if_pos (by omega)] at hp; exact hp
          · rw [if_neg (by omega)] at hp
            exact nm_r (nI_1 k) (ih (e - 1) (k + 1) (by omega) (by omega) (by omega) hp)
        · rw [if_neg g2] at hp
          exact br_f g2 (nm_r (nI_1 k) (ih e (k + 1) (by omega) (by omega) (by omega) hp))
  refine Exists.intro (len - (t + 1) + 1 + 1) (br_f (nI_ge (by omega) (by omega)) ⟨vp_in_nI (by omega) (by omega), br_t (by rw [nI_clamp (by omega)]; exact h1) (nm_r (show (0 : Int32) + 1 = nI 1 by decide) (nm_r (nI_1 t) ?_))⟩)
  exact key (len - (t + 1)) 1 (t + 1) (by omega) (by omega) (by omega) h
theorem qe_xes {q co : Nat → Int32} {len t : Nat} {post : Int32 → Prop} (hl : len ≤ 40) (ht : t + 2 ≤ len) (hc : ∀ x, t < x → x < len → q x = 1 → co x = nI (qe_cl q len x) ∧ qe_cl q len x < len) (h : post (nI (qe_se q len t))) : wpX_endOfStep post (xlim, xn, xpc, xlv, xop, nI len, xrc, xrt, xod, xpo, xnm, xvl, xmv, xrk, xpt, xsz, xpd, xpa, xct, q, co, xse, xpe, xgv, xan, xal, xng, xrs) (nI t) := by
  have key : ∀ f k E, k + f = len → t < k → E ≤ len → (E < k → post (nI E)) → (k ≤ E → post (nI (qe_so q len E))) → wX_endOfStep_8 post xlim xn xpc xlv xop (nI len) xrc xrt xod xpo xnm xvl xmv xrk xpt xsz xpd xpa xct q co xse xpe xgv xan xal xng xrs (f + 1) (nI E) (nI k) := by
    intro f
    induction f with
    | zero =>
      intro k E hk htk hE h1 h2
      refine br_t (nI_le (by omega) (by omega)) ?_
      by_cases e : E < k
      · exact h1 e
      · have := h2 (by omega)
        rw [qe_so_eq, if_neg (by omega)] at this; exact this
    | succ f ih =>
      intro k E hk htk hE h1 h2
      refine br_f (nI_ge (by omega) (by omega)) ?_
      refine pk_eq k E (fun g => ⟨vp_in_nI (by omega) (by omega), ?_⟩) (fun g => ?_)
      · subst g
        rw [nI_clamp (by omega)]
        have h2 := h2 (Nat.le_refl _)
        rw [qe_so_eq] at h2
        by_cases g1 : q k = 1
        · rw [if_pos ⟨by omega, g1⟩] at h2
          have c := hc k htk (by omega) g1
          have cg := qe_cl_ge q len k
          refine br_t g1 ⟨vp_in_nI (by omega) (by omega), nm_r (e' := nI (qe_cl q len k + 1)) (by rw [c.1, nI_1]) (nm_r (nI_1 k) (ih (k + 1) _ (by omega) (by omega) (by omega) (fun z => by omega) (fun _ => h2)))⟩
        · rw [if_neg (fun z => g1 z.2)] at h2
          exact br_f g1 (nm_r (nI_1 k) (ih (k + 1) k (by omega) (by omega) (by omega) (fun _ => h2) (fun z => by omega)))
      · exact nm_r (nI_1 k) (ih (k + 1) E (by omega) (by omega) hE (fun z => h1 (by omega)) (fun z => h2 (by omega)))
  exact nm_r (nI_add t 2) (nm_r (nI_add t 2) (Exists.intro _ (key (len - (t + 2)) (t + 2) (t + 2) (by omega) (by omega) ht (fun z => by omega) (fun _ => h))))
/-- what noteEnds has noted of the tokens from t on -/
def qe_N (q : Nat → Int32) (len t : Nat) (co se pe : Nat → Int32) : Prop :=
  (∀ x, t ≤ x → x < len → q x = 1 → co x = nI (qe_cl q len x)) ∧ (∀ x, t ≤ x → x < len → qc_ax (q x) = true → se x = nI (qe_se q len x) ∧ pe x = nI (qe_pe q len x))
theorem qe_pe_le {q : Nat → Int32} {len : Nat} (G : qe_G q len) : ∀ f k, len - k ≤ f → k ≤ len → k ≤ qe_pe q len k ∧ qe_pe q len k ≤ len := by
  intro f
  induction f with
  | zero => intro k h hk; rw [qe_pe_eq, if_neg (by omega)]; omega
  | succ f ih =>
    intro k h hk
    rw [qe_pe_eq]
    by_cases g : k < len ∧ qc_ax (q k) = true
    · rw [if_pos g]
      have a := qe_se_spec G g.1 g.2
      have a4 := a.2.2.2.1
      have b := qe_se_ge q len k
      have := ih (qe_se q len k) (by omega) a4
      omega
    · rw [if_neg g]; omega
theorem qe_xn32 {q : Nat → Int32} {len t : Nat} {post : SX → Prop} {J : Int32 → (Nat → Int32) → (Nat → Int32) → (Nat → Int32) → (Nat → Int32) → (Nat → Int32) → (Nat → Int32) → (Nat → Int32) → (Nat → Int32) → (Nat → Int32) → (Nat → Int32) → (Nat → Int32) → (Nat → Int32) → (Nat → Int32) → (Nat → Int32) → (Nat → Int32) → (Nat → Int64) → (Nat → Int64) → (Nat → Int64) → (Nat → Int32) → (Nat → Int32) → Prop} (G : qe_G q len) (hl : len ≤ 40) (hq : ∀ x, len ≤ x → x < 41 → q x = 0) (ht : t < len)
    (N : qe_N q len (t + 1) xco xse xpe) (hc : q t = 1 → xco t = nI (qe_cl q len t))
    (h : ∀ se pe, qe_N q len t xco se pe → J (nI t - 1) xod xpo xnm xvl xmv xrk xpt xsz xpd xpa xct q xco se pe xgv xan xal xng xrs) : wX_noteEnds_32 post J (nI t) xlim xn xpc xlv xop (nI len) xrc xrt xod xpo xnm xvl xmv xrk xpt xsz xpd xpa xct q xco xse xpe xgv xan xal xng xrs := by
  have et : (nI t).toNatClampNeg = t := nI_clamp (by omega)
  have it : vp_in (nI t) 40 := vp_in_nI (by omega) (by omega)
  have nc : ∀ x, t ≤ x → x < len → q x = 1 → xco x = nI (qe_cl q len x) := by
    intro x h1 h2 h3
    by_cases e : x = t
    · rw [e] at h3 ⊢; exact hc h3
    · exact N.1 x (by omega) h2 h3
  refine And.intro (vp_in_nI (by omega) (by omega)) ?_
  rw [et]
  refine qc_xax (qa_br (fun g => ?_) (fun g => ?_))
  · refine nm_r (qe_m1 t) (h _ _ ⟨nc, fun x h1 h2 h3 => ?_⟩)
    by_cases e : x = t
    · rw [e, g] at h3; exact absurd h3 (by decide)
    · exact N.2 x (by omega) h2 h3
  · obtain ⟨a1, a2, a3, a4, a5, a6⟩ := qe_se_spec G ht g
    have b := qe_se_ge q len t
    refine qe_xes hl (by omega) (fun x h1 h2 h3 => ⟨N.1 x (by omega) h2 h3, (qe_cl_spec G h2 h3).2.1⟩) ⟨it, fun a ea => ⟨vp_in_nI (by omega) (by omega), ?_⟩⟩
    rw [nI_clamp (n := qe_se q len t) (by omega)]
    have pe := qe_pe_eq q len t
    rw [if_pos ⟨ht, g⟩] at pe
    refine qc_xax (qa_br (fun g2 => ⟨it, fun b eb => ?_⟩) (fun g2 => ?_))
    · refine nm_r (qe_m1 t) (h _ _ ⟨nc, fun x h1 h2 h3 => ?_⟩)
      by_cases e : x = t
      · rw [e, ea, eb]
        refine ⟨pk_us, ?_⟩
        rw [pk_us, pe, qe_pe_eq, if_neg (fun z => by rw [g2] at z; exact absurd z.2 (by decide))]
      · rw [ea, eb, pk_un e, pk_un e]; exact N.2 x (by omega) h2 h3
    · have hlt : qe_se q len t < len := by
        refine Nat.lt_of_not_le (fun z => ?_)
        rw [hq _ z (by omega)] at g2
        exact absurd g2 (by decide)
      refine ⟨vp_in_nI (by omega) (by omega), it, fun b eb => ?_⟩
      rw [(N.2 (qe_se q len t) (by omega) hlt g2).2, ← pe] at eb
      refine nm_r (qe_m1 t) (h _ _ ⟨nc, fun x h1 h2 h3 => ?_⟩)
      by_cases e : x = t
      · rw [e, ea, eb]; exact ⟨pk_us, pk_us⟩
      · rw [ea, eb, pk_un e, pk_un e]; exact N.2 x (by omega) h2 h3
theorem qe_xne {q : Nat → Int32} {len : Nat} {post : SX → Prop} (G : qe_G q len) (hl : len ≤ 40) (hq : ∀ x, len ≤ x → x < 41 → q x = 0)
    (h : ∀ co se pe, qe_N q len 0 co se pe → post (xlim, xn, xpc, xlv, xop, nI len, xrc, xrt, xod, xpo, xnm, xvl, xmv, xrk, xpt, xsz, xpd, xpa, xct, q, co, se, pe, xgv, xan, xal, xng, xrs)) : wpX_noteEnds post (xlim, xn, xpc, xlv, xop, nI len, xrc, xrt, xod, xpo, xnm, xvl, xmv, xrk, xpt, xsz, xpd, xpa, xct, q, xco, xse, xpe, xgv, xan, xal, xng, xrs) := by
  have key : ∀ k co se pe, k ≤ len → qe_N q len k co se pe → wX_noteEnds_7 post xlim xn xpc xlv xop (nI len) xrc xrt (k + 1) (nI k - 1) xod xpo xnm xvl xmv xrk xpt xsz xpd xpa xct q co se pe xgv xan xal xng xrs := by
    intro k
    induction k with
    | zero => intro co se pe _ N; exact br_t (by decide) (h co se pe N)
    | succ k ih =>
      intro co se pe hk N
      rw [nI_pred]
      refine br_f (nI_pos (by omega)) ⟨vp_in_nI (by omega) (by omega), ?_⟩
      rw [nI_clamp (n := k) (by omega)]
      refine br_c (fun g => ?_) (fun g => ?_)
      · refine qe_xcb hl (by omega) g ⟨vp_in_nI (by omega) (by omega), fun a ea => ?_⟩
        have N' : qe_N q len (k + 1) a se pe := by
          refine ⟨fun x h1 h2 h3 => ?_, N.2⟩
          rw [ea, pk_un (by omega)]; exact N.1 x h1 h2 h3
        exact qe_xn32 G hl hq (by omega) N' (fun _ => by rw [ea]; exact pk_us) (fun se' pe' N'' => ih a se' pe' (by omega) N'')
      · exact qe_xn32 G hl hq (by omega) N (fun z => absurd z g) (fun se' pe' N'' => ih co se' pe' (by omega) N'')
  exact nm_e (Exists.intro _ (key len xco xse xpe (Nat.le_refl _) ⟨fun x h1 h2 => by omega, fun x h1 h2 => by omega⟩))
end
theorem i_vc_compile {k : Nat} {u : SX} {v : SY} (I : i_Rel k u v) (hk : k + 5 ≤ 2561) : wpX_compile (fun r u' => wpY_compile (fun r' v' => r' = r ∧ i_Rel (k + 5) u' v') v) u := by
  have I0 := I
  obtain ⟨L, n, w, len, fd, i, d, xlv, xop, sm, id, po, nm, vl, mv, rk, pt, sz, pd, xpa, xct, qx, co, se, pe, xgv, xan, xal, xng, rs, yli, yat, dp, yci, ycd, qy, ygv, yls, yor, yan, yno, yow, ypa, rfl, rfl, hL, hw, hf, B, N, Q⟩ := I
  unfold wpX_compile wpY_compile
  dsimp only
  have hle := qc_wp_le pd w 0
  refine qc_xwp hw (fun lv op pa ct => ?_)
  refine pk_eq (qc_wp pd w 0) 0 (fun g => ?_) (fun g => ?_)
  · have T := qc_wp_0 pd w 0 g
    rw [Nat.zero_add] at T
    have eq : ∀ x, x < w → qe_tk qx pd w 41 x = pd x := by
      intro x hx
      unfold qe_tk
      rw [if_pos (by omega), if_pos hx]
    have G : qe_G (qe_tk qx pd w 41) w := by
      unfold qe_G
      rw [qc_tr_c w eq]; exact T
    have hq : ∀ x, w ≤ x → x < 41 → qe_tk qx pd w 41 x = 0 := by
      intro x h1 h2
      unfold qe_tk
      rw [if_pos h2, if_neg (by omega)]
    refine qe_xtk hw (qe_xne G hw hq (fun co' se' pe' N' => ?_))
    refine qc_ywp hw (fun ow pa' => ?_)
    have Q' : qr_Q w (qe_tk qx pd w 41) (qa_bl qy pd 0 w) co' se' pe' := by
      refine ⟨hw, fun t ht => ?_, hq, fun _ => G, fun t ht => N'.1 t (by omega) ht, fun t ht => N'.2 t (by omega) ht⟩
      rw [eq t ht]
      unfold qa_bl
      rw [if_pos ht, Nat.zero_add]
    exact br_t (by rw [g]; decide) (qe_ycp hw ⟨by rw [g]; rfl, qr_mk (w := 0) hL (by omega) hf B N Q'⟩)
  · refine qc_ywp hw (fun ow pa' => br_f (nI_ne0 (by omega) (by omega)) ⟨rfl, ?_⟩)
    exact qr_mk (w := 0) hL (by omega) hf B N Q
end
section
/-! longs by their bits -/
def qb (x : Int64) (i : Nat) : Bool := x.toBitVec.getLsbD i
theorem qb_ext {x y : Int64} (h : ∀ i, i < 64 → qb x i = qb y i) : x = y := Int64.toBitVec_inj.mp (BitVec.eq_of_getLsbD_eq (fun i hi => h i hi))
theorem qb_or (x y : Int64) (i : Nat) : qb (x ||| y) i = (qb x i || qb y i) := by unfold qb; rw [Int64.toBitVec_or, BitVec.getLsbD_or]
theorem qb_and (x y : Int64) (i : Nat) : qb (x &&& y) i = (qb x i && qb y i) := by unfold qb; rw [Int64.toBitVec_and, BitVec.getLsbD_and]
theorem qb_xor (x y : Int64) (i : Nat) : qb (x ^^^ y) i = (qb x i ^^ qb y i) := by unfold qb; rw [Int64.toBitVec_xor, BitVec.getLsbD_xor]
theorem qb_big {x : Int64} {i : Nat} (h : 64 ≤ i) : qb x i = false := BitVec.getLsbD_of_ge _ _ h
theorem qb_0 (i : Nat) : qb 0 i = false := BitVec.getLsbD_zero
theorem qb_m1 : ∀ i, i < 64 → qb (-1) i = true := by decide +kernel
theorem qb_not (x : Int64) {i : Nat} (h : i < 64) : qb (x ^^^ (-1)) i = !qb x i := by rw [qb_xor, qb_m1 i h]; cases qb x i <;> rfl
theorem qb_1' : ∀ i, i < 64 → qb 1 i = decide (i = 0) := by decide +kernel
theorem qb_1 (i : Nat) : qb 1 i = decide (i = 0) := by
  rcases Nat.lt_or_ge i 64 with h | h
  · exact qb_1' i h
  · rw [qb_big h, decide_eq_false (by omega)]
theorem qb_cnt : ∀ n, n < 64 → (((nI n).toInt64 &&& 63).toBitVec.smod 64).toNat = n := by decide +kernel
theorem qb_shl (r : Nat) (hr : r < 64) (i : Nat) : qb ((1 : Int64) <<< ((nI r).toInt64 &&& 63)) i = decide (i = r) := by
  rcases Nat.lt_or_ge i 64 with h | h
  · unfold qb
    rw [Int64.toBitVec_shiftLeft]
    show ((1 : Int64).toBitVec <<< (((nI r).toInt64 &&& 63).toBitVec.smod 64).toNat).getLsbD i = _
    rw [qb_cnt r hr, BitVec.getLsbD_shiftLeft]
    have e : (1 : Int64).toBitVec.getLsbD (i - r) = decide (i - r = 0) := qb_1 (i - r)
    rw [e]
    by_cases g : i = r
    · subst g; simp [h]
    · by_cases g2 : i < r
      · simp [g2, g]
      · rw [decide_eq_false (show ¬ i - r = 0 by omega), decide_eq_false g]; simp
  · rw [qb_big h, decide_eq_false (by omega)]
theorem qb_shr (x : Int64) (r : Nat) (hr : r < 64) : qb (x >>> ((nI r).toInt64 &&& 63)) 0 = qb x r := by
  unfold qb
  rw [Int64.toBitVec_shiftRight]
  show (x.toBitVec.sshiftRight (((nI r).toInt64 &&& 63).toBitVec.smod 64).toNat).getLsbD 0 = _
  rw [qb_cnt r hr, BitVec.getLsbD_sshiftRight]
  simp [hr]
theorem qb_and1 (y : Int64) : y &&& 1 = if qb y 0 then 1 else 0 := by
  refine qb_ext (fun i hi => ?_)
  rw [qb_and, qb_1]
  by_cases g : i = 0
  · subst g
    cases h : qb y 0
    · rw [if_neg (by decide), qb_0]; rfl
    · rw [if_pos rfl, qb_1]; rfl
  · rw [decide_eq_false g, Bool.and_false]
    cases h : qb y 0
    · rw [if_neg (by decide), qb_0]
    · rw [if_pos rfl, qb_1, decide_eq_false g]
theorem qb_has (x : Int64) (r : Nat) (hr : r < 64) : ((x >>> ((nI r).toInt64 &&& 63)) &&& 1) = 0 ↔ qb x r = false := by
  rw [qb_and1, qb_shr x r hr]
  cases qb x r <;> decide
theorem qb_i32 (x : Int64) (r : Nat) (hr : r < 64) : (((x >>> ((nI r).toInt64 &&& 63)) &&& 1).toInt32) = qa_b (qb x r) := by
  rw [qb_and1, qb_shr x r hr]
  cases qb x r <;> decide
/-- a branch on a bit -/
theorem qb_br {x : Int64} {r : Nat} {A B : Prop} (hr : r < 64) (f : qb x r = false → A) (g : qb x r = true → B) : (((x >>> ((nI r).toInt64 &&& 63)) &&& 1) = 0 → A) ∧ (¬ ((x >>> ((nI r).toInt64 &&& 63)) &&& 1) = 0 → B) := by
  refine br_c (fun z => f ((qb_has x r hr).mp z)) (fun z => g ?_)
  rw [← Bool.not_eq_false]
  exact fun h => z ((qb_has x r hr).mpr h)
theorem qb_z {x : Int64} : x = 0 ↔ ∀ i, i < 64 → qb x i = false :=
  ⟨fun h i _ => by rw [h, qb_0], fun h => qb_ext (fun i hi => by rw [h i hi, qb_0])⟩
/-! counting bits -/
theorem qt_cn_front (C : Nat → Bool) : ∀ N, qt_cn C (N + 1) = (if C 0 then 1 else 0) + qt_cn (fun i => C (i + 1)) N := by
  intro N
  induction N with
  | zero => simp only [qt_cn]; omega
  | succ N ih =>
    rw [show qt_cn C (N + 1 + 1) = qt_cn C (N + 1) + (if C (N + 1) then 1 else 0) from rfl, ih]
    simp only [qt_cn]; omega
theorem qt_cn_c {C C' : Nat → Bool} : ∀ N, (∀ i, i < N → C i = C' i) → qt_cn C N = qt_cn C' N := by
  intro N
  induction N with
  | zero => intro _; rfl
  | succ N ih => intro h; simp only [qt_cn]; rw [ih (fun i hi => h i (by omega)), h N (by omega)]
theorem qt_cn_hi {C : Nat → Bool} (M : Nat) : ∀ N, M ≤ N → (∀ i, M ≤ i → i < N → C i = false) → qt_cn C N = qt_cn C M := by
  intro N
  induction N with
  | zero => intro h _; rw [show M = 0 by omega]
  | succ N ih =>
    intro h hc
    by_cases e : M = N + 1
    · rw [e]
    · simp only [qt_cn]
      rw [ih (by omega) (fun i h1 h2 => hc i h1 (by omega)), hc N (by omega) (by omega)]; rfl
theorem qb_kn : ∀ N a, 0 < a → a < 2 ^ N → qt_cn (fun i => (a &&& (a - 1)).testBit i) N + 1 = qt_cn (fun i => a.testBit i) N := by
  intro N
  induction N with
  | zero => intro a h1 h2; omega
  | succ N ih =>
    intro a h1 h2
    rw [qt_cn_front, qt_cn_front]
    have es : ∀ i, (a &&& (a - 1)).testBit (i + 1) = (a / 2 &&& (a - 1) / 2).testBit i := by
      intro i
      rw [Nat.testBit_and, Nat.testBit_and, Nat.testBit_succ, Nat.testBit_succ]
    have e2 : (fun i => (a &&& (a - 1)).testBit (i + 1)) = (fun i => (a / 2 &&& (a - 1) / 2).testBit i) := funext es
    have e3 : (fun i => a.testBit (i + 1)) = (fun i => (a / 2).testBit i) := funext (fun i => Nat.testBit_succ ..)
    rw [e2, e3]
    have b0 : (a &&& (a - 1)).testBit 0 = false := by
      rw [Nat.testBit_and, Nat.testBit_zero, Nat.testBit_zero]
      by_cases g : a % 2 = 1
      · rw [decide_eq_false (show ¬ (a - 1) % 2 = 1 by omega), Bool.and_false]
      · rw [decide_eq_false g, Bool.false_and]
    rw [b0, Nat.testBit_zero]
    by_cases g : a % 2 = 1
    · rw [decide_eq_true g, show (a - 1) / 2 = a / 2 by omega, Nat.and_self]
      simp only [if_true, Bool.false_eq_true, if_false]; omega
    · rw [decide_eq_false g, show (a - 1) / 2 = a / 2 - 1 by omega]
      have := ih (a / 2) (by omega) (by rw [Nat.pow_succ] at h2; omega)
      simp only [Bool.false_eq_true, if_false]; omega
theorem qb_lN {a : Nat} (h : a < 2 ^ 64) (i : Nat) : qb (lN a) i = a.testBit i := by
  unfold qb
  show (BitVec.ofNat 64 a).getLsbD i = _
  rw [BitVec.getLsbD_ofNat]
  by_cases g : i < 64
  · rw [decide_eq_true g, Bool.true_and]
  · rw [decide_eq_false g, Bool.false_and, Nat.testBit_lt_two_pow (Nat.lt_of_lt_of_le h (Nat.pow_le_pow_right (by omega) (by omega)))]
theorem qb_pop {x : Int64} (h : x ≠ 0) : qt_cn (qb (x &&& (x - 1))) 64 + 1 = qt_cn (qb x) 64 := by
  obtain ⟨a, ha, rfl⟩ := wb_of x
  have h0 : 0 < a := by
    refine Nat.pos_of_ne_zero (fun z => h ?_)
    rw [z]; rfl
  have e1 : lN a - 1 = lN (a - 1) := lN_sub (a := a) (b := 1) (by omega)
  rw [e1, wb_and ha (by omega)]
  have k := qb_kn 64 a h0 ha
  have hand : a &&& (a - 1) < 2 ^ 64 := Nat.lt_of_le_of_lt Nat.and_le_left ha
  rw [show qb (lN (a &&& (a - 1))) = (fun i => (a &&& (a - 1)).testBit i) from funext (qb_lN hand), show qb (lN a) = (fun i => a.testBit i) from funext (qb_lN ha)]
  exact k
theorem qs_ysz {x : Int64} {post : Int32 → Prop} (hx : ∀ i, 40 ≤ i → qb x i = false) (h : post (nI (qt_cn (qb x) 40))) : wpY_sizeOf post x := by
  have key : ∀ k c x, qt_cn (qb x) 64 = k → post (nI (c + k)) → wY_sizeOf_4 post (k + 1) (nI c) x := by
    intro k
    induction k with
    | zero =>
      intro c x hk hp
      have hz : x = 0 := by
        refine Classical.byContradiction (fun g => ?_)
        have := qb_pop g
        omega
      exact br_t hz hp
    | succ k ih =>
      intro c x hk hp
      have hz : ¬ x = 0 := by
        intro g
        rw [g, qt_cn_0 _ 64 (fun i _ => qb_0 i)] at hk
        omega
      refine br_f hz (nm_r (nI_1 c) (nm_e (ih (c + 1) _ ?_ ?_)))
      · have := qb_pop hz; omega
      · rw [show c + 1 + k = c + (k + 1) by omega]; exact hp
  refine Exists.intro _ (key _ 0 x rfl ?_)
  rw [Nat.zero_add, qt_cn_hi 40 64 (by omega) (fun i h1 _ => hx i h1)]; exact h
section
variable {xlim : Int32} {xn : Int32} {xpc : Int32} {xlv : Int32} {xop : Int32} {xql : Int32} {xrc : Int32} {xrt : Int64} {xod : (Nat → Int32)} {xpo : (Nat → Int32)} {xnm : (Nat → Int32)} {xvl : (Nat → Int32)} {xmv : (Nat → Int32)} {xrk : (Nat → Int32)} {xpt : (Nat → Int32)} {xsz : (Nat → Int32)} {xpd : (Nat → Int32)} {xpa : (Nat → Int32)} {xct : (Nat → Int32)} {xqu : (Nat → Int32)} {xco : (Nat → Int32)} {xse : (Nat → Int32)} {xpe : (Nat → Int32)} {xgv : (Nat → Int64)} {xan : (Nat → Int64)} {xal : (Nat → Int64)} {xng : (Nat → Int32)} {xrs : (Nat → Int32)}
theorem qs_xbc {x : Int64} {post : Int32 → Prop} (h : post (nI (qt_cn (qb x) 40))) : wpX_bitCount post (xlim, xn, xpc, xlv, xop, xql, xrc, xrt, xod, xpo, xnm, xvl, xmv, xrk, xpt, xsz, xpd, xpa, xct, xqu, xco, xse, xpe, xgv, xan, xal, xng, xrs) x := by
  have key : ∀ k r, r + k = 40 → wX_bitCount_5 post x xlim xn xpc xlv xop xql xrc xrt xod xpo xnm xvl xmv xrk xpt xsz xpd xpa xct xqu xco xse xpe xgv xan xal xng xrs (k + 1) (nI (qt_cn (qb x) r)) (nI r) := by
    intro k
    induction k with
    | zero =>
      intro r e
      have e : r = 40 := by omega
      subst e
      exact br_t (by decide) h
    | succ k ih =>
      intro r e
      refine br_f (nI_ge (b := 40) (by omega) (by omega)) (nm_r (e' := nI (qt_cn (qb x) (r + 1))) ?_ (nm_r (nI_1 r) (ih (r + 1) (by omega))))
      rw [qb_i32 x r (by omega)]
      simp only [qt_cn]
      rw [← nI_add]
      cases qb x r <;> rfl
  exact Exists.intro _ (key 40 0 (by omega))
theorem qs_xhas {x : Int64} {r : Nat} {post : Int32 → Prop} (hr : r < 64) (h : post (qa_b (qb x r))) : wpX_has post (xlim, xn, xpc, xlv, xop, xql, xrc, xrt, xod, xpo, xnm, xvl, xmv, xrk, xpt, xsz, xpd, xpa, xct, xqu, xco, xse, xpe, xgv, xan, xal, xng, xrs) x (nI r) := by
  refine qb_br hr (fun g => ?_) (fun g => ?_)
  · rw [g] at h; exact h
  · rw [g] at h; exact h
end
/-! order along an axis: forward or in reverse -/
def qs_rho (n : Nat) (rv : Bool) (k : Nat) : Nat := if rv then n - 1 - k else k
theorem qs_rho_lt {n : Nat} {rv : Bool} {k : Nat} (h : k < n) : qs_rho n rv k < n := by unfold qs_rho; split <;> omega
theorem qs_rho_2 {n : Nat} {rv : Bool} {k : Nat} (h : k < n) : qs_rho n rv (qs_rho n rv k) = k := by unfold qs_rho; split <;> omega
def qs_pos (n : Nat) (rv : Bool) (S : Nat → Bool) (x : Nat) : Nat := qt_cn (fun k => S (qs_rho n rv k)) (qs_rho n rv x + 1)
theorem qs_card (n : Nat) (rv : Bool) (S : Nat → Bool) : qt_cn (fun k => S (qs_rho n rv k)) n = qt_cn S n := by
  cases rv
  · rfl
  · have key : ∀ j, j ≤ n → qt_cn (fun k => S (qs_rho n true k)) j + qt_cn S (n - j) = qt_cn S n := by
      intro j
      induction j with
      | zero => intro _; simp only [qt_cn]; rw [Nat.sub_zero]; omega
      | succ j ih =>
        intro hj
        have a := ih (by omega)
        have e : n - j = (n - (j + 1)) + 1 := by omega
        rw [e] at a
        simp only [qt_cn] at a ⊢
        have er : qs_rho n true j = n - (j + 1) := by unfold qs_rho; rw [if_pos rfl]; omega
        simp only [er]
        omega
    have := key n (Nat.le_refl _)
    rw [Nat.sub_self] at this
    exact this
end
section
/-! the axes -/
def qs_ax (n : Nat) (d : Nat → Nat) (a c x : Nat) : Bool :=
  if a = 0 then decide (x = c) else if a = 1 then qt_ch n d c x else if a = 2 then qt_ch n d x c else if a = 3 then qt_ab n d c x else if a = 4 then qt_ab n d x c
  else if a = 5 then (decide (x = c) || qt_ab n d c x) else if a = 6 then (decide (x = c) || qt_ab n d x c) else if a = 7 then decide (c < x ∧ 0 < c ∧ qt_pr d c = qt_pr d x)
  else if a = 8 then decide (x < c ∧ 0 < x ∧ qt_pr d c = qt_pr d x) else if a = 9 then (decide (c < x) && !qt_ab n d c x) else (decide (x < c) && !qt_ab n d x c)
def qs_rv (a : Nat) : Bool := decide (a = 2 ∨ a = 4 ∨ a = 6 ∨ a = 8 ∨ a = 10)
theorem qs_pif {c : Prop} {b : Bool} {post : Int32 → Prop} (e : c ↔ b = true) (h : post (qa_b b)) : (c → post 1) ∧ (¬ c → post 0) := by
  cases b
  · exact ⟨fun z => absurd (e.mp z) (by decide), fun _ => h⟩
  · exact ⟨fun _ => h, fun z => absurd (e.mpr rfl) z⟩
theorem qs_pif' {c : Prop} {b : Bool} {post : Int32 → Prop} (e : c ↔ b = false) (h : post (qa_b b)) : (c → post 0) ∧ (¬ c → post 1) := by
  cases b
  · exact ⟨fun _ => h, fun z => absurd (e.mpr rfl) z⟩
  · exact ⟨fun z => absurd (e.mp z) (by decide), fun _ => h⟩
section
variable {xlim : Int32} {xn : Int32} {xpc : Int32} {xlv : Int32} {xop : Int32} {xql : Int32} {xrc : Int32} {xrt : Int64} {xod : (Nat → Int32)} {xpo : (Nat → Int32)} {xnm : (Nat → Int32)} {xvl : (Nat → Int32)} {xmv : (Nat → Int32)} {xrk : (Nat → Int32)} {xpt : (Nat → Int32)} {xsz : (Nat → Int32)} {xpd : (Nat → Int32)} {xpa : (Nat → Int32)} {xct : (Nat → Int32)} {xqu : (Nat → Int32)} {xco : (Nat → Int32)} {xse : (Nat → Int32)} {xpe : (Nat → Int32)} {xgv : (Nat → Int64)} {xan : (Nat → Int64)} {xal : (Nat → Int64)} {xng : (Nat → Int32)} {xrs : (Nat → Int32)}
variable {n : Nat} {i d : Nat → Nat} {od dp po rk pt sz : Nat → Int32}
theorem qs_x46 {a c x : Nat} {post : Int32 → Prop} (hn : n ≤ 40) (D : qt_D n d) (N : qr_N n i d rk pt sz) (ha : a ≤ 10) (hc : c < n) (hx : x < n) (h : post (qa_b (qs_ax n d a c x))) :
    wX_isOnAxis_46 post (nI a) (nI c) (nI x) (qa_b (decide (c ≤ x ∧ x < qt_en n d c))) (qa_b (decide (x ≤ c ∧ c < qt_en n d x))) xlim (nI n) xpc xlv xop xql xrc xrt od po xnm xvl xmv rk pt sz xpd xpa xct xqu xco xse xpe xgv xan xal xng xrs := by
  have ic : vp_in (nI c) 40 := vp_in_nI (by omega) (by omega)
  have ix : vp_in (nI x) 40 := vp_in_nI (by omega) (by omega)
  have ec : (nI c).toNatClampNeg = c := nI_clamp (by omega)
  have ex : (nI x).toNatClampNeg = x := nI_clamp (by omega)
  have eqc : nI x = nI c ↔ x = c := nI_eq (by omega) (by omega)
  obtain ⟨n1, n2, n3, n4, n5⟩ := N
  have m1 : ∀ r, r < 40 → ¬ nI r = -1 := by
    intro r hr e
    have h1 : (nI r).toInt = -1 := by rw [e]; decide
    rw [nI_toInt (by omega)] at h1; omega
  have cc := qt_en_spec (n := n) (d := d) hc
  have cx := qt_en_spec (n := n) (d := d) hx
  have cc1 := cc.1
  have cx1 := cx.1
  have par : ∀ u w, u < n → w < n → (pt u = nI w ↔ qt_ch n d w u = true) := by
    intro u w hu hw
    by_cases e : u = 0
    · subst e
      rw [n3]
      exact ⟨fun z => absurd z.symm (m1 w (by omega)), fun z => by have := of_decide_eq_true z; omega⟩
    · rw [n4 u (by omega) hu]
      have hp := qt_pr_spec D (by omega) hu
      have hl := hp.1
      rw [nI_eq (by omega) (by omega)]
      constructor
      · intro z
        rw [z, qt_child D hw hu] at hp
        exact decide_eq_true (by omega)
      · intro z
        have z := of_decide_eq_true z
        exact qt_pr_eq ((qt_child D hw hu).mpr (by omega))
  have sib : ∀ u w, u < n → w < n → u < w → (pt w = pt u ↔ (0 < u ∧ qt_pr d u = qt_pr d w)) := by
    intro u w hu hw huw
    rw [n4 w (by omega) hw]
    have hl := qt_pr_lt D (by omega) hw
    by_cases e : u = 0
    · subst e
      rw [n3]
      exact ⟨fun z => absurd z (m1 _ (by omega)), fun z => by omega⟩
    · rw [n4 u (by omega) hu]
      have hl2 := qt_pr_lt D (by omega) hu
      rw [nI_eq (by omega) (by omega)]
      exact ⟨fun z => ⟨by omega, z.symm⟩, fun z => z.2.symm⟩
  have hcase : a = 0 ∨ a = 1 ∨ a = 2 ∨ a = 3 ∨ a = 4 ∨ a = 5 ∨ a = 6 ∨ a = 7 ∨ a = 8 ∨ a = 9 ∨ a = 10 := by omega
  refine br_f (nI_pos (by omega)) (br_f (nI_nlt (a := 10) (by omega) (by omega)) ?_)
  rcases hcase with rfl | rfl | rfl | rfl | rfl | rfl | rfl | rfl | rfl | rfl | rfl
  · refine br_t (by decide) (qs_pif ?_ h)
    rw [eqc]; exact ⟨fun z => decide_eq_true z, fun z => of_decide_eq_true z⟩
  · refine br_f (by decide) (br_t (by decide) ⟨ix, ?_⟩)
    rw [ex]
    exact qs_pif (par x c hx hc) h
  · refine br_f (by decide) (br_f (by decide) (br_t (by decide) ⟨ic, ?_⟩))
    rw [ec]
    exact qs_pif (par c x hc hx) h
  · refine br_f (by decide) (br_f (by decide) (br_f (by decide) (br_t (by decide) (qa_br (fun g => ?_) (fun g => ?_)))))
    · have g := of_decide_eq_false g
      rw [show qs_ax n d 3 c x = false from decide_eq_false (by omega)] at h; exact h
    · have g := of_decide_eq_true g
      refine qs_pif' ?_ h
      rw [eqc]
      exact ⟨fun z => decide_eq_false (by omega), fun z => by have := of_decide_eq_false z; omega⟩
  · refine br_f (by decide) (br_f (by decide) (br_f (by decide) (br_f (by decide) (br_t (by decide) (qa_br (fun g => ?_) (fun g => ?_))))))
    · have g := of_decide_eq_false g
      rw [show qs_ax n d 4 c x = false from decide_eq_false (by omega)] at h; exact h
    · have g := of_decide_eq_true g
      refine qs_pif' ?_ h
      rw [eqc]
      exact ⟨fun z => decide_eq_false (by omega), fun z => by have := of_decide_eq_false z; omega⟩
  · refine br_f (by decide) (br_f (by decide) (br_f (by decide) (br_f (by decide) (br_f (by decide) (br_t (by decide) ⟨qa_bn _, ?_⟩)))))
    have e : qs_ax n d 5 c x = decide (c ≤ x ∧ x < qt_en n d c) := by
      show (decide (x = c) || decide (c < x ∧ x < qt_en n d c)) = _
      rw [← Bool.decide_or, decide_eq_decide]; omega
    rw [e] at h; exact h
  · refine br_f (by decide) (br_f (by decide) (br_f (by decide) (br_f (by decide) (br_f (by decide) (br_f (by decide) (br_t (by decide) ⟨qa_bn _, ?_⟩))))))
    have e : qs_ax n d 6 c x = decide (x ≤ c ∧ c < qt_en n d x) := by
      show (decide (x = c) || decide (x < c ∧ c < qt_en n d x)) = _
      rw [← Bool.decide_or, decide_eq_decide]; omega
    rw [e] at h; exact h
  · refine br_f (by decide) (br_f (by decide) (br_f (by decide) (br_f (by decide) (br_f (by decide) (br_f (by decide) (br_f (by decide) (br_t (by decide) ?_)))))))
    refine pk_le x c (fun g => ?_) (fun g => ⟨ix, ic, ?_⟩)
    · rw [show qs_ax n d 7 c x = false from decide_eq_false (by omega)] at h; exact h
    · rw [ex, ec]
      refine qs_pif ?_ h
      rw [sib c x hc hx g]
      exact ⟨fun z => decide_eq_true ⟨g, z⟩, fun z => (of_decide_eq_true z).2⟩
  · refine br_f (by decide) (br_f (by decide) (br_f (by decide) (br_f (by decide) (br_f (by decide) (br_f (by decide) (br_f (by decide) (br_f (by decide) (br_t (by decide) ?_))))))))
    refine pk_le c x (fun g => ?_) (fun g => ⟨ix, ic, ?_⟩)
    · rw [show qs_ax n d 8 c x = false from decide_eq_false (by omega)] at h; exact h
    · rw [ex, ec]
      refine qs_pif ?_ h
      have s := sib x c hx hc g
      constructor
      · intro z
        have := s.mp z.symm
        exact decide_eq_true ⟨g, this.1, this.2.symm⟩
      · intro z
        have z := of_decide_eq_true z
        exact (s.mpr ⟨z.2.1, z.2.2.symm⟩).symm
  · refine br_f (by decide) (br_f (by decide) (br_f (by decide) (br_f (by decide) (br_f (by decide) (br_f (by decide) (br_f (by decide) (br_f (by decide) (br_f (by decide) (br_t (by decide) ?_)))))))))
    have e : qs_ax n d 9 c x = (decide (c < x) && !decide (c < x ∧ x < qt_en n d c)) := rfl
    rw [e] at h
    refine pk_le x c (fun g => ?_) (fun g => qa_br (fun g2 => ?_) (fun g2 => ?_))
    · rw [decide_eq_false (show ¬ c < x by omega)] at h; exact h
    · have g2 := of_decide_eq_false g2
      rw [decide_eq_true g, decide_eq_false (by omega)] at h; exact h
    · have g2 := of_decide_eq_true g2
      rw [decide_eq_true g, decide_eq_true (by omega)] at h; exact h
  · refine br_f (by decide) (br_f (by decide) (br_f (by decide) (br_f (by decide) (br_f (by decide) (br_f (by decide) (br_f (by decide) (br_f (by decide) (br_f (by decide) (br_f (by decide) (br_t (by decide) ?_))))))))))
    have e : qs_ax n d 10 c x = (decide (x < c) && !decide (x < c ∧ c < qt_en n d x)) := rfl
    rw [e] at h
    refine pk_le c x (fun g => ?_) (fun g => qa_br (fun g2 => ?_) (fun g2 => ?_))
    · rw [decide_eq_false (show ¬ x < c by omega)] at h; exact h
    · have g2 := of_decide_eq_false g2
      rw [decide_eq_true g, decide_eq_false (by omega)] at h; exact h
    · have g2 := of_decide_eq_true g2
      rw [decide_eq_true g, decide_eq_true (by omega)] at h; exact h
theorem qs_x22 {a c x : Nat} {z : Bool} {post : Int32 → Prop} (hn : n ≤ 40) (N : qr_N n i d rk pt sz) (hc : c < n) (hx : x < n)
    (h : wX_isOnAxis_46 post (nI a) (nI c) (nI x) (qa_b z) (qa_b (decide (x ≤ c ∧ c < qt_en n d x))) xlim (nI n) xpc xlv xop xql xrc xrt od po xnm xvl xmv rk pt sz xpd xpa xct xqu xco xse xpe xgv xan xal xng xrs) :
    wX_isOnAxis_22 post (nI a) (nI c) (nI x) (qa_b z) xlim (nI n) xpc xlv xop xql xrc xrt od po xnm xvl xmv rk pt sz xpd xpa xct xqu xco xse xpe xgv xan xal xng xrs := by
  have cx := qt_en_spec (n := n) (d := d) hx
  have cx1 := cx.1
  have cx2 := cx.2.1
  refine pk_lt c x (fun g => ?_) (fun g => ⟨vp_in_nI (by omega) (by omega), ?_⟩)
  · rw [decide_eq_false (by omega)] at h; exact h
  · rw [nI_clamp (n := x) (by omega), N.2.2.2.2 x hx, nI_add, show x + (qt_en n d x - x) = qt_en n d x by omega]
    refine pk_le (qt_en n d x) c (fun g2 => ?_) (fun g2 => ?_)
    · rw [decide_eq_false (by omega)] at h; exact h
    · rw [decide_eq_true (by omega)] at h; exact h
theorem qs_xoa {a c x : Nat} {post : Int32 → Prop} (hn : n ≤ 40) (D : qt_D n d) (N : qr_N n i d rk pt sz) (ha : a ≤ 10) (hc : c < n) (hx : x < n) (h : post (qa_b (qs_ax n d a c x))) :
    wpX_isOnAxis post (xlim, nI n, xpc, xlv, xop, xql, xrc, xrt, od, po, xnm, xvl, xmv, rk, pt, sz, xpd, xpa, xct, xqu, xco, xse, xpe, xgv, xan, xal, xng, xrs) (nI a) (nI c) (nI x) := by
  have c46 := qs_x46 (xlim := xlim) (xpc := xpc) (xlv := xlv) (xop := xop) (xql := xql) (xrc := xrc) (xrt := xrt) (xnm := xnm) (xvl := xvl) (xmv := xmv) (xpd := xpd) (xpa := xpa) (xct := xct) (xqu := xqu) (xco := xco) (xse := xse) (xpe := xpe) (xgv := xgv) (xan := xan) (xal := xal) (xng := xng) (xrs := xrs) (od := od) (po := po) hn D N ha hc hx h
  have cc := qt_en_spec (n := n) (d := d) hc
  have cc1 := cc.1
  have cc2 := cc.2.1
  refine pk_lt x c (fun g => ?_) (fun g => ⟨vp_in_nI (by omega) (by omega), ?_⟩)
  · rw [decide_eq_false (show ¬ (c ≤ x ∧ x < qt_en n d c) by omega)] at c46
    exact qs_x22 (z := false) hn N hc hx c46
  · rw [nI_clamp (n := c) (by omega), N.2.2.2.2 c hc, nI_add, show c + (qt_en n d c - c) = qt_en n d c by omega]
    refine pk_le (qt_en n d c) x (fun g2 => ?_) (fun g2 => ?_)
    · rw [decide_eq_false (show ¬ (c ≤ x ∧ x < qt_en n d c) by omega)] at c46
      exact qs_x22 (z := false) hn N hc hx c46
    · rw [decide_eq_true (show (c ≤ x ∧ x < qt_en n d c) by omega)] at c46
      exact qs_x22 (z := true) hn N hc hx c46
theorem qs_xrv {a : Nat} {post : Int32 → Prop} (ha : a ≤ 10) (h : post (qa_b (qs_rv a))) : wpX_isReverse post (xlim, xn, xpc, xlv, xop, xql, xrc, xrt, xod, xpo, xnm, xvl, xmv, xrk, xpt, xsz, xpd, xpa, xct, xqu, xco, xse, xpe, xgv, xan, xal, xng, xrs) (nI a) := by
  have hcase : a = 0 ∨ a = 1 ∨ a = 2 ∨ a = 3 ∨ a = 4 ∨ a = 5 ∨ a = 6 ∨ a = 7 ∨ a = 8 ∨ a = 9 ∨ a = 10 := by omega
  rcases hcase with rfl | rfl | rfl | rfl | rfl | rfl | rfl | rfl | rfl | rfl | rfl
  · exact br_f (by decide) (br_f (by decide) (br_f (by decide) (br_f (by decide) (br_f (by decide) h))))
  · exact br_f (by decide) (br_f (by decide) (br_f (by decide) (br_f (by decide) (br_f (by decide) h))))
  · exact br_t (by decide) h
  · exact br_f (by decide) (br_f (by decide) (br_f (by decide) (br_f (by decide) (br_f (by decide) h))))
  · exact br_f (by decide) (br_t (by decide) h)
  · exact br_f (by decide) (br_f (by decide) (br_f (by decide) (br_f (by decide) (br_f (by decide) h))))
  · exact br_f (by decide) (br_f (by decide) (br_t (by decide) h))
  · exact br_f (by decide) (br_f (by decide) (br_f (by decide) (br_f (by decide) (br_f (by decide) h))))
  · exact br_f (by decide) (br_f (by decide) (br_f (by decide) (br_t (by decide) h)))
  · exact br_f (by decide) (br_f (by decide) (br_f (by decide) (br_f (by decide) (br_f (by decide) h))))
  · exact br_f (by decide) (br_f (by decide) (br_f (by decide) (br_f (by decide) (br_t (by decide) h))))
end
section
variable {ymo : Int32} {yn : Int32} {yw : Int32} {yle : Int32} {yfo : Int32} {yli : Int32} {yat : Int32} {ysu : Int64} {yid : (Nat → Int32)} {ydp : (Nat → Int32)} {ynm : (Nat → Int32)} {yvl : (Nat → Int32)} {yci : (Nat → Int32)} {ycd : (Nat → Int32)} {ypd : (Nat → Int32)} {yqu : (Nat → Int32)} {ygv : (Nat → Int64)} {yls : (Nat → Int32)} {yrs : (Nat → Int32)} {yor : (Nat → Int32)} {yan : (Nat → Int32)} {yno : (Nat → Int32)} {yow : (Nat → Int32)} {ypa : (Nat → Int32)}
theorem qs_yoa {n : Nat} {d : Nat → Nat} {a c x : Nat} {post : Int32 → Prop} (hn : n ≤ 40) (D : qt_D n d) (hd : ∀ r, r < n → ydp r = nI (d r) ∧ d r < 40) (ha : a ≤ 10) (hc : c < n) (hx : x < n) (h : post (qa_b (qs_ax n d a c x))) :
    wpY_onAxis post (ymo, nI n, yw, yle, yfo, yli, yat, ysu, yid, ydp, ynm, yvl, yci, ycd, ypd, yqu, ygv, yls, yrs, yor, yan, yno, yow, ypa) (nI a) (nI c) (nI x) := by
  have eqc : nI x = nI c ↔ x = c := nI_eq (by omega) (by omega)
  have hcase : a = 0 ∨ a = 1 ∨ a = 2 ∨ a = 3 ∨ a = 4 ∨ a = 5 ∨ a = 6 ∨ a = 7 ∨ a = 8 ∨ a = 9 ∨ a = 10 := by omega
  unfold wpY_onAxis
  dsimp only
  refine br_f (nI_pos (by omega)) ?_
  rcases hcase with rfl | rfl | rfl | rfl | rfl | rfl | rfl | rfl | rfl | rfl | rfl
  · refine br_f (by decide) (br_t (by decide) (qs_pif ?_ h))
    rw [eqc]; exact ⟨fun z => decide_eq_true z, fun z => of_decide_eq_true z⟩
  · exact br_f (by decide) (br_f (by decide) (br_t (by decide) (qy_ch hn hc hx hd ⟨qa_bn _, h⟩)))
  · exact br_f (by decide) (br_f (by decide) (br_f (by decide) (br_t (by decide) (qy_ch hn hx hc hd ⟨qa_bn _, h⟩))))
  · exact br_f (by decide) (br_f (by decide) (br_f (by decide) (br_f (by decide) (br_t (by decide) (qy_ab hn hc hx hd ⟨qa_bn _, h⟩)))))
  · exact br_f (by decide) (br_f (by decide) (br_f (by decide) (br_f (by decide) (br_f (by decide) (br_t (by decide) (qy_ab hn hx hc hd ⟨qa_bn _, h⟩))))))
  · refine br_f (by decide) (br_f (by decide) (br_f (by decide) (br_f (by decide) (br_f (by decide) (br_f (by decide) (br_t (by decide) ?_))))))
    have e : qs_ax n d 5 c x = (decide (x = c) || qt_ab n d c x) := rfl
    rw [e] at h
    refine br_c (fun g => ?_) (fun g => qy_ab hn hc hx hd (qa_br (fun g2 => ?_) (fun g2 => ?_)))
    · rw [decide_eq_true (eqc.mp g)] at h; exact h
    · rw [decide_eq_false (fun z => g (eqc.mpr z)), g2] at h; exact h
    · rw [decide_eq_false (fun z => g (eqc.mpr z)), g2] at h; exact h
  · refine br_f (by decide) (br_f (by decide) (br_f (by decide) (br_f (by decide) (br_f (by decide) (br_f (by decide) (br_f (by decide) (br_t (by decide) ?_)))))))
    have e : qs_ax n d 6 c x = (decide (x = c) || qt_ab n d x c) := rfl
    rw [e] at h
    refine br_c (fun g => ?_) (fun g => qy_ab hn hx hc hd (qa_br (fun g2 => ?_) (fun g2 => ?_)))
    · rw [decide_eq_true (eqc.mp g)] at h; exact h
    · rw [decide_eq_false (fun z => g (eqc.mpr z)), g2] at h; exact h
    · rw [decide_eq_false (fun z => g (eqc.mpr z)), g2] at h; exact h
  · refine br_f (by decide) (br_f (by decide) (br_f (by decide) (br_f (by decide) (br_f (by decide) (br_f (by decide) (br_f (by decide) (br_f (by decide) (br_t (by decide) ?_))))))))
    refine pk_le x c (fun g => ?_) (fun g => ?_)
    · rw [show qs_ax n d 7 c x = false from decide_eq_false (by omega)] at h; exact h
    · have hlx := qt_pr_lt D (by omega) hx
      by_cases e : c = 0
      · subst e
        refine qy_pp0 (qy_pp hn D (by omega) hx hd (br_f (fun z => ?_) ?_))
        · have h1 : (nI (qt_pr d x)).toInt = -1 := by rw [← z]; decide
          rw [nI_toInt (by omega)] at h1; omega
        · rw [show qs_ax n d 7 0 x = false from decide_eq_false (by omega)] at h; exact h
      · have hlc := qt_pr_lt D (by omega) hc
        refine qy_pp hn D (by omega) hc hd (qy_pp hn D (by omega) hx hd (qs_pif ?_ h))
        rw [nI_eq (by omega) (by omega)]
        exact ⟨fun z => decide_eq_true ⟨g, by omega, z⟩, fun z => (of_decide_eq_true z).2.2⟩
  · refine br_f (by decide) (br_f (by decide) (br_f (by decide) (br_f (by decide) (br_f (by decide) (br_f (by decide) (br_f (by decide) (br_f (by decide) (br_f (by decide) (br_t (by decide) ?_)))))))))
    refine pk_le c x (fun g => ?_) (fun g => br_f (nI_nle (by omega) (by omega)) ?_)
    · rw [show qs_ax n d 8 c x = false from decide_eq_false (by omega)] at h; exact h
    · refine pk_le x 0 (fun g2 => ?_) (fun g2 => ?_)
      · rw [show qs_ax n d 8 c x = false from decide_eq_false (by omega)] at h; exact h
      · have hlx := qt_pr_lt D (by omega) hx
        have hlc := qt_pr_lt D (by omega) hc
        refine qy_pp hn D (by omega) hc hd (qy_pp hn D (by omega) hx hd (qs_pif ?_ h))
        rw [nI_eq (by omega) (by omega)]
        exact ⟨fun z => decide_eq_true ⟨g, by omega, z⟩, fun z => (of_decide_eq_true z).2.2⟩
  · refine br_f (by decide) (br_f (by decide) (br_f (by decide) (br_f (by decide) (br_f (by decide) (br_f (by decide) (br_f (by decide) (br_f (by decide) (br_f (by decide) (br_f (by decide) (br_t (by decide) ?_))))))))))
    have e : qs_ax n d 9 c x = (decide (c < x) && !qt_ab n d c x) := rfl
    rw [e] at h
    refine pk_le x c (fun g => ?_) (fun g => qy_ab hn hc hx hd (qa_br (fun g2 => ?_) (fun g2 => ?_)))
    · rw [decide_eq_false (show ¬ c < x by omega)] at h; exact h
    · rw [decide_eq_true g, g2] at h; exact h
    · rw [decide_eq_true g, g2] at h; exact h
  · refine br_t (by decide) ?_
    have e : qs_ax n d 10 c x = (decide (x < c) && !qt_ab n d x c) := rfl
    rw [e] at h
    refine pk_le c x (fun g => ?_) (fun g => qy_ab hn hx hc hd (qa_br (fun g2 => ?_) (fun g2 => ?_)))
    · rw [decide_eq_false (show ¬ x < c by omega)] at h; exact h
    · rw [decide_eq_true g, g2] at h; exact h
    · rw [decide_eq_true g, g2] at h; exact h
end
end
section
/-! the walk through a predicate -/
theorem qw_5 {q : Nat → Int32} {len k : Nat} (G : qe_G q len) (hk : k ≤ len) (hs : (qc_tr q k).1 = 5) : k < len ∧ qc_cp (q k) = true ∧ (qc_tr q (k + 1)).1 = 6 ∧ (qc_tr q (k + 1)).2 = (qc_tr q k).2 := by
  have hl : k < len := by
    refine Nat.lt_of_le_of_ne hk (fun e => ?_)
    rw [e, G.1] at hs; omega
  have hz := qe_nz (k := k + 1) G (by omega)
  show _ ∧ _ ∧ (qc_nx (qc_tr q k) (q k)).1 = 6 ∧ (qc_nx (qc_tr q k) (q k)).2 = _
  have hz : (qc_nx (qc_tr q k) (q k)).1 ≠ 0 := hz
  rcases ht : qc_tr q k with ⟨s, l, o, pa, ct⟩
  rw [ht] at hs hz
  have hs : s = 5 := hs
  subst hs
  rw [qc_nx_5] at hz ⊢
  by_cases g : qc_cp (q k) = true
  · rw [if_pos g]; exact ⟨hl, g, rfl, rfl⟩
  · rw [if_neg g] at hz; exact absurd rfl hz
theorem qw_6 {q : Nat → Int32} {len k : Nat} (G : qe_G q len) (hk : k ≤ len) (hs : (qc_tr q k).1 = 6) : k < len ∧ qc_nu (q k) = true ∧ (qc_tr q (k + 1)).1 = 7 ∧ (qc_tr q (k + 1)).2 = (qc_tr q k).2 := by
  have hl : k < len := by
    refine Nat.lt_of_le_of_ne hk (fun e => ?_)
    rw [e, G.1] at hs; omega
  have hz := qe_nz (k := k + 1) G (by omega)
  show _ ∧ _ ∧ (qc_nx (qc_tr q k) (q k)).1 = 7 ∧ (qc_nx (qc_tr q k) (q k)).2 = _
  have hz : (qc_nx (qc_tr q k) (q k)).1 ≠ 0 := hz
  rcases ht : qc_tr q k with ⟨s, l, o, pa, ct⟩
  rw [ht] at hs hz
  have hs : s = 6 := hs
  subst hs
  rw [qc_nx_6] at hz ⊢
  by_cases g : qc_nu (q k) = true
  · rw [if_pos g]; exact ⟨hl, g, rfl, rfl⟩
  · rw [if_neg g] at hz; exact absurd rfl hz
theorem qw_cp2 {x : Int32} (h : qc_cp x = true) : x ≠ 2 := by rintro rfl; exact absurd h (by decide)
theorem qw_nu2 {x : Int32} (h : qc_nu x = true) : x ≠ 2 := by rintro rfl; exact absurd h (by decide)
theorem qw_nm2 {x : Int32} (h : qc_nm x = true) : x ≠ 2 := by rintro rfl; exact absurd h (by decide)
theorem qw_ax2 {x : Int32} (h : qc_ax x = true) : x ≠ 2 := by rintro rfl; exact absurd h (by decide)
/-- a path: behind it a step is done at the same level, and neither a bracket nor an axis follows -/
theorem qw_pe {q : Nat → Int32} {len : Nat} (G : qe_G q len) : ∀ f k, len - k ≤ f → k < len → qc_ax (q k) = true → qe_pe q len k ≤ len ∧ qe_Sm (qc_tr q (k + 1)) (qc_tr q (qe_pe q len k)) ∧ (qe_pe q len k < len → q (qe_pe q len k) ≠ 1 ∧ qc_ax (q (qe_pe q len k)) = false) := by
  intro f
  induction f with
  | zero => intro k h1 h2; omega
  | succ f ih =>
    intro k h1 h2 ha
    obtain ⟨a1, a2, a3, a4, a5, a6⟩ := qe_se_spec G h2 ha
    have b := qe_se_ge q len k
    rw [qe_pe_eq, if_pos ⟨h2, ha⟩]
    by_cases g : qe_se q len k < len ∧ qc_ax (q (qe_se q len k)) = true
    · obtain ⟨c1, c2, c3⟩ := ih (qe_se q len k) (by omega) g.1 g.2
      refine ⟨c1, ?_, c3⟩
      obtain ⟨t1, t2, t3, t4, t5, t6⟩ := qe_axt G g.1 g.2
      have a51 := a5.1
      have t4 := t4 (by omega)
      obtain ⟨p1, p2, p3, p4⟩ := a5
      obtain ⟨r1, r2, r3, r4⟩ := c2
      rw [t2] at r2 r3 r4
      rw [t3, p2] at r3
      rw [t4, p2] at r4
      rw [p2] at r2
      exact ⟨r1, r2, r3.trans p3, r4.trans p4⟩
    · rw [qe_pe_eq, if_neg g]
      refine ⟨a4, a5, fun z => ⟨a6 z, ?_⟩⟩
      rw [← Bool.not_eq_true]
      exact fun y => g ⟨z, y⟩
/-- inside a bracket nothing jumps over its end -/
theorem qw_cl_in {q : Nat → Int32} {len o k : Nat} (G : qe_G q len) (ho : o < len) (h1 : q o = 1) (hk : o < k) (hc : k ≤ qe_cl q len o) (hl : (qc_tr q k).2.1 = (qc_tr q o).2.1 + 1) (hb : q k = 1) : qe_cl q len k < qe_cl q len o := by
  obtain ⟨c1, c2, c3, c4, c5⟩ := qe_cl_spec G ho h1
  obtain ⟨e1, e2, e3, e4, e5⟩ := qe_cl_spec G (show k < len by omega) hb
  refine Nat.lt_of_not_le (fun z => ?_)
  have hne : k ≠ qe_cl q len o := by rintro rfl; rw [hb] at c3; exact absurd c3 (by decide)
  have := e5 (qe_cl q len o) (by omega) z
  have s := (qe_st G c2).2.1 c3
  omega
theorem qw_so_in {q : Nat → Int32} {len o : Nat} (G : qe_G q len) (ho : o < len) (h1 : q o = 1) : ∀ f k, len - k ≤ f → o < k → k ≤ qe_cl q len o → (qc_tr q k).2.1 = (qc_tr q o).2.1 + 1 → qe_so q len k ≤ qe_cl q len o := by
  intro f
  induction f with
  | zero => intro k h _ hc _; rw [qe_so_eq, if_neg (by omega)]; exact hc
  | succ f ih =>
    intro k h hk hc hl
    rw [qe_so_eq]
    by_cases g : k < len ∧ q k = 1
    · rw [if_pos g]
      have a := qw_cl_in G ho h1 hk hc hl g.2
      have b := qe_cl_ge q len k
      have c := qe_cl_same G g.1 g.2
      exact ih (qe_cl q len k + 1) (by omega) (by omega) (by omega) (by rw [c.2.1]; exact hl)
    · rw [if_neg g]; exact hc
theorem qw_se_in {q : Nat → Int32} {len o k : Nat} (G : qe_G q len) (ho : o < len) (h1 : q o = 1) (hk : o < k) (hc : k ≤ qe_cl q len o) (hl : (qc_tr q k).2.1 = (qc_tr q o).2.1 + 1) (ha : qc_ax (q k) = true) : k + 2 ≤ qe_cl q len o ∧ qe_se q len k ≤ qe_cl q len o := by
  obtain ⟨c1, c2, c3, c4, c5⟩ := qe_cl_spec G ho h1
  obtain ⟨a1, a2, a3, a4, a5, a6⟩ := qe_se_spec G (show k < len by omega) ha
  have n1 : k ≠ qe_cl q len o := fun e => qw_ax2 ha (by rw [e]; exact c3)
  have n2 : k + 1 ≠ qe_cl q len o := fun e => qw_nm2 a2 (by rw [e]; exact c3)
  refine ⟨by omega, ?_⟩
  rw [qe_se_so]
  obtain ⟨t1, t2, t3, t4, t5, t6⟩ := qe_axt G (show k < len by omega) ha
  have b := qe_nmt G a1 t1
  have e : (qc_tr q (k + 2)).2.1 = (qc_tr q (k + 1)).2.1 := by rw [show k + 2 = k + 1 + 1 from rfl, b.2.2]
  exact qw_so_in G ho h1 _ (k + 2) (Nat.le_refl _) (by omega) (by omega) (by rw [e, t2, hl])
theorem qw_pe_in {q : Nat → Int32} {len o : Nat} (G : qe_G q len) (ho : o < len) (h1 : q o = 1) : ∀ f k, len - k ≤ f → o < k → k ≤ qe_cl q len o → (qc_tr q k).2.1 = (qc_tr q o).2.1 + 1 → qe_pe q len k ≤ qe_cl q len o := by
  intro f
  induction f with
  | zero => intro k h _ hc _; rw [qe_pe_eq, if_neg (by omega)]; exact hc
  | succ f ih =>
    intro k h hk hc hl
    rw [qe_pe_eq]
    by_cases g : k < len ∧ qc_ax (q k) = true
    · rw [if_pos g]
      obtain ⟨a1, a2⟩ := qw_se_in G ho h1 hk hc hl g.2
      have b := qe_se_ge q len k
      obtain ⟨s1, s2, s3, s4, s5, s6⟩ := qe_se_spec G g.1 g.2
      obtain ⟨t1, t2, t3, t4, t5, t6⟩ := qe_axt G g.1 g.2
      exact ih (qe_se q len k) (by omega) (by omega) a2 (by rw [s5.2.1, t2, hl])
    · rw [if_neg g]; exact hc
/-- where the walk through the predicate that opens at o may stand -/
def qw_PO (q : Nat → Int32) (len o k lv : Nat) : Prop := o < k ∧ k ≤ qe_cl q len o ∧ (qc_tr q k).2.1 = (qc_tr q o).2.1 + 1 ∧ (qc_tr q k).2.2.2.1 ((qc_tr q o).2.1 + 1) = lv ∧
  ((qc_tr q k).1 = 4 ∨ (qc_tr q k).1 = 7 ∨ ((qc_tr q k).1 = 3 ∧ (qc_tr q k).2.2.2.2 ((qc_tr q o).2.1 + 1) = false ∧ q k ≠ 1 ∧ qc_ax (q k) = false))
def qs_AE (q : Nat → Int32) (len k : Nat) : Nat := if q k = 8 then k + 3 else if q k = 9 then k + 1 else if q k = 10 then k + 3 else if q k = 11 then qe_pe q len (k + 1) + 2 else qe_pe q len k
/-- what the tokens of an atom are -/
def qw_AT (q : Nat → Int32) (len o k : Nat) : Prop := k < len ∧ (qc_tr q k).1 = 4 ∧ (qc_tr q k).2.1 = (qc_tr q o).2.1 + 1 ∧
  (((q k = 8 ∨ q k = 10) ∧ k + 2 < len) ∨ q k = 9 ∨ (q k = 11 ∧ k + 1 < len ∧ qc_ax (q (k + 1)) = true ∧ (qc_tr q (k + 1)).1 = 1 ∧ (qc_tr q (k + 1)).2.1 = (qc_tr q o).2.1 + 1 ∧ qe_pe q len (k + 1) + 1 < len) ∨ qc_ax (q k) = true) ∧ qe_pe q len k ≤ len
theorem qw_start {q : Nat → Int32} {len o : Nat} (G : qe_G q len) (ho : o < len) (h1 : q o = 1) : qw_PO q len o (o + 1) 0 := by
  have c := qe_cl_ge q len o
  have s := (qe_st G ho).1 h1
  exact ⟨by omega, c, s.2.2.1, s.2.2.2, Or.inl s.2.1⟩
theorem qw_af {q : Nat → Int32} {len o k lv : Nat} (G : qe_G q len) (ho : o < len) (h1 : q o = 1) (hk : o < k) (hc : k ≤ qe_cl q len o) (hl : (qc_tr q k).2.1 = (qc_tr q o).2.1 + 1) (hp : (qc_tr q k).2.2.2.1 ((qc_tr q o).2.1 + 1) = lv)
    (e : qc_tr q (k + 1) = qc_af (qc_tr q k).2.1 (qc_tr q k).2.2.1 (qc_tr q k).2.2.2.1 (qc_tr q k).2.2.2.2 (q k)) :
    (q k = 2 ∧ k = qe_cl q len o ∧ lv = 0) ∨ ((q k = 5 ∨ q k = 6) ∧ qw_PO q len o (k + 1) lv) ∨ (q k = 4 ∧ 1 ≤ lv ∧ qw_PO q len o (k + 1) (lv - 1)) := by
  obtain ⟨c1, c2, c3, c4, c5⟩ := qe_cl_spec G ho h1
  have hz := qe_nz (k := k + 1) G (by omega)
  rw [e] at hz
  have nc : q k ≠ 2 → k + 1 ≤ qe_cl q len o := by
    intro g
    have : k ≠ qe_cl q len o := by rintro rfl; exact g c3
    omega
  unfold qw_PO
  rw [e]
  rcases ht : qc_tr q k with ⟨s, l, op, pa, ct⟩
  rw [ht] at hz hl hp
  have hl : l = (qc_tr q o).2.1 + 1 := hl
  have hp : pa ((qc_tr q o).2.1 + 1) = lv := hp
  rw [← hl] at hp
  show _ ∨ _ ∨ _
  have hz : (qc_af l op pa ct (q k)).1 ≠ 0 := hz
  show _ ∨ (_ ∧ _ ∧ _ ∧ (qc_af l op pa ct (q k)).2.1 = _ ∧ (qc_af l op pa ct (q k)).2.2.2.1 _ = _ ∧ ((qc_af l op pa ct (q k)).1 = 4 ∨ (qc_af l op pa ct (q k)).1 = 7 ∨ _)) ∨ (_ ∧ _ ∧ _ ∧ _ ∧ (qc_af l op pa ct (q k)).2.1 = _ ∧ (qc_af l op pa ct (q k)).2.2.2.1 _ = _ ∧ ((qc_af l op pa ct (q k)).1 = 4 ∨ (qc_af l op pa ct (q k)).1 = 7 ∨ _))
  unfold qc_af at hz ⊢
  by_cases g1 : q k = 5 ∨ q k = 6
  · rw [if_pos g1]
    refine Or.inr (Or.inl ⟨g1, by omega, nc ?_, hl, by rw [← hl]; exact hp, Or.inl rfl⟩)
    rcases g1 with g | g <;> rw [g] <;> decide
  · rw [if_neg g1] at hz ⊢
    by_cases g2 : q k = 4 ∧ 0 < pa l
    · rw [if_pos g2]
      refine Or.inr (Or.inr ⟨g2.1, by omega, by omega, nc (by rw [g2.1]; decide), hl, ?_, Or.inr (Or.inl rfl)⟩)
      rw [← hl]
      show qc_put pa l (pa l - 1) l = _
      rw [qc_put_s]; omega
    · rw [if_neg g2] at hz ⊢
      by_cases g3 : q k = 2 ∧ pa l = 0
      · have s := (qe_st G (show k < len by omega)).2.1 g3.1
        rw [ht] at s
        have s3 : (qc_tr q (k + 1)).2.1 + 1 = l := s.2.2.1
        refine Or.inl ⟨g3.1, ?_, by omega⟩
        by_cases z : k = qe_cl q len o
        · exact z
        · have := c5 (k + 1) (by omega) (by omega)
          omega
      · rw [if_neg g3] at hz; exact absurd rfl hz
theorem qw_next {q : Nat → Int32} {len o k lv : Nat} (G : qe_G q len) (ho : o < len) (h1 : q o = 1) (P : qw_PO q len o k lv) :
    (q k = 2 ∧ k = qe_cl q len o ∧ lv = 0) ∨ ((q k = 5 ∨ q k = 6) ∧ qw_PO q len o (k + 1) lv) ∨ (q k = 4 ∧ 1 ≤ lv ∧ qw_PO q len o (k + 1) (lv - 1)) ∨
    (q k = 7 ∧ qw_PO q len o (k + 1) lv) ∨ (q k = 3 ∧ lv < 4 ∧ qw_PO q len o (k + 1) (lv + 1)) ∨ (qw_AT q len o k ∧ k < qs_AE q len k ∧ qw_PO q len o (qs_AE q len k) lv) := by
  have P0 := P
  obtain ⟨hk, hc, hl, hp, hs⟩ := P
  obtain ⟨c1, c2, c3, c4, c5⟩ := qe_cl_spec G ho h1
  have hklen : k < len := by omega
  have hz := qe_nz (k := k + 1) G (by omega)
  have W := qe_W (k := k) G (by omega)
  have nc : q k ≠ 2 → k + 1 ≤ qe_cl q len o := by
    intro g
    have : k ≠ qe_cl q len o := by rintro rfl; exact g c3
    omega
  have nc2 : ∀ x, x ≤ qe_cl q len o → q x ≠ 2 → x + 1 ≤ qe_cl q len o := by
    intro x hx g
    have : x ≠ qe_cl q len o := by rintro rfl; exact g c3
    omega
  have hpl : qe_pe q len k ≤ len := (qe_pe_le G _ k (Nat.le_refl _) (by omega)).2
  have en : qc_tr q (k + 1) = qc_nx (qc_tr q k) (q k) := rfl
  rcases hs with hs | hs | ⟨hs, hct, hb, hax⟩
  · rcases ht : qc_tr q k with ⟨s, l, op, pa, ct⟩
    rw [ht] at en hs hl hp W
    have hs : s = 4 := hs
    subst hs
    have hl : l = (qc_tr q o).2.1 + 1 := hl
    have hp : pa ((qc_tr q o).2.1 + 1) = lv := hp
    rw [← hl] at hp
    rw [qc_nx_4] at en
    have W4 : op ≤ 4 := W.2.2.2.1
    have W5 : op = qc_sm pa l := W.2.2.2.2.1
    have hge := qc_sm_ge pa l (by omega)
    rw [en] at hz
    unfold qc_op at en hz
    have es4 : (qc_tr q k).1 = 4 := by rw [ht]
    have elv : (qc_tr q k).2.1 = (qc_tr q o).2.1 + 1 := by rw [ht]; exact hl
    by_cases g7 : q k = 7
    · rw [if_pos g7] at en
      exact Or.inr (Or.inr (Or.inr (Or.inl ⟨g7, by omega, nc (by rw [g7]; decide), by rw [en]; exact hl, by rw [en, ← hl]; exact hp, Or.inl (by rw [en])⟩)))
    · rw [if_neg g7] at en hz
      by_cases g3 : q k = 3
      · rw [if_pos g3] at en hz
        by_cases go : op < 4
        · rw [if_pos go] at en
          refine Or.inr (Or.inr (Or.inr (Or.inr (Or.inl ⟨g3, by omega, by omega, nc (by rw [g3]; decide), by rw [en]; exact hl, ?_, Or.inl (by rw [en])⟩))))
          rw [en, ← hl]
          show qc_put pa l (pa l + 1) l = _
          rw [qc_put_s]; omega
        · rw [if_neg go] at hz; exact absurd rfl hz
      · rw [if_neg g3] at en hz
        refine Or.inr (Or.inr (Or.inr (Or.inr (Or.inr ?_))))
        by_cases g8 : q k = 8 ∨ q k = 10
        · rw [if_pos g8] at en
          have s5 : (qc_tr q (k + 1)).1 = 5 := by rw [en]
          have n1 : k + 1 ≤ qe_cl q len o := nc (by rcases g8 with g | g <;> rw [g] <;> decide)
          obtain ⟨x1, x2, x3, x4⟩ := qw_5 G (by omega) s5
          have n2 := nc2 (k + 1) n1 (qw_cp2 x2)
          obtain ⟨y1, y2, y3, y4⟩ := qw_6 G (by omega) x3
          have n3 := nc2 (k + 1 + 1) n2 (qw_nu2 y2)
          have eae : qs_AE q len k = k + 3 := by
            unfold qs_AE
            rcases g8 with g | g
            · rw [if_pos g]
            · rw [if_neg (by rw [g]; decide), if_neg (by rw [g]; decide), if_pos g]
          have e2 : (qc_tr q (k + 3)).2 = (l, op, pa, ct) := by
            rw [show k + 3 = k + 1 + 1 + 1 from rfl, y4, x4, en]
          refine ⟨⟨hklen, es4, elv, Or.inl ⟨g8, by omega⟩, hpl⟩, by omega, ?_⟩
          rw [eae]
          exact ⟨by omega, n3, by rw [e2]; exact hl, by rw [e2, ← hl]; exact hp, Or.inr (Or.inl y3)⟩
        · rw [if_neg g8] at en hz
          by_cases g9 : q k = 9
          · rw [if_pos g9] at en
            have n1 : k + 1 ≤ qe_cl q len o := nc (by rw [g9]; decide)
            have eae : qs_AE q len k = k + 1 := by
              unfold qs_AE
              rw [if_neg (by rw [g9]; decide), if_pos g9]
            refine ⟨⟨hklen, es4, elv, Or.inr (Or.inl g9), hpl⟩, by omega, ?_⟩
            rw [eae]
            exact ⟨by omega, n1, by rw [en]; exact hl, by rw [en, ← hl]; exact hp, Or.inr (Or.inl (by rw [en]))⟩
          · rw [if_neg g9] at en hz
            by_cases g11 : q k = 11
            · rw [if_pos g11] at en
              have n1 : k + 1 ≤ qe_cl q len o := nc (by rw [g11]; decide)
              have s1 : (qc_tr q (k + 1)).1 = 1 := by rw [en]
              have l1 : (qc_tr q (k + 1)).2.1 = (qc_tr q o).2.1 + 1 := by rw [en]; exact hl
              have ha : qc_ax (q (k + 1)) = true := by
                have hz2 := qe_nz (k := k + 1 + 1) G (by omega)
                have e2 : qc_tr q (k + 1 + 1) = qc_nx (qc_tr q (k + 1)) (q (k + 1)) := rfl
                rw [en, qc_nx_1] at e2
                rw [e2] at hz2
                by_cases g : qc_ax (q (k + 1)) = true
                · exact g
                · rw [if_neg g] at hz2; exact absurd rfl hz2
              obtain ⟨p1, p2, p3⟩ := qw_pe G _ (k + 1) (Nat.le_refl _) (by omega) ha
              have p4 := qw_pe_in G ho h1 _ (k + 1) (Nat.le_refl _) (by omega) n1 l1
              obtain ⟨p3a, p3b⟩ := p3 (by omega)
              obtain ⟨t1, t2, t3, t4, t5, t6⟩ := qe_axt G (show k + 1 < len by omega) ha
              have t4 := t4 (by omega)
              obtain ⟨m1, m2, m3, m4⟩ := p2
              rw [t2] at m2 m3 m4
              rw [t3] at m3
              rw [t4] at m4
              have ctl : (qc_tr q (k + 1)).2.2.2.2 (qc_tr q (k + 1)).2.1 = true := by rw [en]; exact qc_put_s
              have pal : (qc_tr q (k + 1)).2.2.2.1 (qc_tr q (k + 1)).2.1 = lv := by rw [en]; exact hp
              rw [ctl] at m4
              rw [pal] at m3
              rw [l1] at m2 m3 m4
              have kp := qe_pe_le G _ (k + 1) (Nat.le_refl _) (by omega)
              -- the comparison behind the path
              have hz2 := qe_nz (k := qe_pe q len (k + 1) + 1) G (by omega)
              have e2 : qc_tr q (qe_pe q len (k + 1) + 1) = qc_nx (qc_tr q (qe_pe q len (k + 1))) (q (qe_pe q len (k + 1))) := rfl
              rcases htp : qc_tr q (qe_pe q len (k + 1)) with ⟨s', l', op', pa', ct'⟩
              rw [htp] at e2 m1 m2 m3 m4
              have m1 : s' = 3 := m1
              subst m1
              have m2 : l' = (qc_tr q o).2.1 + 1 := m2
              have m3 : pa' ((qc_tr q o).2.1 + 1) = lv := m3
              have m4 : ct' ((qc_tr q o).2.1 + 1) = true := m4
              rw [← m2] at m3 m4
              rw [qc_nx_3] at e2
              unfold qc_sp at e2
              rw [if_neg (by rw [p3b]; decide), if_neg p3a, if_neg (by omega), if_pos m4] at e2
              by_cases gc : qc_cp (q (qe_pe q len (k + 1))) = true
              · rw [if_pos gc] at e2
                have n2 := nc2 _ p4 (qw_cp2 gc)
                obtain ⟨y1, y2, y3, y4⟩ := qw_6 G (k := qe_pe q len (k + 1) + 1) (by omega) (by rw [e2])
                have n3 := nc2 _ n2 (qw_nu2 y2)
                have eae : qs_AE q len k = qe_pe q len (k + 1) + 2 := by
                  unfold qs_AE
                  rw [if_neg (by rw [g11]; decide), if_neg (by rw [g11]; decide), if_neg (by rw [g11]; decide), if_pos g11]
                have e3 : (qc_tr q (qe_pe q len (k + 1) + 2)).2 = (l', op', pa', ct') := by
                  rw [show qe_pe q len (k + 1) + 2 = qe_pe q len (k + 1) + 1 + 1 from rfl, y4, e2]
                refine ⟨⟨hklen, es4, elv, Or.inr (Or.inr (Or.inl ⟨g11, by omega, ha, s1, l1, by omega⟩)), hpl⟩, by omega, ?_⟩
                rw [eae]
                exact ⟨by omega, n3, by rw [e3]; exact m2, by rw [e3, ← m2]; exact m3, Or.inr (Or.inl y3)⟩
              · rw [if_neg gc] at e2; rw [e2] at hz2; exact absurd rfl hz2
            · rw [if_neg g11] at en hz
              by_cases ga : qc_ax (q k) = true
              · rw [if_pos ga] at en
                have n1 : k + 1 ≤ qe_cl q len o := nc (qw_ax2 ga)
                obtain ⟨p1, p2, p3⟩ := qw_pe G _ k (Nat.le_refl _) hklen ga
                have p4 := qw_pe_in G ho h1 _ k (Nat.le_refl _) hk hc elv
                obtain ⟨p3a, p3b⟩ := p3 (by omega)
                obtain ⟨m1, m2, m3, m4⟩ := p2
                have a2 : (qc_tr q (k + 1)).2.1 = l := by rw [en]
                rw [a2] at m2 m3 m4
                rw [en] at m3 m4
                have m3 : (qc_tr q (qe_pe q len k)).2.2.2.1 l = pa l := m3
                have m4 : (qc_tr q (qe_pe q len k)).2.2.2.2 l = qc_put ct l false l := m4
                rw [qc_put_s] at m4
                have hgt : k < qe_pe q len k := by
                  rw [qe_pe_eq, if_pos ⟨hklen, ga⟩]
                  have a := qe_se_ge q len k
                  obtain ⟨s1, s2, s3, s4, s5, s6⟩ := qe_se_spec G hklen ga
                  have b := qe_pe_le G _ (qe_se q len k) (Nat.le_refl _) s4
                  omega
                have eae : qs_AE q len k = qe_pe q len k := by
                  unfold qs_AE
                  rw [if_neg (by intro z; exact g8 (Or.inl z)), if_neg g9, if_neg (by intro z; exact g8 (Or.inr z)), if_neg g11]
                refine ⟨⟨hklen, es4, elv, Or.inr (Or.inr (Or.inr ga)), hpl⟩, by omega, ?_⟩
                rw [eae]
                refine ⟨by omega, p4, by rw [m2]; exact hl, by rw [← hl, m3]; exact hp, Or.inr (Or.inr ⟨m1, by rw [← hl]; exact m4, p3a, p3b⟩)⟩
              · rw [if_neg ga] at hz; exact absurd rfl hz
  · have e : qc_tr q (k + 1) = qc_af (qc_tr q k).2.1 (qc_tr q k).2.2.1 (qc_tr q k).2.2.2.1 (qc_tr q k).2.2.2.2 (q k) := by
      rw [en]
      rcases ht : qc_tr q k with ⟨s, l, op, pa, ct⟩
      rw [ht] at hs
      have hs : s = 7 := hs
      subst hs
      rfl
    rcases qw_af G ho h1 hk hc hl hp e with z | z | z
    · exact Or.inl z
    · exact Or.inr (Or.inl z)
    · exact Or.inr (Or.inr (Or.inl z))
  · have e : qc_tr q (k + 1) = qc_af (qc_tr q k).2.1 (qc_tr q k).2.2.1 (qc_tr q k).2.2.2.1 (qc_tr q k).2.2.2.2 (q k) := by
      rw [en]
      rw [← hl] at hct
      rcases ht : qc_tr q k with ⟨s, l, op, pa, ct⟩
      rw [ht] at hs hl hct
      have hs : s = 3 := hs
      subst hs
      have hl : l = (qc_tr q o).2.1 + 1 := hl
      have hct : ct l = false := hct
      rw [qc_nx_3]
      unfold qc_sp
      rw [if_neg (by rw [hax]; decide), if_neg hb, if_neg (by omega), if_neg (by rw [hct]; decide)]
    rcases qw_af G ho h1 hk hc hl hp e with z | z | z
    · exact Or.inl z
    · exact Or.inr (Or.inl z)
    · exact Or.inr (Or.inr (Or.inl z))
end
section
/-! what a query means, over a table g of what the paths behind give -/
def qs_cmp (q : Nat → Int32) (t : Nat) (v : Int32) : Bool := if q t = 12 then decide (¬ q (t + 1) - 2000 ≤ v) else if q t = 13 then decide (v = q (t + 1) - 2000) else decide (¬ v ≤ q (t + 1) - 2000)
def qs_AV (q : Nat → Int32) (len : Nat) (i : Nat → Nat) (vl : Nat → Int32) (g : Nat → Int64) (k x p m : Nat) : Bool :=
  if q k = 8 then qs_cmp q (k + 1) (nI p) else if q k = 9 then decide (p = m) else if q k = 10 then qs_cmp q (k + 1) (vl (i x))
  else if q k = 11 then qs_cmp q (qe_pe q len (k + 1)) (nI (qt_cn (qb (g ((k + 1) * 40 + x))) 40)) else decide (g (k * 40 + x) ≠ 0)
def qs_PE (q : Nat → Int32) (len : Nat) (i : Nat → Nat) (vl : Nat → Int32) (g : Nat → Int64) (x p m : Nat) : Nat → Nat → Nat → (Nat → Bool) → (Nat → Bool) → (Nat → Bool) → Bool
  | 0, _, _, _, _, _ => false
  | f + 1, k, lv, ors, ands, nots =>
    if q k = 2 then (ors 0 || ands 0)
    else if q k = 3 then qs_PE q len i vl g x p m f (k + 1) (lv + 1) (qc_put ors (lv + 1) false) (qc_put ands (lv + 1) true) (qc_put nots (lv + 1) false)
    else if q k = 7 then qs_PE q len i vl g x p m f (k + 1) lv ors ands (qc_put nots lv (!nots lv))
    else if q k = 6 then qs_PE q len i vl g x p m f (k + 1) lv (qc_put ors lv (ors lv || ands lv)) (qc_put ands lv true) nots
    else if q k = 5 then qs_PE q len i vl g x p m f (k + 1) lv ors ands nots
    else if q k = 4 then qs_PE q len i vl g x p m f (k + 1) (lv - 1) ors (qc_put ands (lv - 1) (ands (lv - 1) && ((ors lv || ands lv) != nots (lv - 1)))) (qc_put nots (lv - 1) false)
    else qs_PE q len i vl g x p m f (qs_AE q len k) lv ors (qc_put ands lv (ands lv && (qs_AV q len i vl g k x p m != nots lv))) (qc_put nots lv false)
def qs_PV (q : Nat → Int32) (len : Nat) (i : Nat → Nat) (vl : Nat → Int32) (g : Nat → Int64) (o x p m : Nat) : Bool := qs_PE q len i vl g x p m len (o + 1) 0 (fun _ => false) (fun _ => true) (fun _ => false)
def qs_FL (q : Nat → Int32) (len : Nat) (i : Nat → Nat) (vl : Nat → Int32) (g : Nat → Int64) (n : Nat) (rv : Bool) (o : Nat) (S : Nat → Bool) : Nat → Bool := fun x => S x && qs_PV q len i vl g o x (qs_pos n rv S x) (qt_cn S n)
def qs_FS (q : Nat → Int32) (len : Nat) (i : Nat → Nat) (vl : Nat → Int32) (g : Nat → Int64) (n : Nat) (rv : Bool) : Nat → Nat → (Nat → Bool) → (Nat → Bool)
  | 0, _, S => S
  | f + 1, k, S => if k < len ∧ q k = 1 then qs_FS q len i vl g n rv f (qe_cl q len k + 1) (qs_FL q len i vl g n rv k S) else S
def qs_a (t : Int32) : Nat := (t - 20).toNatClampNeg
theorem qs_a_spec {t : Int32} (h : qc_ax t = true) : t - 20 = nI (qs_a t) ∧ qs_a t ≤ 10 := by
  have h := of_decide_eq_true h
  have h0 : ¬ t < 0 := fun z => h.1 (Int32.lt_trans z (by decide))
  obtain ⟨m, hm, rfl⟩ := nI_of2 (M := 30) (n := 30) (by decide) h0 (Int32.not_lt.mp h.2)
  have h20 : 20 ≤ m := by
    refine Nat.le_of_not_lt (fun z => h.1 ?_)
    exact nI_lt (b := 20) z (by omega)
  have e : nI m - 20 = nI (m - 20) := pk_sub (a := m) (b := 20) h20
  unfold qs_a
  rw [e, nI_clamp (by omega)]
  exact ⟨rfl, by omega⟩
def qs_L0 (n : Nat) (d i : Nat → Nat) (nm q : Nat → Int32) (t c : Nat) : Nat → Bool := fun x => decide (x < n) && (decide (q (t + 1) = 48 ∨ q (t + 1) - 40 = nm (i x)) && qs_ax n d (qs_a (q t)) c x)
def qs_SG (n : Nat) (d i : Nat → Nat) (nm vl q : Nat → Int32) (len : Nat) (g : Nat → Int64) (t c : Nat) : Nat → Bool := qs_FS q len i vl g n (qs_rv (qs_a (q t))) len (t + 2) (qs_L0 n d i nm q t c)
def qs_any (C : Nat → Bool) : Nat → Bool
  | 0 => false
  | k + 1 => qs_any C k || C k
theorem qs_any_iff (C : Nat → Bool) : ∀ k, qs_any C k = true ↔ ∃ x, x < k ∧ C x = true := by
  intro k
  induction k with
  | zero => simp only [qs_any]; exact ⟨fun h => absurd h (by decide), fun ⟨x, h, _⟩ => by omega⟩
  | succ k ih =>
    simp only [qs_any, Bool.or_eq_true, ih]
    constructor
    · rintro (⟨x, h1, h2⟩ | h)
      · exact ⟨x, by omega, h2⟩
      · exact ⟨k, by omega, h⟩
    · rintro ⟨x, h1, h2⟩
      by_cases e : x = k
      · rw [e] at h2; exact Or.inr h2
      · exact Or.inl ⟨x, by omega, h2⟩
/-- what the path from t on gives, from the table's rows behind t -/
def qs_PT (n : Nat) (d i : Nat → Nat) (nm vl q : Nat → Int32) (len : Nat) (g : Nat → Int64) (t c y : Nat) : Bool :=
  if qc_ax (q (qe_se q len t)) = true then qs_any (fun x => qs_SG n d i nm vl q len g t c x && qb (g (qe_se q len t * 40 + x)) y) n else qs_SG n d i nm vl q len g t c y
/-- the table is right from row t on -/
def qs_LC (n : Nat) (d i : Nat → Nat) (nm vl q : Nat → Int32) (len : Nat) (g : Nat → Int64) (t : Nat) : Prop := ∀ t', t ≤ t' → t' < len → qc_ax (q t') = true → ∀ c, c < n → ∀ y, qb (g (t' * 40 + c)) y = qs_PT n d i nm vl q len g t' c y
/-! only the rows behind count -/
theorem qs_AV_c {q : Nat → Int32} {len : Nat} {i : Nat → Nat} {vl : Nat → Int32} {g g' : Nat → Int64} {B k x p m : Nat} (hg : ∀ j, B ≤ j → g' j = g j) (hk : B ≤ k * 40) : qs_AV q len i vl g' k x p m = qs_AV q len i vl g k x p m := by
  unfold qs_AV
  rw [hg ((k + 1) * 40 + x) (by omega), hg (k * 40 + x) (by omega)]
theorem qs_PE_c {q : Nat → Int32} {len : Nat} {i : Nat → Nat} {vl : Nat → Int32} {g g' : Nat → Int64} {x p m o : Nat} (G : qe_G q len) (ho : o < len) (h1 : q o = 1) (hg : ∀ j, (o + 1) * 40 ≤ j → g' j = g j) :
    ∀ f k lv ors ands nots, qw_PO q len o k lv → qs_PE q len i vl g' x p m f k lv ors ands nots = qs_PE q len i vl g x p m f k lv ors ands nots := by
  intro f
  induction f with
  | zero => intro k lv ors ands nots _; rfl
  | succ f ih =>
    intro k lv ors ands nots P
    have hk := P.1
    simp only [qs_PE]
    rw [qs_AV_c (B := (o + 1) * 40) hg (by omega)]
    rcases qw_next G ho h1 P with ⟨a1, a2, a3⟩ | ⟨a1, a2⟩ | ⟨a1, a2, a3⟩ | ⟨a1, a2⟩ | ⟨a1, a2, a3⟩ | ⟨a1, a2, a3⟩
    · rw [if_pos a1, if_pos a1]
    · rcases a1 with a1 | a1
      · rw [if_neg (by rw [a1]; decide), if_neg (by rw [a1]; decide), if_neg (by rw [a1]; decide), if_neg (by rw [a1]; decide), if_pos a1, if_neg (by rw [a1]; decide), if_neg (by rw [a1]; decide), if_neg (by rw [a1]; decide), if_neg (by rw [a1]; decide), if_pos a1]
        exact ih _ _ _ _ _ a2
      · rw [if_neg (by rw [a1]; decide), if_neg (by rw [a1]; decide), if_neg (by rw [a1]; decide), if_pos a1, if_neg (by rw [a1]; decide), if_neg (by rw [a1]; decide), if_neg (by rw [a1]; decide), if_pos a1]
        exact ih _ _ _ _ _ a2
    · rw [if_neg (by rw [a1]; decide), if_neg (by rw [a1]; decide), if_neg (by rw [a1]; decide), if_neg (by rw [a1]; decide), if_neg (by rw [a1]; decide), if_pos a1, if_neg (by rw [a1]; decide), if_neg (by rw [a1]; decide), if_neg (by rw [a1]; decide), if_neg (by rw [a1]; decide), if_neg (by rw [a1]; decide), if_pos a1]
      exact ih _ _ _ _ _ a3
    · rw [if_neg (by rw [a1]; decide), if_neg (by rw [a1]; decide), if_pos a1, if_neg (by rw [a1]; decide), if_neg (by rw [a1]; decide), if_pos a1]
      exact ih _ _ _ _ _ a2
    · rw [if_neg (by rw [a1]; decide), if_pos a1, if_neg (by rw [a1]; decide), if_pos a1]
      exact ih _ _ _ _ _ a3
    · have nn : q k ≠ 2 ∧ q k ≠ 3 ∧ q k ≠ 7 ∧ q k ≠ 6 ∧ q k ≠ 5 ∧ q k ≠ 4 := by
        rcases a1.2.2.2.1 with ⟨z | z, _⟩ | z | ⟨z, _⟩ | z
        · rw [z]; decide
        · rw [z]; decide
        · rw [z]; decide
        · rw [z]; decide
        · refine ⟨?_, ?_, ?_, ?_, ?_, ?_⟩ <;> (intro y; rw [y] at z; exact absurd z (by decide))
      rw [if_neg nn.1, if_neg nn.2.1, if_neg nn.2.2.1, if_neg nn.2.2.2.1, if_neg nn.2.2.2.2.1, if_neg nn.2.2.2.2.2, if_neg nn.1, if_neg nn.2.1, if_neg nn.2.2.1, if_neg nn.2.2.2.1, if_neg nn.2.2.2.2.1, if_neg nn.2.2.2.2.2]
      exact ih _ _ _ _ _ a3
theorem qs_FS_c {q : Nat → Int32} {len : Nat} {i : Nat → Nat} {vl : Nat → Int32} {g g' : Nat → Int64} {n t : Nat} {rv : Bool} (G : qe_G q len) (hg : ∀ j, (t + 1) * 40 ≤ j → g' j = g j) :
    ∀ f k S, t ≤ k → qs_FS q len i vl g' n rv f k S = qs_FS q len i vl g n rv f k S := by
  intro f
  induction f with
  | zero => intro k S _; rfl
  | succ f ih =>
    intro k S hk
    simp only [qs_FS]
    by_cases h : k < len ∧ q k = 1
    · have e : qs_FL q len i vl g' n rv k S = qs_FL q len i vl g n rv k S := by
        funext x
        unfold qs_FL qs_PV
        rw [qs_PE_c G h.1 h.2 (fun j hj => hg j (by omega)) _ _ _ _ _ _ (qw_start G h.1 h.2)]
      have c := qe_cl_ge q len k
      rw [if_pos h, if_pos h, e, ih _ _ (by omega)]
    · rw [if_neg h, if_neg h]
theorem qs_SG_c {n : Nat} {d i : Nat → Nat} {nm vl q : Nat → Int32} {len : Nat} {g g' : Nat → Int64} {t c : Nat} (G : qe_G q len) (hg : ∀ j, (t + 1) * 40 ≤ j → g' j = g j) : qs_SG n d i nm vl q len g' t c = qs_SG n d i nm vl q len g t c :=
  qs_FS_c G hg _ _ _ (by omega)
theorem qs_PT_c {n : Nat} {d i : Nat → Nat} {nm vl q : Nat → Int32} {len : Nat} {g g' : Nat → Int64} {t c y : Nat} (G : qe_G q len) (hg : ∀ j, (t + 1) * 40 ≤ j → g' j = g j) : qs_PT n d i nm vl q len g' t c y = qs_PT n d i nm vl q len g t c y := by
  unfold qs_PT
  rw [qs_SG_c G hg]
  have e : ∀ x, g' (qe_se q len t * 40 + x) = g (qe_se q len t * 40 + x) := fun x => hg _ (by have := qe_se_ge q len t; omega)
  have e2 : (fun x => qs_SG n d i nm vl q len g t c x && qb (g' (qe_se q len t * 40 + x)) y) = (fun x => qs_SG n d i nm vl q len g t c x && qb (g (qe_se q len t * 40 + x)) y) := funext (fun x => by rw [e x])
  rw [e2]
theorem qs_FS_sub {q : Nat → Int32} {len : Nat} {i : Nat → Nat} {vl : Nat → Int32} {g : Nat → Int64} {n : Nat} {rv : Bool} : ∀ f k S x, qs_FS q len i vl g n rv f k S x = true → S x = true := by
  intro f
  induction f with
  | zero => intro k S x h; exact h
  | succ f ih =>
    intro k S x h
    simp only [qs_FS] at h
    by_cases c : k < len ∧ q k = 1
    · rw [if_pos c] at h
      have := ih _ _ _ h
      unfold qs_FL at this
      rw [Bool.and_eq_true] at this
      exact this.1
    · rw [if_neg c] at h; exact h
theorem qs_SG_lt {n : Nat} {d i : Nat → Nat} {nm vl q : Nat → Int32} {len : Nat} {g : Nat → Int64} {t c x : Nat} (h : qs_SG n d i nm vl q len g t c x = true) : x < n := by
  have h1 := qs_FS_sub _ _ _ _ h
  unfold qs_L0 at h1
  rw [Bool.and_eq_true] at h1
  exact of_decide_eq_true h1.1
/-- nothing beyond the nodes -/
theorem qs_LC_lt {n : Nat} {d i : Nat → Nat} {nm vl q : Nat → Int32} {len : Nat} {g : Nat → Int64} {T : Nat} (G : qe_G q len) (LC : qs_LC n d i nm vl q len g T) (hq : ∀ x, len ≤ x → x < 41 → q x = 0) (hl : len ≤ 40) : ∀ f t, len - t ≤ f → T ≤ t → t < len → qc_ax (q t) = true → ∀ c, c < n → ∀ y, qb (g (t * 40 + c)) y = true → y < n := by
  intro f
  induction f with
  | zero => intro t h _ h2; omega
  | succ f ih =>
    intro t h hT h2 ha c hc y hy
    rw [LC t hT h2 ha c hc y] at hy
    unfold qs_PT at hy
    obtain ⟨s1, s2, s3, s4, s5, s6⟩ := qe_se_spec G h2 ha
    have b := qe_se_ge q len t
    by_cases g1 : qc_ax (q (qe_se q len t)) = true
    · rw [if_pos g1, qs_any_iff] at hy
      obtain ⟨x, hx, hb⟩ := hy
      rw [Bool.and_eq_true] at hb
      have hlt : qe_se q len t < len := by
        refine Nat.lt_of_not_le (fun z => ?_)
        rw [hq _ z (by omega)] at g1
        exact absurd g1 (by decide)
      exact ih (qe_se q len t) (by omega) (by omega) hlt g1 x hx y hb.2
    · rw [if_neg g1] at hy
      exact qs_SG_lt hy
end
section
/-! X: select -/
def qs_H (n : Nat) (i d : Nat → Nat) (od dp po rk pt sz : Nat → Int32) (len : Nat) (q co se pe : Nat → Int32) : Prop :=
  qr_B n i d od dp po ∧ qr_N n i d rk pt sz ∧ len ≤ 40 ∧ qe_G q len ∧ (∀ x, len ≤ x → x < 41 → q x = 0) ∧ (∀ t, t < len → q t = 1 → co t = nI (qe_cl q len t)) ∧ (∀ t, t < len → qc_ax (q t) = true → se t = nI (qe_se q len t) ∧ pe t = nI (qe_pe q len t))
def qs_RX (list : Int64) (lv : Nat) (an al : Nat → Int64) (ng : Nat → Int32) (O A : Nat → Nat → Bool) (Ng : Nat → Bool) : Prop := ∀ j, j ≤ lv → ng j = qa_b (Ng j) ∧ ∀ x, qb (an j) x = (qb list x && O x j) ∧ qb (al j) x = (qb list x && A x j)
theorem qs_bool1 (l a o g : Bool) : ((l && a) && (if g = true then l && !(l && o) else (l && o))) = (l && (a && (o != g))) := by cases l <;> cases a <;> cases o <;> cases g <;> rfl
section
variable {xlim : Int32} {xn : Int32} {xpc : Int32} {xlv : Int32} {xop : Int32} {xql : Int32} {xrc : Int32} {xrt : Int64} {xod : (Nat → Int32)} {xpo : (Nat → Int32)} {xnm : (Nat → Int32)} {xvl : (Nat → Int32)} {xmv : (Nat → Int32)} {xrk : (Nat → Int32)} {xpt : (Nat → Int32)} {xsz : (Nat → Int32)} {xpd : (Nat → Int32)} {xpa : (Nat → Int32)} {xct : (Nat → Int32)} {xqu : (Nat → Int32)} {xco : (Nat → Int32)} {xse : (Nat → Int32)} {xpe : (Nat → Int32)} {xgv : (Nat → Int64)} {xan : (Nat → Int64)} {xal : (Nat → Int64)} {xng : (Nat → Int32)} {xrs : (Nat → Int32)}
variable {n len : Nat} {i d : Nat → Nat} {dp : Nat → Int32}
theorem qs_xcm {t : Nat} {v : Int32} {post : Int32 → Prop} (ht : t + 1 < 41) (h : post (qa_b (qs_cmp xqu t v))) : wpX_compares post (xlim, xn, xpc, xlv, xop, xql, xrc, xrt, xod, xpo, xnm, xvl, xmv, xrk, xpt, xsz, xpd, xpa, xct, xqu, xco, xse, xpe, xgv, xan, xal, xng, xrs) v (nI t) := by
  refine And.intro (by rw [nI_1]; exact vp_in_nI ht (by omega)) (nm_r (e' := xqu (t + 1) - 2000) (by rw [nI_1, nI_clamp (by omega)]) ⟨vp_in_nI (by omega) (by omega), nm_r (e' := xqu t) (by rw [nI_clamp (by omega)]) ?_⟩)
  unfold qs_cmp at h
  by_cases g : xqu t = 12
  · rw [if_pos g] at h
    refine br_t g (qs_pif' ?_ h)
    exact ⟨fun z => decide_eq_false (fun y => y z), fun z => Classical.byContradiction (fun y => absurd y (of_decide_eq_false z))⟩
  · rw [if_neg g] at h
    refine br_f g ?_
    by_cases g2 : xqu t = 13
    · rw [if_pos g2] at h
      refine br_t g2 (qs_pif ?_ h)
      exact ⟨fun z => decide_eq_true z, fun z => of_decide_eq_true z⟩
    · rw [if_neg g2] at h
      refine br_f g2 (qs_pif' ?_ h)
      exact ⟨fun z => decide_eq_false (fun y => y z), fun z => Classical.byContradiction (fun y => absurd y (of_decide_eq_false z))⟩
theorem qs_tok {x : Int32} (h : qc_ax x = true) : ¬ x < 8 ∧ 11 < x ∧ x ≠ 8 ∧ x ≠ 9 ∧ x ≠ 10 ∧ x ≠ 11 := by
  have a := (of_decide_eq_true h).1
  have b : (20 : Int32) ≤ x := Int32.not_lt.mp a
  refine ⟨fun z => a (Int32.lt_trans z (by decide)), Int32.lt_of_lt_of_le (by decide) b, ?_, ?_, ?_, ?_⟩ <;> (rintro rfl; exact absurd h (by decide))
theorem qs_ix {k x : Nat} : nI k * 40 + nI x = nI (k * 40 + x) := by
  rw [show (40 : Int32) = nI 40 from rfl, pk_mul, nI_add]
theorem qs_xah {o k x p m : Nat} {post : Int32 → Prop} (H : qs_H n i d xod dp xpo xrk xpt xsz len xqu xco xse xpe) (T : qw_AT xqu len o k) (hx : x < n) (hp : p < 2 ^ 31) (hm : m < 2 ^ 31)
    (h : post (qa_b (qs_AV xqu len i xvl xgv k x p m))) : wpX_atomHolds post (xlim, nI n, xpc, xlv, xop, nI len, xrc, xrt, xod, xpo, xnm, xvl, xmv, xrk, xpt, xsz, xpd, xpa, xct, xqu, xco, xse, xpe, xgv, xan, xal, xng, xrs) (nI k) (nI x) (nI p) (nI m) := by
  obtain ⟨B, N, hl, G, hq, hco, hse⟩ := H
  obtain ⟨t1, t2, t3, t4, t5⟩ := T
  have hn := B.1.2
  refine And.intro (vp_in_nI (by omega) (by omega)) (nm_r (e' := xqu k) (by rw [nI_clamp (by omega)]) ?_)
  unfold qs_AV at h
  rcases t4 with ⟨z | z, zl⟩ | z | ⟨z, z1, z2, z3, z4, z5⟩ | z
  · rw [if_pos z] at h
    refine br_f (by rw [z]; decide) (br_f (by rw [z]; decide) (br_t z ?_))
    rw [nI_1]
    exact qs_xcm (by omega) ⟨qa_bn _, h⟩
  · rw [if_neg (by rw [z]; decide), if_neg (by rw [z]; decide), if_pos z] at h
    have hix := B.2.1 x hx
    refine br_f (by rw [z]; decide) (br_f (by rw [z]; decide) (br_f (by rw [z]; decide) (br_f (by rw [z]; decide) (br_t z ⟨vp_in_nI (by omega) (by omega), ?_⟩))))
    rw [nI_clamp (n := x) (by omega), hix.1]
    refine ⟨vp_in_nI hix.2 (by omega), ?_⟩
    rw [nI_1, nI_clamp (n := i x) (by omega)]
    exact qs_xcm (by omega) ⟨qa_bn _, h⟩
  · rw [if_neg (by rw [z]; decide), if_pos z] at h
    refine br_f (by rw [z]; decide) (br_f (by rw [z]; decide) (br_f (by rw [z]; decide) (br_t z (qs_pif ?_ h))))
    rw [nI_eq hp hm]
    exact ⟨fun y => decide_eq_true y, fun y => of_decide_eq_true y⟩
  · rw [if_neg (by rw [z]; decide), if_neg (by rw [z]; decide), if_neg (by rw [z]; decide), if_pos z] at h
    refine br_f (by rw [z]; decide) (br_f (by rw [z]; decide) (br_f (by rw [z]; decide) (br_f (by rw [z]; decide) (br_f (by rw [z]; decide) (br_t z ?_)))))
    have e : (nI k + 1) * 40 + nI x = nI ((k + 1) * 40 + x) := by rw [nI_1]; exact qs_ix
    rw [e]
    refine ⟨vp_in_nI (by omega) (by omega), ?_⟩
    rw [nI_clamp (by omega)]
    refine qs_xbc ⟨by rw [nI_1]; exact vp_in_nI (by omega) (by omega), ?_⟩
    rw [nI_1, nI_clamp (n := k + 1) (by omega), (hse (k + 1) z1 z2).2]
    exact qs_xcm (by omega) ⟨qa_bn _, h⟩
  · obtain ⟨y1, y2, y3, y4, y5, y6⟩ := qs_tok z
    rw [if_neg y3, if_neg y4, if_neg y5, if_neg y6] at h
    refine br_f y1 (br_t y2 ?_)
    rw [qs_ix]
    refine ⟨vp_in_nI (by omega) (by omega), ?_⟩
    rw [nI_clamp (by omega)]
    refine qs_pif' ?_ h
    exact ⟨fun y => decide_eq_false (fun w => w y), fun y => Classical.byContradiction (fun w => absurd w (of_decide_eq_false y))⟩
theorem qs_xae {o k : Nat} {post : Int32 → Prop} (H : qs_H n i d xod dp xpo xrk xpt xsz len xqu xco xse xpe) (T : qw_AT xqu len o k) (h : post (nI (qs_AE xqu len k))) : wpX_atomEnd post (xlim, nI n, xpc, xlv, xop, nI len, xrc, xrt, xod, xpo, xnm, xvl, xmv, xrk, xpt, xsz, xpd, xpa, xct, xqu, xco, xse, xpe, xgv, xan, xal, xng, xrs) (nI k) := by
  obtain ⟨B, N, hl, G, hq, hco, hse⟩ := H
  obtain ⟨t1, t2, t3, t4, t5⟩ := T
  refine And.intro (vp_in_nI (by omega) (by omega)) (nm_r (e' := xqu k) (by rw [nI_clamp (by omega)]) ?_)
  unfold qs_AE at h
  rcases t4 with ⟨z | z, zl⟩ | z | ⟨z, z1, z2, z3, z4, z5⟩ | z
  · rw [if_pos z] at h
    refine br_f (by rw [z]; decide) (br_f (by rw [z]; decide) (br_t z ?_))
    rw [show nI k + 3 = nI (k + 3) from nI_add k 3]; exact h
  · rw [if_neg (by rw [z]; decide), if_neg (by rw [z]; decide), if_pos z] at h
    refine br_f (by rw [z]; decide) (br_f (by rw [z]; decide) (br_f (by rw [z]; decide) (br_f (by rw [z]; decide) (br_t z ?_))))
    rw [show nI k + 3 = nI (k + 3) from nI_add k 3]; exact h
  · rw [if_neg (by rw [z]; decide), if_pos z] at h
    refine br_f (by rw [z]; decide) (br_f (by rw [z]; decide) (br_f (by rw [z]; decide) (br_t z ?_)))
    rw [nI_1]; exact h
  · rw [if_neg (by rw [z]; decide), if_neg (by rw [z]; decide), if_neg (by rw [z]; decide), if_pos z] at h
    refine br_f (by rw [z]; decide) (br_f (by rw [z]; decide) (br_f (by rw [z]; decide) (br_f (by rw [z]; decide) (br_f (by rw [z]; decide) (br_t z ⟨by rw [nI_1]; exact vp_in_nI (by omega) (by omega), ?_⟩)))))
    rw [nI_1, nI_clamp (n := k + 1) (by omega), (hse (k + 1) z1 z2).2, show nI (qe_pe xqu len (k + 1)) + 2 = nI (qe_pe xqu len (k + 1) + 2) from nI_add _ 2]
    exact h
  · obtain ⟨y1, y2, y3, y4, y5, y6⟩ := qs_tok z
    rw [if_neg y3, if_neg y4, if_neg y5, if_neg y6] at h
    refine br_f y1 (br_t y2 ⟨vp_in_nI (by omega) (by omega), ?_⟩)
    rw [nI_clamp (n := k) (by omega), (hse k t1 z).2]; exact h
theorem qs_xan {o k : Nat} {list : Int64} {rv : Bool} {post : Int64 → Prop} (H : qs_H n i d xod dp xpo xrk xpt xsz len xqu xco xse xpe) (T : qw_AT xqu len o k) (hls : ∀ y, qb list y = true → y < n)
    (h : ∀ w, (∀ y, qb w y = (qb list y && qs_AV xqu len i xvl xgv k y (qs_pos n rv (qb list) y) (qt_cn (qb list) n))) → post w) : wpX_atomNodes post (xlim, nI n, xpc, xlv, xop, nI len, xrc, xrt, xod, xpo, xnm, xvl, xmv, xrk, xpt, xsz, xpd, xpa, xct, xqu, xco, xse, xpe, xgv, xan, xal, xng, xrs) (nI k) list (qa_b rv) := by
  have hn := H.1.1.2
  refine qs_xbc ?_
  have ec : qt_cn (qb list) 40 = qt_cn (qb list) n := by
    refine qt_cn_hi n 40 hn (fun y h1 h2 => ?_)
    rw [← Bool.not_eq_true]
    exact fun z => by have := hls y z; omega
  rw [ec]
  have hm := qt_cn_le (qb list) n
  have key : ∀ f j w, j + f = n → (∀ y, qb w y = (decide (y < n ∧ qs_rho n rv y < j) && (qb list y && qs_AV xqu len i xvl xgv k y (qs_pos n rv (qb list) y) (qt_cn (qb list) n)))) →
      wX_atomNodes_16 post (nI k) list (qa_b rv) (nI (qt_cn (qb list) n)) xlim (nI n) xpc xlv xop (nI len) xrc xrt xod xpo xnm xvl xmv xrk xpt xsz xpd xpa xct xqu xco xse xpe xgv xan xal xng xrs (f + 1) (nI (qt_cn (fun k => qb list (qs_rho n rv k)) j)) w (nI j) := by
    intro f
    induction f with
    | zero =>
      intro j w e hw
      refine br_t (nI_le (by omega) (by omega)) (h w (fun y => ?_))
      rw [hw y]
      by_cases g : y < n
      · rw [decide_eq_true ⟨g, by have := qs_rho_lt (rv := rv) g; omega⟩, Bool.true_and]
      · have : qb list y = false := by rw [← Bool.not_eq_true]; exact fun z => g (hls y z)
        rw [this, Bool.false_and, Bool.and_false]
    | succ f ih =>
      intro j w e hw
      have hr := qs_rho_lt (n := n) (rv := rv) (k := j) (by omega)
      have hr2 := qs_rho_2 (n := n) (rv := rv) (k := j) (by omega)
      have hcl := qt_cn_le (fun k => qb list (qs_rho n rv k)) (j + 1)
      have hcs : qt_cn (fun k => qb list (qs_rho n rv k)) (j + 1) = qt_cn (fun k => qb list (qs_rho n rv k)) j + if qb list (qs_rho n rv j) then 1 else 0 := rfl
      have main : wX_atomNodes_44 post (wX_atomNodes_16 post (nI k) list (qa_b rv) (nI (qt_cn (qb list) n)) xlim (nI n) xpc xlv xop (nI len) xrc xrt xod xpo xnm xvl xmv xrk xpt xsz xpd xpa xct xqu xco xse xpe xgv xan xal xng xrs (f + 1)) (nI k) list (qa_b rv) (nI (qt_cn (qb list) n)) (nI (qt_cn (fun k => qb list (qs_rho n rv k)) j)) w (nI j) (nI (qs_rho n rv j)) xlim (nI n) xpc xlv xop (nI len) xrc xrt xod xpo xnm xvl xmv xrk xpt xsz xpd xpa xct xqu xco xse xpe xgv xan xal xng xrs := by
        have step : ∀ y, y ≠ qs_rho n rv j → decide (y < n ∧ qs_rho n rv y < j) = decide (y < n ∧ qs_rho n rv y < j + 1) := by
          intro y hy
          rw [decide_eq_decide]
          constructor
          · intro z; omega
          · intro z
            refine ⟨z.1, ?_⟩
            have : qs_rho n rv y ≠ j := fun e => hy (by rw [← e, qs_rho_2 z.1])
            omega
        refine qs_xhas (by omega) (qa_br (fun z => ?_) (fun z => ?_))
        · refine nm_r (nI_1 j) ?_
          have c := ih (j + 1) w (by omega) (fun y => ?_)
          · rw [hcs, z] at c; exact c
          · rw [hw y]
            by_cases g : y = qs_rho n rv j
            · rw [g, z, Bool.false_and, Bool.and_false, Bool.and_false]
            · rw [step y g]
        · have ep : nI (qt_cn (fun k => qb list (qs_rho n rv k)) j) + 1 = nI (qs_pos n rv (qb list) (qs_rho n rv j)) := by
            unfold qs_pos
            rw [hr2, hcs, z, nI_1]; rfl
          refine nm_r ep (qs_xah H T hr (by unfold qs_pos; rw [hr2]; omega) (by omega) (qa_br (fun z2 => ?_) (fun z2 => ?_)))
          · refine nm_r (nI_1 j) ?_
            have c := ih (j + 1) w (by omega) (fun y => ?_)
            · rw [hcs, z] at c
              rw [← ep, nI_1]; exact c
            · rw [hw y]
              by_cases g : y = qs_rho n rv j
              · rw [g, z2, Bool.and_false, Bool.and_false, Bool.and_false]
              · rw [step y g]
          · refine nm_e (nm_r (nI_1 j) ?_)
            have c := ih (j + 1) (w ||| ((1 : Int64) <<< ((nI (qs_rho n rv j)).toInt64 &&& 63))) (by omega) (fun y => ?_)
            · rw [hcs, z] at c
              rw [← ep, nI_1]; exact c
            · rw [qb_or, hw y, qb_shl _ (by omega)]
              by_cases g : y = qs_rho n rv j
              · rw [g, z2, z, hr2, decide_eq_true (show qs_rho n rv j = qs_rho n rv j from rfl), Bool.or_true, decide_eq_true (show qs_rho n rv j < n ∧ j < j + 1 from ⟨hr, Nat.lt_succ_self _⟩)]; rfl
              · rw [step y g, decide_eq_false g, Bool.or_false]
      refine br_f (nI_ge (by omega) (by omega)) ?_
      cases rv
      · exact br_t (by decide) main
      · refine br_f (by decide) ?_
        have e2 : (nI n - 1) - nI j = nI (qs_rho n true j) := by
          unfold qs_rho
          rw [if_pos rfl, show nI n - 1 = nI (n - 1) from pk_sub (a := n) (b := 1) (by omega), pk_sub (by omega)]
        rw [e2]
        exact main
  refine Exists.intro _ (key n 0 0 (by omega) (fun y => ?_))
  rw [qb_0, decide_eq_false (by omega), Bool.false_and]
theorem qs_xbg {list : Int64} {lv : Nat} {O A : Nat → Nat → Bool} {Ng : Nat → Bool} {post : SX → Prop} (hlv : lv < 5) (R : ∀ j, j < lv → xng j = qa_b (Ng j) ∧ ∀ x, qb (xan j) x = (qb list x && O x j) ∧ qb (xal j) x = (qb list x && A x j))
    (h : ∀ an al ng, qs_RX list lv an al ng (fun x => qc_put (O x) lv false) (fun x => qc_put (A x) lv true) (qc_put Ng lv false) → post (xlim, xn, xpc, xlv, xop, xql, xrc, xrt, xod, xpo, xnm, xvl, xmv, xrk, xpt, xsz, xpd, xpa, xct, xqu, xco, xse, xpe, xgv, an, al, ng, xrs)) : wpX_beginGroup post (xlim, xn, xpc, xlv, xop, xql, xrc, xrt, xod, xpo, xnm, xvl, xmv, xrk, xpt, xsz, xpd, xpa, xct, xqu, xco, xse, xpe, xgv, xan, xal, xng, xrs) (nI lv) list := by
  have il : vp_in (nI lv) 5 := vp_in_nI hlv (by omega)
  refine And.intro il (fun a ea => ⟨il, fun b eb => ⟨il, fun c ec => h a b c (fun j hj => ?_)⟩⟩)
  rw [nI_clamp (by omega)] at ea eb ec
  rw [ea, eb, ec]
  by_cases e : j = lv
  · subst e
    rw [pk_us, qc_put_s]
    refine ⟨rfl, fun x => ?_⟩
    dsimp only
    rw [pk_uLs, pk_uLs, qc_put_s, qc_put_s, qb_0, Bool.and_false, Bool.and_true]
    exact ⟨rfl, rfl⟩
  · obtain ⟨r1, r2⟩ := R j (by omega)
    rw [pk_un e, qc_put_n e]
    refine ⟨r1, fun x => ?_⟩
    dsimp only
    rw [pk_uLn e, pk_uLn e, qc_put_n e, qc_put_n e]
    exact r2 x
theorem qs_xjo {list w : Int64} {lv j : Nat} {O A : Nat → Nat → Bool} {Ng V : Nat → Bool} {post : SX → Prop} (hlv : lv < 5) (hj : j ≤ lv) (R : qs_RX list lv xan xal xng O A Ng) (hw : ∀ x, qb w x = (qb list x && V x))
    (h : ∀ al ng, qs_RX list lv xan al ng O (fun x => qc_put (A x) j (A x j && (V x != Ng j))) (qc_put Ng j false) → post (xlim, xn, xpc, xlv, xop, xql, xrc, xrt, xod, xpo, xnm, xvl, xmv, xrk, xpt, xsz, xpd, xpa, xct, xqu, xco, xse, xpe, xgv, xan, al, ng, xrs)) : wpX_joinOperand post (xlim, xn, xpc, xlv, xop, xql, xrc, xrt, xod, xpo, xnm, xvl, xmv, xrk, xpt, xsz, xpd, xpa, xct, xqu, xco, xse, xpe, xgv, xan, xal, xng, xrs) (nI j) w list := by
  have il : vp_in (nI j) 5 := vp_in_nI (by omega) (by omega)
  have ej : (nI j).toNatClampNeg = j := nI_clamp (by omega)
  have fin : ∀ v : Int64, (∀ x, x < 64 → qb v x = (if Ng j = true then qb list x && !(qb w x) else qb w x)) → wX_joinOperand_28 post (nI j) v (xal j) (nI j) xlim xn xpc xlv xop xql xrc xrt xod xpo xnm xvl xmv xrk xpt xsz xpd xpa xct xqu xco xse xpe xgv xan xal xng xrs := by
    intro v hv
    refine And.intro il (fun a ea => ⟨il, fun b eb => h a b (fun l hl => ?_)⟩)
    rw [ej] at ea eb
    rw [ea, eb]
    obtain ⟨r1, r2⟩ := R l hl
    by_cases e : l = j
    · subst e
      rw [pk_us, qc_put_s]
      refine ⟨rfl, fun x => ⟨(r2 x).1, ?_⟩⟩
      dsimp only
      rw [pk_uLs, qc_put_s, qb_and, (r2 x).2]
      by_cases hx : x < 64
      · rw [hv x hx, hw x]
        exact qs_bool1 _ _ _ _
      · rw [qb_big (x := list) (i := x) (by omega)]; rfl
    · rw [pk_un e, qc_put_n e]
      refine ⟨r1, fun x => ⟨(r2 x).1, ?_⟩⟩
      dsimp only
      rw [pk_uLn e, qc_put_n e]
      exact (r2 x).2
  refine And.intro il ⟨il, ?_⟩
  rw [ej, (R j hj).1]
  refine qa_br (fun g => ?_) (fun g => ?_)
  · refine fin w (fun x _ => ?_)
    rw [g]; rfl
  · refine fin _ (fun x hx => ?_)
    rw [g, qb_and, qb_not w hx]; rfl
theorem qs_RX_mono {list : Int64} {lv lv' : Nat} {an al : Nat → Int64} {ng : Nat → Int32} {O A : Nat → Nat → Bool} {Ng : Nat → Bool} (h : lv' ≤ lv) (R : qs_RX list lv an al ng O A Ng) : qs_RX list lv' an al ng O A Ng := fun j hj => R j (by omega)
end
end
section
/-! X: a predicate over a list, a path, all paths, the result -/
section
variable {q : Nat → Int32} {len : Nat} {i : Nat → Nat} {vl : Nat → Int32} {g : Nat → Int64} {x p m f k lv : Nat} {ors ands nots : Nat → Bool}
theorem qs_PE_2 (h : q k = 2) : qs_PE q len i vl g x p m (f + 1) k lv ors ands nots = (ors 0 || ands 0) := by
  simp only [qs_PE]; rw [if_pos h]
theorem qs_PE_3 (h : q k = 3) : qs_PE q len i vl g x p m (f + 1) k lv ors ands nots = qs_PE q len i vl g x p m f (k + 1) (lv + 1) (qc_put ors (lv + 1) false) (qc_put ands (lv + 1) true) (qc_put nots (lv + 1) false) := by
  simp only [qs_PE]; rw [if_neg (by rw [h]; decide), if_pos h]
theorem qs_PE_7 (h : q k = 7) : qs_PE q len i vl g x p m (f + 1) k lv ors ands nots = qs_PE q len i vl g x p m f (k + 1) lv ors ands (qc_put nots lv (!nots lv)) := by
  simp only [qs_PE]; rw [if_neg (by rw [h]; decide), if_neg (by rw [h]; decide), if_pos h]
theorem qs_PE_6 (h : q k = 6) : qs_PE q len i vl g x p m (f + 1) k lv ors ands nots = qs_PE q len i vl g x p m f (k + 1) lv (qc_put ors lv (ors lv || ands lv)) (qc_put ands lv true) nots := by
  simp only [qs_PE]; rw [if_neg (by rw [h]; decide), if_neg (by rw [h]; decide), if_neg (by rw [h]; decide), if_pos h]
theorem qs_PE_5 (h : q k = 5) : qs_PE q len i vl g x p m (f + 1) k lv ors ands nots = qs_PE q len i vl g x p m f (k + 1) lv ors ands nots := by
  simp only [qs_PE]; rw [if_neg (by rw [h]; decide), if_neg (by rw [h]; decide), if_neg (by rw [h]; decide), if_neg (by rw [h]; decide), if_pos h]
theorem qs_PE_4 (h : q k = 4) : qs_PE q len i vl g x p m (f + 1) k lv ors ands nots = qs_PE q len i vl g x p m f (k + 1) (lv - 1) ors (qc_put ands (lv - 1) (ands (lv - 1) && ((ors lv || ands lv) != nots (lv - 1)))) (qc_put nots (lv - 1) false) := by
  simp only [qs_PE]; rw [if_neg (by rw [h]; decide), if_neg (by rw [h]; decide), if_neg (by rw [h]; decide), if_neg (by rw [h]; decide), if_neg (by rw [h]; decide), if_pos h]
theorem qs_nn {o : Nat} (T : qw_AT q len o k) : q k ≠ 2 ∧ q k ≠ 3 ∧ q k ≠ 7 ∧ q k ≠ 6 ∧ q k ≠ 5 ∧ q k ≠ 4 := by
  rcases T.2.2.2.1 with ⟨z | z, _⟩ | z | ⟨z, _⟩ | z
  · rw [z]; decide
  · rw [z]; decide
  · rw [z]; decide
  · rw [z]; decide
  · refine ⟨?_, ?_, ?_, ?_, ?_, ?_⟩ <;> (intro y; rw [y] at z; exact absurd z (by decide))
theorem qs_PE_A {o : Nat} (T : qw_AT q len o k) : qs_PE q len i vl g x p m (f + 1) k lv ors ands nots = qs_PE q len i vl g x p m f (qs_AE q len k) lv ors (qc_put ands lv (ands lv && (qs_AV q len i vl g k x p m != nots lv))) (qc_put nots lv false) := by
  have nn := qs_nn T
  simp only [qs_PE]; rw [if_neg nn.1, if_neg nn.2.1, if_neg nn.2.2.1, if_neg nn.2.2.2.1, if_neg nn.2.2.2.2.1, if_neg nn.2.2.2.2.2]
end
section
variable {xlim : Int32} {xn : Int32} {xpc : Int32} {xlv : Int32} {xop : Int32} {xql : Int32} {xrc : Int32} {xrt : Int64} {xod : (Nat → Int32)} {xpo : (Nat → Int32)} {xnm : (Nat → Int32)} {xvl : (Nat → Int32)} {xmv : (Nat → Int32)} {xrk : (Nat → Int32)} {xpt : (Nat → Int32)} {xsz : (Nat → Int32)} {xpd : (Nat → Int32)} {xpa : (Nat → Int32)} {xct : (Nat → Int32)} {xqu : (Nat → Int32)} {xco : (Nat → Int32)} {xse : (Nat → Int32)} {xpe : (Nat → Int32)} {xgv : (Nat → Int64)} {xan : (Nat → Int64)} {xal : (Nat → Int64)} {xng : (Nat → Int32)} {xrs : (Nat → Int32)}
variable {n len : Nat} {i d : Nat → Nat} {dp : Nat → Int32}
theorem qs_xf20 {o : Nat} {list : Int64} {rv : Bool} {post : Int64 → SX → Prop} (H : qs_H n i d xod dp xpo xrk xpt xsz len xqu xco xse xpe) (ho : o < len) (h1 : xqu o = 1) (hls : ∀ y, qb list y = true → y < n) :
    ∀ f t nx K lv F an al ng O A Ng, t + f = qe_cl xqu len o → t ≤ K → (nx ≤ t → K = t) → (t < nx → K = nx) → nx ≤ 40 → qw_PO xqu len o K lv → qe_cl xqu len o - K < F → qs_RX list lv an al ng O A Ng →
    (∀ R an' al' ng', (∀ x, qb R x = (qb list x && qs_PE xqu len i xvl xgv x (qs_pos n rv (qb list) x) (qt_cn (qb list) n) F K lv (O x) (A x) Ng)) → post R (xlim, nI n, xpc, xlv, xop, nI len, xrc, xrt, xod, xpo, xnm, xvl, xmv, xrk, xpt, xsz, xpd, xpa, xct, xqu, xco, xse, xpe, xgv, an', al', ng', xrs)) →
    wX_filtered_20 post (nI o) list (qa_b rv) (f + 1) (nI lv) (nI nx) (nI t) xlim (nI n) xpc xlv xop (nI len) xrc xrt xod xpo xnm xvl xmv xrk xpt xsz xpd xpa xct xqu xco xse xpe xgv an al ng xrs := by
  have H0 := H
  obtain ⟨B, N, hl, G, hq, hco, hse⟩ := H
  obtain ⟨c1, c2, c3, c4, c5⟩ := qe_cl_spec G ho h1
  have io : vp_in (nI o) 40 := vp_in_nI (by omega) (by omega)
  have eo : xco (nI o).toNatClampNeg = nI (qe_cl xqu len o) := by rw [nI_clamp (by omega)]; exact hco o ho h1
  intro f
  induction f with
  | zero =>
    intro t nx K lv F an al ng O A Ng e hK k1 k2 hnx P hF R hp
    have hKc := P.2.1
    have eK : K = qe_cl xqu len o := by omega
    refine And.intro io ?_
    rw [eo]
    refine br_t (nI_le (by omega) (by omega)) (hp _ _ _ _ (fun x => ?_))
    obtain ⟨F', rfl⟩ : ∃ F', F = F' + 1 := ⟨F - 1, by omega⟩
    rcases qw_next G ho h1 P with ⟨a1, a2, a3⟩ | ⟨a1, a2⟩ | ⟨a1, a2, a3⟩ | ⟨a1, a2⟩ | ⟨a1, a2, a3⟩ | ⟨a1, a2, a3⟩
    · rw [qs_PE_2 a1, qb_or, ((R 0 (by omega)).2 x).1, ((R 0 (by omega)).2 x).2]
      cases qb list x <;> rfl
    · have := a2.2.1; omega
    · have := a3.2.1; omega
    · have := a2.2.1; omega
    · have := a3.2.1; omega
    · have := a3.2.1; omega
  | succ f ih =>
    intro t nx K lv F an al ng O A Ng e hK k1 k2 hnx P hF R hp
    have hKc := P.2.1
    refine And.intro io ?_
    rw [eo]
    refine br_f (nI_ge (by omega) (by omega)) ?_
    refine pk_le nx t (fun g => ?_) (fun g => ?_)
    · have eK := k1 g
      subst eK
      have et : (nI K).toNatClampNeg = K := nI_clamp (by omega)
      refine ⟨vp_in_nI (by omega) (by omega), nm_r (e' := xqu K) (by rw [et]) ?_⟩
      obtain ⟨F', rfl⟩ : ∃ F', F = F' + 1 := ⟨F - 1, by omega⟩
      have W := qe_W (k := K) G (by omega)
      have hlv : lv ≤ 4 := by
        have a : lv = (qc_tr xqu K).2.2.2.1 (qc_tr xqu K).2.1 := by rw [P.2.2.1]; exact P.2.2.2.1.symm
        have b := qc_sm_ge (qc_tr xqu K).2.2.2.1 (qc_tr xqu K).2.1 (by rw [P.2.2.1]; omega)
        have w4 : (qc_tr xqu K).2.2.1 ≤ 4 := W.2.2.2.1
        have w5 : (qc_tr xqu K).2.2.1 = qc_sm (qc_tr xqu K).2.2.2.1 (qc_tr xqu K).2.1 := W.2.2.2.2.1
        omega
      have il : vp_in (nI lv) 5 := vp_in_nI (by omega) (by omega)
      have el : (nI lv).toNatClampNeg = lv := nI_clamp (by omega)
      rcases qw_next G ho h1 P with ⟨a1, a2, a3⟩ | ⟨a1, a2⟩ | ⟨a1, a2, a3⟩ | ⟨a1, a2⟩ | ⟨a1, a2, a3⟩ | ⟨a1, a2, a3⟩
      · omega
      · rcases a1 with a1 | a1
        · refine br_f (by rw [a1]; decide) (br_f (by rw [a1]; decide) (br_f (by rw [a1]; decide) (br_f (by rw [a1]; decide) (br_t a1 (nm_r (nI_1 K) ?_)))))
          exact ih (K + 1) nx (K + 1) lv F' an al ng O A Ng (by omega) (by omega) (fun _ => rfl) (fun z => by omega) hnx a2 (by omega) R (fun R' an' al' ng' hR => hp R' an' al' ng' (fun x => (hR x).trans (by rw [qs_PE_5 a1])))
        · refine br_f (by rw [a1]; decide) (br_t a1 ⟨il, il, il, fun a ea => ⟨il, fun b eb => nm_r (nI_1 K) ?_⟩⟩)
          rw [el] at ea eb
          refine ih (K + 1) nx (K + 1) lv F' a b ng (fun x => qc_put (O x) lv (O x lv || A x lv)) (fun x => qc_put (A x) lv true) Ng (by omega) (by omega) (fun _ => rfl) (fun z => by omega) hnx a2 (by omega) (fun j hj => ?_) (fun R' an' al' ng' hR => hp R' an' al' ng' (fun x => (hR x).trans (by rw [qs_PE_6 a1])))
          obtain ⟨r1, r2⟩ := R j hj
          refine ⟨r1, fun x => ?_⟩
          rw [ea, eb]
          dsimp only
          by_cases e2 : j = lv
          · subst e2
            rw [pk_uLs, pk_uLs, qc_put_s, qc_put_s, qb_or, (r2 x).1, (r2 x).2, Bool.and_true]
            refine ⟨?_, rfl⟩
            cases qb list x <;> rfl
          · rw [pk_uLn e2, pk_uLn e2, qc_put_n e2, qc_put_n e2]; exact r2 x
      · refine br_f (by rw [a1]; decide) (br_f (by rw [a1]; decide) (br_f (by rw [a1]; decide) (br_t a1 (br_f (nI_nle (by omega) (by omega)) ⟨il, il, nm_e (nm_r (sb_m1 (p := lv) (by omega)) ?_)⟩))))
        rw [el]
        refine qs_xjo (V := fun x => O x lv || A x lv) (by omega) (by omega) R (fun x => ?_) (fun al' ng' R' => nm_r (nI_1 K) ?_)
        · rw [qb_or, ((R lv (Nat.le_refl _)).2 x).1, ((R lv (Nat.le_refl _)).2 x).2]
          cases qb list x <;> rfl
        · exact ih (K + 1) nx (K + 1) (lv - 1) F' an al' ng' O _ _ (by omega) (by omega) (fun _ => rfl) (fun z => by omega) hnx a3 (by omega) (qs_RX_mono (by omega) R') (fun R' an' al' ng' hR => hp R' an' al' ng' (fun x => (hR x).trans (by rw [qs_PE_4 a1])))
      · refine br_t a1 ⟨il, ?_⟩
        rw [el, (R lv (Nat.le_refl _)).1]
        refine qa_br (fun z => ⟨il, fun a ea => nm_r (nI_1 K) ?_⟩) (fun z => ⟨il, fun a ea => nm_r (nI_1 K) ?_⟩)
        · refine ih (K + 1) nx (K + 1) lv F' an al a O A (qc_put Ng lv (!Ng lv)) (by omega) (by omega) (fun _ => rfl) (fun z => by omega) hnx a2 (by omega) (fun j hj => ?_) (fun R' an' al' ng' hR => hp R' an' al' ng' (fun x => (hR x).trans (by rw [qs_PE_7 a1])))
          refine ⟨?_, (R j hj).2⟩
          rw [ea]
          by_cases e2 : j = lv
          · rw [e2, pk_us, qc_put_s, z]; rfl
          · rw [pk_un e2, qc_put_n e2]; exact (R j hj).1
        · refine ih (K + 1) nx (K + 1) lv F' an al a O A (qc_put Ng lv (!Ng lv)) (by omega) (by omega) (fun _ => rfl) (fun z => by omega) hnx a2 (by omega) (fun j hj => ?_) (fun R' an' al' ng' hR => hp R' an' al' ng' (fun x => (hR x).trans (by rw [qs_PE_7 a1])))
          refine ⟨?_, (R j hj).2⟩
          rw [ea]
          by_cases e2 : j = lv
          · rw [e2, pk_us, qc_put_s, z]; rfl
          · rw [pk_un e2, qc_put_n e2]; exact (R j hj).1
      · refine br_f (by rw [a1]; decide) (br_f (by rw [a1]; decide) (br_t a1 (br_f (nI_ge (b := 4) (by omega) (by omega)) (nm_r (nI_1 lv) ?_))))
        refine qs_xbg (O := O) (A := A) (Ng := Ng) (by omega) (fun j hj => R j (by omega)) (fun an' al' ng' R' => nm_r (nI_1 K) ?_)
        exact ih (K + 1) nx (K + 1) (lv + 1) F' an' al' ng' _ _ _ (by omega) (by omega) (fun _ => rfl) (fun z => by omega) hnx a3 (by omega) R' (fun R' an' al' ng' hR => hp R' an' al' ng' (fun x => (hR x).trans (by rw [qs_PE_3 a1])))
      · have nn := qs_nn a1
        refine br_f nn.2.2.1 (br_f nn.2.2.2.1 (br_f nn.2.1 (br_f nn.2.2.2.2.2 (br_f nn.2.2.2.2.1 ?_))))
        have aec := a3.2.1
        refine qs_xan H0 a1 hls (fun w hw => ?_)
        refine qs_xjo (V := fun x => qs_AV xqu len i xvl xgv K x (qs_pos n rv (qb list) x) (qt_cn (qb list) n)) (by omega) (Nat.le_refl _) R hw (fun al' ng' R' => ?_)
        refine qs_xae H0 a1 (nm_r (nI_1 K) ?_)
        exact ih (K + 1) (qs_AE xqu len K) (qs_AE xqu len K) lv F' an al' ng' O _ _ (by omega) (by omega) (fun z => by omega) (fun _ => rfl) (by omega) a3 (by omega) R' (fun R' an' al' ng' hR => hp R' an' al' ng' (fun x => (hR x).trans (by rw [qs_PE_A a1])))
    · have eK := k2 g
      refine nm_r (nI_1 t) (ih (t + 1) nx K lv F an al ng O A Ng (by omega) (by omega) (fun z => by omega) (fun _ => eK) hnx P hF R hp)
theorem qs_xfi {o : Nat} {list : Int64} {rv : Bool} {post : Int64 → SX → Prop} (H : qs_H n i d xod dp xpo xrk xpt xsz len xqu xco xse xpe) (ho : o < len) (h1 : xqu o = 1) (hls : ∀ y, qb list y = true → y < n)
    (h : ∀ R an al ng, (∀ x, qb R x = qs_FL xqu len i xvl xgv n rv o (qb list) x) → post R (xlim, nI n, xpc, xlv, xop, nI len, xrc, xrt, xod, xpo, xnm, xvl, xmv, xrk, xpt, xsz, xpd, xpa, xct, xqu, xco, xse, xpe, xgv, an, al, ng, xrs)) : wpX_filtered post (xlim, nI n, xpc, xlv, xop, nI len, xrc, xrt, xod, xpo, xnm, xvl, xmv, xrk, xpt, xsz, xpd, xpa, xct, xqu, xco, xse, xpe, xgv, xan, xal, xng, xrs) (nI o) list (qa_b rv) := by
  obtain ⟨B, N, hl, G, hq, hco, hse⟩ := id H
  obtain ⟨c1, c2, c3, c4, c5⟩ := qe_cl_spec G ho h1
  unfold wpX_filtered
  dsimp only
  refine qs_xbg (lv := 0) (O := fun _ _ => false) (A := fun _ _ => true) (Ng := fun _ => false) (by omega) (fun j hj => by omega) (fun an al ng R => ?_)
  refine nm_r (nI_1 o) (nm_r (nI_1 o) ?_)
  have e1 : ∀ (b : Bool), qc_put (fun _ : Nat => b) 0 b = (fun _ => b) := by intro b; funext j; unfold qc_put; split <;> rfl
  simp only [e1] at R
  refine Exists.intro (qe_cl xqu len o - (o + 1) + 1) ?_
  exact qs_xf20 H ho h1 hls _ (o + 1) (o + 1) (o + 1) 0 len an al ng _ _ _ (by omega) (Nat.le_refl _) (fun _ => rfl) (fun z => by omega) (by omega) (qw_start G ho h1) (by omega) R (fun R' an' al' ng' hR => h R' an' al' ng' hR)
theorem qs_xna {t c : Nat} {post : Int64 → Prop} (H : qs_H n i d xod dp xpo xrk xpt xsz len xqu xco xse xpe) (ht : t < len) (ha : qc_ax (xqu t) = true) (hc : c < n)
    (h : ∀ w, (∀ y, qb w y = qs_L0 n d i xnm xqu t c y) → post w) : wpX_namedOnAxis post (xlim, nI n, xpc, xlv, xop, nI len, xrc, xrt, xod, xpo, xnm, xvl, xmv, xrk, xpt, xsz, xpd, xpa, xct, xqu, xco, xse, xpe, xgv, xan, xal, xng, xrs) (nI t) (nI c) := by
  obtain ⟨B, N, hl, G, hq, hco, hse⟩ := H
  have hn := B.1.2
  obtain ⟨s1, s2⟩ := qs_a_spec ha
  obtain ⟨t1, t2, _⟩ := qe_se_spec G ht ha
  have key : ∀ f j w, j + f = n → (∀ y, qb w y = (decide (y < j) && qs_L0 n d i xnm xqu t c y)) → wX_namedOnAxis_26 post (nI c) (nI (qs_a (xqu t))) (xqu (t + 1)) xlim (nI n) xpc xlv xop (nI len) xrc xrt xod xpo xnm xvl xmv xrk xpt xsz xpd xpa xct xqu xco xse xpe xgv xan xal xng xrs (f + 1) w (nI j) := by
    intro f
    induction f with
    | zero =>
      intro j w e hw
      refine br_t (nI_le (by omega) (by omega)) (h w (fun y => ?_))
      rw [hw y]
      by_cases g : y < j
      · rw [decide_eq_true g, Bool.true_and]
      · rw [decide_eq_false g, Bool.false_and]
        unfold qs_L0
        rw [decide_eq_false (show ¬ y < n by omega), Bool.false_and]
    | succ f ih =>
      intro j w e hw
      have hij := B.2.1 j (by omega)
      have st : ∀ y, y ≠ j → decide (y < j) = decide (y < j + 1) := by intro y hy; rw [decide_eq_decide]; omega
      have skip : qs_L0 n d i xnm xqu t c j = false → wX_namedOnAxis_26 post (nI c) (nI (qs_a (xqu t))) (xqu (t + 1)) xlim (nI n) xpc xlv xop (nI len) xrc xrt xod xpo xnm xvl xmv xrk xpt xsz xpd xpa xct xqu xco xse xpe xgv xan xal xng xrs (f + 1) w (nI (j + 1)) := by
        intro z
        refine ih (j + 1) w (by omega) (fun y => ?_)
        rw [hw y]
        by_cases g : y = j
        · rw [g, z, Bool.and_false, Bool.and_false]
        · rw [st y g]
      have nmd : (xqu (t + 1) = 48 ∨ xqu (t + 1) - 40 = xnm (i j)) → wX_namedOnAxis_62 post (wX_namedOnAxis_26 post (nI c) (nI (qs_a (xqu t))) (xqu (t + 1)) xlim (nI n) xpc xlv xop (nI len) xrc xrt xod xpo xnm xvl xmv xrk xpt xsz xpd xpa xct xqu xco xse xpe xgv xan xal xng xrs (f + 1)) (nI c) (nI (qs_a (xqu t))) (xqu (t + 1)) w (nI j) xlim (nI n) xpc xlv xop (nI len) xrc xrt xod xpo xnm xvl xmv xrk xpt xsz xpd xpa xct xqu xco xse xpe xgv xan xal xng xrs := by
        intro hnm
        have e0 : qs_L0 n d i xnm xqu t c j = qs_ax n d (qs_a (xqu t)) c j := by
          unfold qs_L0
          rw [decide_eq_true (show j < n by omega), decide_eq_true hnm, Bool.true_and, Bool.true_and]
        refine br_f (by decide) (qs_xoa hn B.2.2.2.2.1 N s2 hc (by omega) (qa_br (fun z => ?_) (fun z => ?_)))
        · exact nm_r (nI_1 j) (skip (by rw [e0]; exact z))
        · refine nm_e (nm_r (nI_1 j) (ih (j + 1) _ (by omega) (fun y => ?_)))
          rw [qb_or, hw y, qb_shl _ (by omega)]
          by_cases g : y = j
          · rw [g, e0, z, decide_eq_true (show j = j from rfl), Bool.or_true, decide_eq_true (show j < j + 1 by omega)]; rfl
          · rw [st y g, decide_eq_false g, Bool.or_false]
      refine br_f (nI_ge (by omega) (by omega)) ?_
      by_cases g48 : xqu (t + 1) = 48
      · exact br_t g48 (nmd (Or.inl g48))
      · have e1 : xod (nI j).toNatClampNeg = nI (i j) := by rw [nI_clamp (by omega)]; exact hij.1
        refine br_f g48 ⟨vp_in_nI (by omega) (by omega), by rw [e1]; exact vp_in_nI hij.2 (by omega), ?_⟩
        rw [e1, nI_clamp (n := i j) (by omega)]
        refine br_c (fun g => nmd (Or.inr g)) (fun g => ?_)
        refine br_t rfl (nm_r (nI_1 j) (skip ?_))
        unfold qs_L0
        rw [decide_eq_false (show ¬ (xqu (t + 1) = 48 ∨ xqu (t + 1) - 40 = xnm (i j)) by rintro (z | z); exact g48 z; exact g z), Bool.false_and, Bool.and_false]
  refine And.intro (vp_in_nI (by omega) (by omega)) (nm_r (e' := nI (qs_a (xqu t))) (by rw [nI_clamp (by omega)]; exact s1) ⟨by rw [nI_1]; exact vp_in_nI (by omega) (by omega), nm_r (e' := xqu (t + 1)) (by rw [nI_1, nI_clamp (by omega)]) (Exists.intro _ (key n 0 0 (by omega) (fun y => ?_)))⟩)
  rw [qb_0, decide_eq_false (by omega), Bool.false_and]
theorem qs_xgf {t : Nat} {list : Int64} {post : Int64 → Prop} (hn : n ≤ 40) (ht : t < 40) (h : ∀ w, (∀ y, qb w y = qs_any (fun x => qb list x && qb (xgv (t * 40 + x)) y) n) → post w) : wpX_givenFromAny post (xlim, nI n, xpc, xlv, xop, nI len, xrc, xrt, xod, xpo, xnm, xvl, xmv, xrk, xpt, xsz, xpd, xpa, xct, xqu, xco, xse, xpe, xgv, xan, xal, xng, xrs) (nI t) list := by
  have key : ∀ f j w, j + f = n → (∀ y, qb w y = qs_any (fun x => qb list x && qb (xgv (t * 40 + x)) y) j) → wX_givenFromAny_6 post (nI t) list xlim (nI n) xpc xlv xop (nI len) xrc xrt xod xpo xnm xvl xmv xrk xpt xsz xpd xpa xct xqu xco xse xpe xgv xan xal xng xrs (f + 1) w (nI j) := by
    intro f
    induction f with
    | zero =>
      intro j w e hw
      have e : j = n := by omega
      subst e
      exact br_t (nI_le (by omega) (by omega)) (h w hw)
    | succ f ih =>
      intro j w e hw
      refine br_f (nI_ge (by omega) (by omega)) (qs_xhas (by omega) (qa_br (fun z => ?_) (fun z => ?_)))
      · refine nm_r (nI_1 j) (ih (j + 1) w (by omega) (fun y => ?_))
        simp only [qs_any]
        rw [hw y, z, Bool.false_and, Bool.or_false]
      · rw [qs_ix]
        refine ⟨vp_in_nI (by omega) (by omega), nm_e (nm_r (nI_1 j) ?_)⟩
        rw [nI_clamp (by omega)]
        refine ih (j + 1) _ (by omega) (fun y => ?_)
        simp only [qs_any]
        rw [qb_or, hw y, z, Bool.true_and]
  exact Exists.intro _ (key n 0 0 (by omega) (fun y => by rw [qb_0]; rfl))
theorem qs_xpf {t c : Nat} {post : Int64 → SX → Prop} (H : qs_H n i d xod dp xpo xrk xpt xsz len xqu xco xse xpe) (ht : t < len) (ha : qc_ax (xqu t) = true) (hc : c < n)
    (h : ∀ w an al ng, (∀ y, qb w y = qs_PT n d i xnm xvl xqu len xgv t c y) → post w (xlim, nI n, xpc, xlv, xop, nI len, xrc, xrt, xod, xpo, xnm, xvl, xmv, xrk, xpt, xsz, xpd, xpa, xct, xqu, xco, xse, xpe, xgv, an, al, ng, xrs)) : wpX_pathFrom post (xlim, nI n, xpc, xlv, xop, nI len, xrc, xrt, xod, xpo, xnm, xvl, xmv, xrk, xpt, xsz, xpd, xpa, xct, xqu, xco, xse, xpe, xgv, xan, xal, xng, xrs) (nI t) (nI c) := by
  obtain ⟨B, N, hl, G, hq, hco, hse⟩ := id H
  have hn := B.1.2
  obtain ⟨s1, s2⟩ := qs_a_spec ha
  obtain ⟨t1, t2, t3, t4, t5, t6⟩ := qe_se_spec G ht ha
  have tge := qe_se_ge xqu len t
  have key : ∀ f j K F list an al ng, j + f = qe_se xqu len t → j ≤ K → qe_so xqu len K = qe_se xqu len t → K ≤ len → len - K ≤ F → (∀ y, qb list y = true → y < n) →
      (∀ y, qs_FS xqu len i xvl xgv n (qs_rv (qs_a (xqu t))) F K (qb list) y = qs_SG n d i xnm xvl xqu len xgv t c y) →
      wX_pathFrom_40 post (qa_b (qs_rv (qs_a (xqu t)))) (nI (qe_se xqu len t)) (f + 1) list (nI K) (nI j) xlim (nI n) xpc xlv xop (nI len) xrc xrt xod xpo xnm xvl xmv xrk xpt xsz xpd xpa xct xqu xco xse xpe xgv an al ng xrs := by
    intro f
    induction f with
    | zero =>
      intro j K F list an al ng e hj hK hKl hF hls hS
      have hKe : K = qe_se xqu len t := by
        have := qe_so_ge xqu len _ K (Nat.le_refl _)
        omega
      have eS : ∀ y, qb list y = qs_SG n d i xnm xvl xqu len xgv t c y := by
        intro y
        rw [← hS y]
        cases F with
        | zero => rfl
        | succ F =>
          simp only [qs_FS]
          rw [if_neg (fun z => t6 (by omega) (by rw [← hKe]; exact z.2))]
      refine br_t (nI_le (by omega) (by omega)) ⟨vp_in_nI (by omega) (by omega), ?_⟩
      rw [nI_clamp (n := qe_se xqu len t) (by omega)]
      refine qc_xax (qa_br (fun z => ?_) (fun z => ?_))
      · refine h _ _ _ _ (fun y => ?_)
        unfold qs_PT
        rw [if_neg (by rw [z]; decide)]; exact eS y
      · have hlt : qe_se xqu len t < len := by
          refine Nat.lt_of_not_le (fun y => ?_)
          rw [hq _ y (by omega)] at z
          exact absurd z (by decide)
        refine qs_xgf hn (by omega) (fun w hw => h _ _ _ _ (fun y => ?_))
        unfold qs_PT
        rw [if_pos z, hw y]
        have e2 : (fun x => qb list x && qb (xgv (qe_se xqu len t * 40 + x)) y) = (fun x => qs_SG n d i xnm xvl xqu len xgv t c x && qb (xgv (qe_se xqu len t * 40 + x)) y) := funext (fun x => by rw [eS x])
        rw [e2]
    | succ f ih =>
      intro j K F list an al ng e hj hK hKl hF hls hS
      refine br_f (nI_ge (by omega) (by omega)) ?_
      refine pk_eq j K (fun g => ?_) (fun g => ?_)
      · subst g
        have hb : j < len ∧ xqu j = 1 := by
          refine Classical.byContradiction (fun z => ?_)
          rw [qe_so_eq, if_neg z] at hK
          omega
        have cs := qe_cl_spec G hb.1 hb.2
        have cg := qe_cl_ge xqu len j
        have hK' := hK
        rw [qe_so_eq, if_pos hb] at hK'
        refine qs_xfi H hb.1 hb.2 hls (fun R an' al' ng' hR => ⟨vp_in_nI (by omega) (by omega), ?_⟩)
        rw [nI_clamp (n := j) (by omega), hco j hb.1 hb.2]
        refine nm_r (nI_1 _) (nm_r (nI_1 j) ?_)
        obtain ⟨F', rfl⟩ : ∃ F', F = F' + 1 := ⟨F - 1, by omega⟩
        have cs2 := cs.2.1
        refine ih (j + 1) (qe_cl xqu len j + 1) F' R an' al' ng' (by omega) (by omega) hK' (by omega) (by omega) (fun y hy => ?_) (fun y => ?_)
        · rw [hR y] at hy
          unfold qs_FL at hy
          rw [Bool.and_eq_true] at hy
          exact hls y hy.1
        · rw [← hS y]
          simp only [qs_FS]
          rw [if_pos hb, show qb R = qs_FL xqu len i xvl xgv n (qs_rv (qs_a (xqu t))) j (qb list) from funext hR]
      · exact nm_r (nI_1 j) (ih (j + 1) K F list an al ng (by omega) (by omega) hK hKl hF hls hS)
  refine And.intro (vp_in_nI (by omega) (by omega)) ?_
  rw [nI_clamp (n := t) (by omega), s1]
  refine qs_xrv s2 ⟨vp_in_nI (by omega) (by omega), nm_r (e' := nI (qe_se xqu len t)) (hse t ht ha).1 ?_⟩
  refine qs_xna H ht ha hc (fun w hw => nm_r (nI_add t 2) (nm_r (nI_add t 2) (Exists.intro (qe_se xqu len t - (t + 2) + 1) ?_)))
  refine key _ (t + 2) (t + 2) len w _ _ _ (by omega) (Nat.le_refl _) rfl (by omega) (by omega) (fun y hy => ?_) (fun y => ?_)
  · rw [hw y] at hy
    unfold qs_L0 at hy
    rw [Bool.and_eq_true] at hy
    exact of_decide_eq_true hy.1
  · rw [show qb w = qs_L0 n d i xnm xqu t c from funext hw]; rfl
end
end
section
/-! X: all paths, and the result -/
def qs_K (od vl : Nat → Int32) (w : Int64) (rs : Nat → Int32) : Nat → Nat × Int64 × (Nat → Int32)
  | 0 => (0, 0, rs)
  | k + 1 => if qb w k then ((qs_K od vl w rs k).1 + 1, (qs_K od vl w rs k).2.1 + ((vl (od k).toNatClampNeg).toInt64), upd (qs_K od vl w rs k).2.2 (qs_K od vl w rs k).1 (od k)) else qs_K od vl w rs k
theorem qs_K_le (od vl : Nat → Int32) (w : Int64) (rs : Nat → Int32) : ∀ k, (qs_K od vl w rs k).1 ≤ k := by
  intro k
  induction k with
  | zero => exact Nat.le_refl _
  | succ k ih =>
    simp only [qs_K]
    split
    · show (qs_K od vl w rs k).1 + 1 ≤ k + 1; omega
    · omega
section
variable {xlim : Int32} {xn : Int32} {xpc : Int32} {xlv : Int32} {xop : Int32} {xql : Int32} {xrc : Int32} {xrt : Int64} {xod : (Nat → Int32)} {xpo : (Nat → Int32)} {xnm : (Nat → Int32)} {xvl : (Nat → Int32)} {xmv : (Nat → Int32)} {xrk : (Nat → Int32)} {xpt : (Nat → Int32)} {xsz : (Nat → Int32)} {xpd : (Nat → Int32)} {xpa : (Nat → Int32)} {xct : (Nat → Int32)} {xqu : (Nat → Int32)} {xco : (Nat → Int32)} {xse : (Nat → Int32)} {xpe : (Nat → Int32)} {xgv : (Nat → Int64)} {xan : (Nat → Int64)} {xal : (Nat → Int64)} {xng : (Nat → Int32)} {xrs : (Nat → Int32)}
variable {n len : Nat} {i d : Nat → Nat} {dp : Nat → Int32}
theorem qs_xkr {w : Int64} {post : SX → Prop} (hn : n ≤ 40) (hi : ∀ r, r < n → xod r = nI (i r) ∧ i r < 40)
    (h : post (xlim, nI n, xpc, xlv, xop, xql, nI (qs_K xod xvl w xrs n).1, (qs_K xod xvl w xrs n).2.1, xod, xpo, xnm, xvl, xmv, xrk, xpt, xsz, xpd, xpa, xct, xqu, xco, xse, xpe, xgv, xan, xal, xng, (qs_K xod xvl w xrs n).2.2)) : wpX_keepResult post (xlim, nI n, xpc, xlv, xop, xql, xrc, xrt, xod, xpo, xnm, xvl, xmv, xrk, xpt, xsz, xpd, xpa, xct, xqu, xco, xse, xpe, xgv, xan, xal, xng, xrs) w := by
  have key : ∀ f j, j + f = n → wX_keepResult_12 post w xlim (nI n) xpc xlv xop xql (f + 1) (nI j) (nI (qs_K xod xvl w xrs j).1) ((qs_K xod xvl w xrs j).2.1) xod xpo xnm xvl xmv xrk xpt xsz xpd xpa xct xqu xco xse xpe xgv xan xal xng ((qs_K xod xvl w xrs j).2.2) := by
    intro f
    induction f with
    | zero =>
      intro j e
      have e : j = n := by omega
      subst e
      exact br_t (nI_le (by omega) (by omega)) h
    | succ f ih =>
      intro j e
      have c := ih (j + 1) (by omega)
      have hle := qs_K_le xod xvl w xrs j
      have hij := hi j (by omega)
      have ej : (nI j).toNatClampNeg = j := nI_clamp (by omega)
      simp only [qs_K] at c
      refine br_f (nI_ge (by omega) (by omega)) (qs_xhas (by omega) (qa_br (fun z => ?_) (fun z => ?_)))
      · rw [z] at c
        exact nm_r (nI_1 j) c
      · rw [z, if_pos rfl] at c
        refine ⟨vp_in_nI (by omega) (by omega), vp_in_nI (by omega) (by omega), fun a ea => nm_r (nI_1 _) ⟨vp_in_nI (by omega) (by omega), by rw [ej, hij.1]; exact vp_in_nI hij.2 (by omega), fun b eb => nm_r (nI_1 j) ?_⟩⟩
        rw [ej, nI_clamp (by omega)] at ea
        rw [ej] at eb
        subst ea; subst eb
        exact c
  exact Exists.intro _ (key n 0 (by omega))
theorem qs_xrow {t : Nat} {x1 : Int32} {post : Int32 → SX → Prop} {J : Int32 → Int32 → Int32 → Int32 → Int32 → Int32 → Int32 → Int32 → Int64 → (Nat → Int32) → (Nat → Int32) → (Nat → Int32) → (Nat → Int32) → (Nat → Int32) → (Nat → Int32) → (Nat → Int32) → (Nat → Int32) → (Nat → Int32) → (Nat → Int32) → (Nat → Int32) → (Nat → Int32) → (Nat → Int32) → (Nat → Int32) → (Nat → Int32) → (Nat → Int64) → (Nat → Int64) → (Nat → Int64) → (Nat → Int32) → (Nat → Int32) → Prop} (H : qs_H n i d xod dp xpo xrk xpt xsz len xqu xco xse xpe) (ht : t < len) (ha : qc_ax (xqu t) = true) :
    ∀ f c gv an al ng, c + f = n → qs_LC n d i xnm xvl xqu len gv (t + 1) → (∀ c', c' < c → ∀ y, qb (gv (t * 40 + c')) y = qs_PT n d i xnm xvl xqu len gv t c' y) →
    (∀ gv an al ng, qs_LC n d i xnm xvl xqu len gv t → J (nI t - 1) xlim (nI n) xpc xlv xop (nI len) xrc xrt xod xpo xnm xvl xmv xrk xpt xsz xpd xpa xct xqu xco xse xpe gv an al ng xrs) →
    wX_select_43 post J x1 (nI t) (f + 1) (nI c) xlim (nI n) xpc xlv xop (nI len) xrc xrt xod xpo xnm xvl xmv xrk xpt xsz xpd xpa xct xqu xco xse xpe gv an al ng xrs := by
  have hn := H.1.1.2
  have hl := H.2.2.1
  have G := H.2.2.2.1
  intro f
  induction f with
  | zero =>
    intro c gv an al ng e LC hr h
    have e : c = n := by omega
    subst e
    refine br_t (nI_le (by omega) (by omega)) (nm_r (qe_m1 t) (h gv an al ng (fun t' h1 h2 h3 c' hc' y => ?_)))
    by_cases g : t' = t
    · rw [g]; exact hr c' hc' y
    · exact LC t' (by omega) h2 h3 c' hc' y
  | succ f ih =>
    intro c gv an al ng e LC hr h
    refine br_f (nI_ge (by omega) (by omega)) (qs_xpf H ht ha (by omega) (fun w an' al' ng' hw => ?_))
    rw [qs_ix]
    refine ⟨vp_in_nI (by omega) (by omega), fun a ea => nm_r (nI_1 c) ?_⟩
    rw [nI_clamp (by omega)] at ea
    have same : ∀ j, (t + 1) * 40 ≤ j → a j = gv j := fun j hj => by rw [ea, pk_uLn (by omega)]
    refine ih (c + 1) a an' al' ng' (by omega) (fun t' h1 h2 h3 c' hc' y => ?_) (fun c' hc' y => ?_) h
    · rw [same _ (by omega), LC t' h1 h2 h3 c' hc' y]
      exact (qs_PT_c G (fun j hj => same j (by omega))).symm
    · rw [qs_PT_c G same]
      by_cases g : c' = c
      · rw [g, ea, pk_uLs]; exact hw y
      · rw [ea, pk_uLn (by omega)]; exact hr c' (by omega) y
theorem qs_xsl {r : Nat} {post : Int32 → SX → Prop} (H : qs_H n i d xod dp xpo xrk xpt xsz len xqu xco xse xpe) (hr : r < n) (h0 : 0 < len)
    (h : ∀ gv an al ng, qs_LC n d i xnm xvl xqu len gv 0 → post (nI (qs_K xod xvl (gv r) xrs n).1) (xlim, nI n, xpc, xlv, xop, nI len, nI (qs_K xod xvl (gv r) xrs n).1, (qs_K xod xvl (gv r) xrs n).2.1, xod, xpo, xnm, xvl, xmv, xrk, xpt, xsz, xpd, xpa, xct, xqu, xco, xse, xpe, gv, an, al, ng, (qs_K xod xvl (gv r) xrs n).2.2)) :
    wpX_select post (xlim, nI n, xpc, xlv, xop, nI len, xrc, xrt, xod, xpo, xnm, xvl, xmv, xrk, xpt, xsz, xpd, xpa, xct, xqu, xco, xse, xpe, xgv, xan, xal, xng, xrs) (nI (i r)) := by
  obtain ⟨B, N, hl, G, hq, hco, hse⟩ := id H
  have hn := B.1.2
  have hir := (B.2.1 r hr).2
  have key : ∀ k gv an al ng, k ≤ len → qs_LC n d i xnm xvl xqu len gv k → wX_select_24 post (nI (i r)) (k + 1) (nI k - 1) xlim (nI n) xpc xlv xop (nI len) xrc xrt xod xpo xnm xvl xmv xrk xpt xsz xpd xpa xct xqu xco xse xpe gv an al ng xrs := by
    intro k
    induction k with
    | zero =>
      intro gv an al ng _ LC
      have e1 : xrk (nI (i r)).toNatClampNeg = nI r := by rw [nI_clamp (by omega)]; exact N.1 r hr
      refine br_t (by decide) ⟨vp_in_nI hir (by omega), by rw [e1]; exact vp_in_nI (by omega) (by omega), ?_⟩
      rw [e1, nI_clamp (n := r) (by omega)]
      exact qs_xkr hn B.2.1 (h gv an al ng LC)
    | succ k ih =>
      intro gv an al ng hk LC
      rw [nI_pred]
      refine br_f (nI_pos (by omega)) ⟨vp_in_nI (by omega) (by omega), ?_⟩
      rw [nI_clamp (n := k) (by omega)]
      refine qc_xax (qa_br (fun z => ?_) (fun z => ?_))
      · refine nm_r (qe_m1 k) (ih gv an al ng (by omega) (fun t' h1 h2 h3 => ?_))
        by_cases g : t' = k
        · rw [g, z] at h3; exact absurd h3 (by decide)
        · exact LC t' (by omega) h2 h3
      · exact Exists.intro (n + 1) (qs_xrow H (by omega) z n 0 gv an al ng (by omega) LC (fun c' hc' => by omega) (fun gv' an' al' ng' LC' => ih gv' an' al' ng' (by omega) LC'))
  unfold wpX_select
  dsimp only
  refine qr_hX B N hr (br_f (by decide) (br_f (nI_ne0 h0 (by omega)) (nm_e (Exists.intro (len + 1) ?_))))
  exact key len xgv xan xal xng (Nat.le_refl _) (fun t' h1 h2 => by omega)
end
end
section
/-! Y: ends, atoms, predicates -/
def qs_HY (n : Nat) (i d : Nat → Nat) (od dp po : Nat → Int32) (len : Nat) (q qy : Nat → Int32) : Prop :=
  qr_B n i d od dp po ∧ len ≤ 40 ∧ qe_G q len ∧ (∀ x, len ≤ x → x < 41 → q x = 0) ∧ (∀ t, t < len → qy t = q t)
/-- the table of Y is right for the paths that begin at level L or deeper -/
def qs_YG (q : Nat → Int32) (len n : Nat) (g gv : Nat → Int64) (L : Nat) : Prop := ∀ t, t < len → qc_ax (q t) = true → ((qc_tr q t).1 = 1 ∨ (qc_tr q t).1 = 4) → L ≤ (qc_tr q t).2.1 → ∀ c, c < n → gv (t * 40 + c) = g (t * 40 + c)
def qs_RY (lv : Nat) (yor yan yno : Nat → Int32) (O A Ng : Nat → Bool) : Prop := ∀ j, j ≤ lv → yor j = qa_b (O j) ∧ yan j = qa_b (A j) ∧ yno j = qa_b (Ng j)
theorem qs_nor (a b : Bool) : vp_nar .boolean (qa_b a ||| qa_b b) = qa_b (a || b) := by cases a <;> cases b <;> rfl
theorem qs_or (a b : Bool) : qa_b a ||| qa_b b = qa_b (a || b) := by cases a <;> cases b <;> rfl
theorem qs_nand (a b : Bool) : vp_nar .boolean (qa_b a &&& qa_b b) = qa_b (a && b) := by cases a <;> cases b <;> rfl
theorem qs_beq {a b : Bool} : qa_b a = qa_b b ↔ a = b := by cases a <;> cases b <;> decide
section
variable {ymo : Int32} {yn : Int32} {yw : Int32} {yle : Int32} {yfo : Int32} {yli : Int32} {yat : Int32} {ysu : Int64} {yid : (Nat → Int32)} {ydp : (Nat → Int32)} {ynm : (Nat → Int32)} {yvl : (Nat → Int32)} {yci : (Nat → Int32)} {ycd : (Nat → Int32)} {ypd : (Nat → Int32)} {yqu : (Nat → Int32)} {ygv : (Nat → Int64)} {yls : (Nat → Int32)} {yrs : (Nat → Int32)} {yor : (Nat → Int32)} {yan : (Nat → Int32)} {yno : (Nat → Int32)} {yow : (Nat → Int32)} {ypa : (Nat → Int32)}
variable {n len : Nat} {i d : Nat → Nat} {po q : Nat → Int32} {g : Nat → Int64}
theorem qs_ycl {t : Nat} {post : Int32 → Prop} (H : qs_HY n i d yid ydp po len q yqu) (ht : t < len) (h1 : q t = 1) (h : post (nI (qe_cl q len t + 1))) : wpY_closed post (ymo, nI n, yw, nI len, yfo, yli, yat, ysu, yid, ydp, ynm, yvl, yci, ycd, ypd, yqu, ygv, yls, yrs, yor, yan, yno, yow, ypa) (nI t) := by
  obtain ⟨B, hl, G, hq, hy⟩ := H
  have key : ∀ f e k, k + f + 1 = len → 1 ≤ e → e ≤ k + 1 → qe_C q (f + 1) e k < len → post (nI (qe_C q (f + 1) e k + 1)) → wY_closed_4 post ymo (nI n) yw (nI len) yfo yli yat ysu yid ydp ynm yvl yci ycd ypd yqu ygv yls yrs yor yan yno yow ypa (f + 1) (nI e) (nI k) := by
    intro f
    induction f with
    | zero =>
      intro e k hk he he2 hlt hp
      have ik : vp_in (nI k) 40 := vp_in_nI (by omega) (by omega)
      have ek : yqu (nI k).toNatClampNeg = q k := by rw [nI_clamp (by omega)]; exact hy k (by omega)
      simp only [qe_C] at hlt hp
      refine And.intro ik ?_
      rw [ek]
      by_cases g1 : q k = 1
      · rw [if_pos g1] at hlt; omega
      · rw [if_neg g1] at hlt hp
        by_cases g2 : q k = 2
        · rw [if_pos g2] at hlt hp
          by_cases g3 : e = 1
          · rw [if_pos g3] at hp
            refine br_f g1 ⟨ik, ?_⟩
            rw [ek]
            exact br_t g2 (nm_r (sb_m1 (p := e) he) (nm_r (nI_1 k) (br_t (by rw [g3]; decide) hp)))
          · rw [if_neg g3] at hlt; omega
        · rw [if_neg g2] at hlt; omega
    | succ f ih =>
      intro e k hk he he2 hlt hp
      have ik : vp_in (nI k) 40 := vp_in_nI (by omega) (by omega)
      have ek : yqu (nI k).toNatClampNeg = q k := by rw [nI_clamp (by omega)]; exact hy k (by omega)
      rw [qe_C] at hlt hp
      refine And.intro ik ?_
      rw [ek]
      by_cases g1 : q k = 1
      · rw [if_pos g1] at hlt hp
        refine br_t g1 (nm_r (nI_1 e) ⟨ik, ?_⟩)
        rw [ek]
        exact br_f (by rw [g1]; decide) (nm_r (nI_1 k) (br_f (nI_nle (by omega) (by omega)) (br_t (nI_lt (by omega) (by omega)) (ih (e + 1) (k + 1) (by omega) (by omega) (by omega) hlt hp))))
      · rw [if_neg g1] at hlt hp
        refine br_f g1 ⟨ik, ?_⟩
        rw [ek]
        by_cases g2 : q k = 2
        · rw [if_pos g2] at hlt hp
          refine br_t g2 (nm_r (sb_m1 (p := e) he) (nm_r (nI_1 k) ?_))
          by_cases g3 : e = 1
          · rw [if_pos g3] at hp
            exact br_t (by rw [g3]; decide) hp
          · rw [if_neg g3] at hlt hp
            exact br_f (nI_nle (by omega) (by omega)) (br_t (nI_lt (by omega) (by omega)) (ih (e - 1) (k + 1) (by omega) (by omega) (by omega) hlt hp))
        · rw [if_neg g2] at hlt hp
          exact br_f g2 (nm_r (nI_1 k) (br_f (nI_nle (by omega) (by omega)) (br_t (nI_lt (by omega) (by omega)) (ih e (k + 1) (by omega) (by omega) (by omega) hlt hp))))
  have cs := qe_cl_spec G ht h1
  have c1 := cs.1
  have c2 := cs.2.1
  have et : yqu (nI t).toNatClampNeg = q t := by rw [nI_clamp (by omega)]; exact hy t ht
  obtain ⟨m, hm⟩ : ∃ m, len - (t + 1) = m + 1 := ⟨len - (t + 1) - 1, by omega⟩
  have it : vp_in (nI t) 40 := vp_in_nI (by omega) (by omega)
  unfold qe_cl at h c2
  rw [hm] at h c2
  refine Exists.intro (m + 1 + 1) (And.intro it ?_)
  rw [et]
  refine br_t h1 (nm_r (show (0 : Int32) + 1 = nI 1 by decide) ⟨it, ?_⟩)
  rw [et]
  exact br_f (by rw [h1]; decide) (nm_r (nI_1 t) (br_f (by decide) (br_t (nI_lt (by omega) (by omega)) (key m 1 (t + 1) (by omega) (by omega) (by omega) c2 h))))
theorem qs_yse {t : Nat} {post : Int32 → Prop} (H : qs_HY n i d yid ydp po len q yqu) (ht : t < len) (ha : qc_ax (q t) = true) (h : post (nI (qe_se q len t))) : wpY_stepEnd post (ymo, nI n, yw, nI len, yfo, yli, yat, ysu, yid, ydp, ynm, yvl, yci, ycd, ypd, yqu, ygv, yls, yrs, yor, yan, yno, yow, ypa) (nI t) := by
  obtain ⟨B, hl, G, hq, hy⟩ := id H
  obtain ⟨t1, t2, t3, t4, t5, t6⟩ := qe_se_spec G ht ha
  have key : ∀ f k, len - k ≤ f → k ≤ len → post (nI (qe_so q len k)) → wY_stepEnd_4 post ymo (nI n) yw (nI len) yfo yli yat ysu yid ydp ynm yvl yci ycd ypd yqu ygv yls yrs yor yan yno yow ypa (f + 1) (nI k) := by
    intro f
    induction f with
    | zero =>
      intro k hk hk2 hp
      rw [qe_so_eq, if_neg (by omega)] at hp
      exact br_t (nI_le (by omega) (by omega)) hp
    | succ f ih =>
      intro k hk hk2 hp
      rw [qe_so_eq] at hp
      refine pk_le len k (fun z => ?_) (fun z => ⟨vp_in_nI (by omega) (by omega), ?_⟩)
      · rw [if_neg (by omega)] at hp; exact hp
      · rw [nI_clamp (n := k) (by omega), hy k z]
        by_cases g1 : q k = 1
        · rw [if_pos ⟨z, g1⟩] at hp
          have c := qe_cl_spec G z g1
          have c1 := c.1
          have c2 := c.2.1
          exact br_t g1 (qs_ycl H z g1 (ih (qe_cl q len k + 1) (by omega) (by omega) hp))
        · rw [if_neg (fun y => g1 y.2)] at hp
          exact br_f g1 hp
  exact nm_r (nI_add t 2) (Exists.intro _ (key (len - (t + 2)) (t + 2) (Nat.le_refl _) (by omega) h))
theorem qs_ype {t : Nat} {post : Int32 → Prop} (H : qs_HY n i d yid ydp po len q yqu) (ht : t ≤ len) (h : post (nI (qe_pe q len t))) : wpY_pathEnd post (ymo, nI n, yw, nI len, yfo, yli, yat, ysu, yid, ydp, ynm, yvl, yci, ycd, ypd, yqu, ygv, yls, yrs, yor, yan, yno, yow, ypa) (nI t) := by
  obtain ⟨B, hl, G, hq, hy⟩ := id H
  have key : ∀ f k, len - k ≤ f → k ≤ len → post (nI (qe_pe q len k)) → wY_pathEnd_2 post ymo (nI n) yw (nI len) yfo yli yat ysu yid ydp ynm yvl yci ycd ypd yqu ygv yls yrs yor yan yno yow ypa (f + 1) (nI k) := by
    intro f
    induction f with
    | zero =>
      intro k hk hk2 hp
      rw [qe_pe_eq, if_neg (by omega)] at hp
      exact br_t (nI_le (by omega) (by omega)) hp
    | succ f ih =>
      intro k hk hk2 hp
      rw [qe_pe_eq] at hp
      refine pk_le len k (fun z => ?_) (fun z => ⟨vp_in_nI (by omega) (by omega), ?_⟩)
      · rw [if_neg (by omega)] at hp; exact hp
      · rw [nI_clamp (n := k) (by omega), hy k z]
        refine qc_yax (qa_br (fun ga => ?_) (fun ga => ?_))
        · rw [if_neg (fun y => by rw [ga] at y; exact absurd y.2 (by decide))] at hp; exact hp
        · rw [if_pos ⟨z, ga⟩] at hp
          obtain ⟨t1, t2, t3, t4, t5, t6⟩ := qe_se_spec G z ga
          have b := qe_se_ge q len k
          exact qs_yse H z ga (ih (qe_se q len k) (by omega) t4 hp)
  exact Exists.intro _ (key (len - t) t (Nat.le_refl _) ht h)
theorem qs_ycm {t : Nat} {v : Int32} {post : Int32 → Prop} (H : qs_HY n i d yid ydp po len q yqu) (ht : t + 1 < len) (h : post (qa_b (qs_cmp q t v))) : wpY_compares post (ymo, nI n, yw, nI len, yfo, yli, yat, ysu, yid, ydp, ynm, yvl, yci, ycd, ypd, yqu, ygv, yls, yrs, yor, yan, yno, yow, ypa) (nI t) v := by
  obtain ⟨B, hl, G, hq, hy⟩ := H
  have it : vp_in (nI t) 40 := vp_in_nI (by omega) (by omega)
  have et : yqu (nI t).toNatClampNeg = q t := by rw [nI_clamp (by omega)]; exact hy t (by omega)
  refine And.intro (by rw [nI_1]; exact vp_in_nI (by omega) (by omega)) (nm_r (e' := q (t + 1) - 2000) (by rw [nI_1, nI_clamp (by omega), hy (t + 1) ht]) ⟨it, ?_⟩)
  rw [et]
  unfold qs_cmp at h
  by_cases g : q t = 12
  · rw [if_pos g] at h
    refine br_t g (qs_pif' ?_ h)
    exact ⟨fun z => decide_eq_false (fun y => y z), fun z => Classical.byContradiction (fun y => absurd y (of_decide_eq_false z))⟩
  · rw [if_neg g] at h
    refine br_f g ⟨it, ?_⟩
    by_cases g2 : q t = 13
    · rw [if_pos g2] at h
      refine br_t g2 (qs_pif ?_ h)
      exact ⟨fun z => decide_eq_true z, fun z => of_decide_eq_true z⟩
    · rw [if_neg g2] at h
      refine br_f g2 (qs_pif' ?_ h)
      exact ⟨fun z => decide_eq_false (fun y => y z), fun z => Classical.byContradiction (fun y => absurd y (of_decide_eq_false z))⟩
theorem qs_yop {o k x p m : Nat} {post : Int32 → SY → Prop} (H : qs_HY n i d yid ydp po len q yqu) (T : qw_AT q len o k) (hx : x < n) (hp : p < 2 ^ 31) (hm : m < 2 ^ 31)
    (Y : qs_YG q len n g ygv ((qc_tr q o).2.1 + 1)) (hg : ∀ t, t < len → qc_ax (q t) = true → ∀ c, c < n → ∀ y, qb (g (t * 40 + c)) y = true → y < n)
    (h : post (qa_b (qs_AV q len i yvl g k x p m)) (ymo, nI n, yw, nI len, yfo, yli, nI (qs_AE q len k), ysu, yid, ydp, ynm, yvl, yci, ycd, ypd, yqu, ygv, yls, yrs, yor, yan, yno, yow, ypa)) : wpY_operand post (ymo, nI n, yw, nI len, yfo, yli, yat, ysu, yid, ydp, ynm, yvl, yci, ycd, ypd, yqu, ygv, yls, yrs, yor, yan, yno, yow, ypa) (nI k) (nI x) (nI p) (nI m) := by
  obtain ⟨B, hl, G, hq, hy⟩ := id H
  obtain ⟨t1, t2, t3, t4, t5⟩ := T
  have hn := B.1.2
  refine And.intro (vp_in_nI (by omega) (by omega)) (nm_r (e' := q k) (by rw [nI_clamp (by omega)]; exact hy k t1) ?_)
  unfold qs_AV qs_AE at h
  rcases t4 with ⟨z | z, zl⟩ | z | ⟨z, z1, z2, z3, z4, z5⟩ | z
  · rw [if_pos z, if_pos z] at h
    refine br_f (by rw [z]; decide) (br_f (by rw [z]; decide) (br_t z (nm_r (nI_add k 3) ?_)))
    rw [nI_1]
    exact qs_ycm H (by omega) ⟨qa_bn _, h⟩
  · rw [if_neg (by rw [z]; decide), if_neg (by rw [z]; decide), if_pos z, if_neg (by rw [z]; decide), if_neg (by rw [z]; decide), if_pos z] at h
    have hix := B.2.1 x hx
    refine br_f (by rw [z]; decide) (br_f (by rw [z]; decide) (br_f (by rw [z]; decide) (br_f (by rw [z]; decide) (br_t z (nm_r (nI_add k 3) ⟨vp_in_nI (by omega) (by omega), ?_⟩)))))
    rw [nI_clamp (n := x) (by omega), hix.1]
    refine ⟨vp_in_nI hix.2 (by omega), ?_⟩
    rw [nI_1, nI_clamp (n := i x) (by omega)]
    exact qs_ycm H (by omega) ⟨qa_bn _, h⟩
  · rw [if_neg (by rw [z]; decide), if_pos z, if_neg (by rw [z]; decide), if_pos z] at h
    refine br_f (by rw [z]; decide) (br_f (by rw [z]; decide) (br_f (by rw [z]; decide) (br_t z (nm_r (nI_1 k) ?_))))
    refine qs_pif (post := fun r => post r _) ?_ h
    rw [nI_eq hp hm]
    exact ⟨fun y => decide_eq_true y, fun y => of_decide_eq_true y⟩
  · rw [if_neg (by rw [z]; decide), if_neg (by rw [z]; decide), if_neg (by rw [z]; decide), if_pos z, if_neg (by rw [z]; decide), if_neg (by rw [z]; decide), if_neg (by rw [z]; decide), if_pos z] at h
    refine br_f (by rw [z]; decide) (br_f (by rw [z]; decide) (br_f (by rw [z]; decide) (br_f (by rw [z]; decide) (br_f (by rw [z]; decide) (br_t z ?_)))))
    rw [nI_1]
    refine qs_ype H (by omega) (nm_r (nI_add _ 2) ?_)
    rw [qs_ix]
    refine ⟨vp_in_nI (by omega) (by omega), ?_⟩
    rw [nI_clamp (by omega), Y (k + 1) z1 z2 (Or.inl z3) (by omega) x hx]
    refine qs_ysz (fun y hy2 => ?_) (qs_ycm H (by omega) ⟨qa_bn _, h⟩)
    rw [← Bool.not_eq_true]
    intro w
    have := hg (k + 1) z1 z2 x hx y w
    omega
  · obtain ⟨y1, y2, y3, y4, y5, y6⟩ := qs_tok z
    rw [if_neg y3, if_neg y4, if_neg y5, if_neg y6, if_neg y3, if_neg y4, if_neg y5, if_neg y6] at h
    refine br_f y1 (br_t y2 (qs_ype H (by omega) ?_))
    rw [qs_ix]
    refine ⟨vp_in_nI (by omega) (by omega), ?_⟩
    rw [nI_clamp (by omega), Y k t1 z (Or.inr t2) (by omega) x hx]
    refine qs_pif' (post := fun r => post r _) ?_ h
    exact ⟨fun y => decide_eq_false (fun w => w y), fun y => Classical.byContradiction (fun w => absurd w (of_decide_eq_false y))⟩
theorem qs_yjo {x2 x3 x4 : Int32} {lv j k : Nat} {v : Bool} {O A Ng : Nat → Bool} {post : Int32 → SY → Prop} {J : Int32 → Int32 → Int32 → Int32 → Int32 → Int32 → Int32 → Int32 → Int32 → Int64 → (Nat → Int32) → (Nat → Int32) → (Nat → Int32) → (Nat → Int32) → (Nat → Int32) → (Nat → Int32) → (Nat → Int32) → (Nat → Int32) → (Nat → Int64) → (Nat → Int32) → (Nat → Int32) → (Nat → Int32) → (Nat → Int32) → (Nat → Int32) → (Nat → Int32) → (Nat → Int32) → Prop} (hlv : lv < 8) (hj : j ≤ lv) (R : qs_RY lv yor yan yno O A Ng)
    (h : ∀ an no, qs_RY lv yor an no O (qc_put A j (A j && (v != Ng j))) (qc_put Ng j false) → J (nI j) (nI k) ymo yn yw yle yfo yli yat ysu yid ydp ynm yvl yci ycd ypd yqu ygv yls yrs yor an no yow ypa) : wY_predicate_242 post J x2 x3 x4 (nI j) (nI k) 1 (qa_b v) ymo yn yw yle yfo yli yat ysu yid ydp ynm yvl yci ycd ypd yqu ygv yls yrs yor yan yno yow ypa := by
  have il : vp_in (nI j) 8 := vp_in_nI (by omega) (by omega)
  have ej : (nI j).toNatClampNeg = j := nI_clamp (by omega)
  have fin : ∀ b : Bool, b = (v != Ng j) → wY_predicate_272 post J x2 x3 x4 (nI j) (nI k) (qa_b b) (yan j) (nI j) ymo yn yw yle yfo yli yat ysu yid ydp ynm yvl yci ycd ypd yqu ygv yls yrs yor yan yno yow ypa := by
    intro b hb
    refine And.intro il (fun a ea => ⟨il, fun c ec => h a c (fun l hl => ?_)⟩)
    rw [ej] at ea ec
    rw [ea, ec]
    obtain ⟨r1, r2, r3⟩ := R l hl
    refine ⟨r1, ?_⟩
    by_cases e : l = j
    · subst e
      rw [pk_us, pk_us, qc_put_s, qc_put_s, r2, qs_nand, hb]
      exact ⟨rfl, rfl⟩
    · rw [pk_un e, pk_un e, qc_put_n e, qc_put_n e]; exact ⟨r2, r3⟩
  refine br_f (by decide) ⟨il, il, ?_⟩
  rw [ej, (R j hj).2.2]
  refine br_c (fun z => fin false ?_) (fun z => fin true ?_)
  · rw [qs_beq] at z; rw [z]; cases Ng j <;> rfl
  · rw [qs_beq] at z
    revert z
    cases v <;> cases Ng j <;> intro z <;> first | rfl | exact absurd rfl z
end
end
section
/-! Y: a predicate at a node, a list kept, a step -/
section
variable {ymo : Int32} {yn : Int32} {yw : Int32} {yle : Int32} {yfo : Int32} {yli : Int32} {yat : Int32} {ysu : Int64} {yid : (Nat → Int32)} {ydp : (Nat → Int32)} {ynm : (Nat → Int32)} {yvl : (Nat → Int32)} {yci : (Nat → Int32)} {ycd : (Nat → Int32)} {ypd : (Nat → Int32)} {yqu : (Nat → Int32)} {ygv : (Nat → Int64)} {yls : (Nat → Int32)} {yrs : (Nat → Int32)} {yor : (Nat → Int32)} {yan : (Nat → Int32)} {yno : (Nat → Int32)} {yow : (Nat → Int32)} {ypa : (Nat → Int32)}
variable {n len : Nat} {i d : Nat → Nat} {po q : Nat → Int32} {g : Nat → Int64}
theorem qs_yp29 {o x p m : Nat} {post : Int32 → SY → Prop} (H : qs_HY n i d yid ydp po len q yqu) (ho : o < len) (h1 : q o = 1) (hx : x < n) (hp : p < 2 ^ 31) (hm : m < 2 ^ 31)
    (Y : qs_YG q len n g ygv ((qc_tr q o).2.1 + 1)) (hg : ∀ t, t < len → qc_ax (q t) = true → ∀ c, c < n → ∀ y, qb (g (t * 40 + c)) y = true → y < n) :
    ∀ f K lv F at' yor yan yno O A Ng, qe_cl q len o - K ≤ f → qw_PO q len o K lv → qe_cl q len o - K < F → qs_RY lv yor yan yno O A Ng →
    (∀ at'' or' an' no', post (qa_b (qs_PE q len i yvl g x p m F K lv O A Ng)) (ymo, nI n, yw, nI len, yfo, yli, at'', ysu, yid, ydp, ynm, yvl, yci, ycd, ypd, yqu, ygv, yls, yrs, or', an', no', yow, ypa)) →
    wY_predicate_29 post (nI x) (nI p) (nI m) (f + 1) (nI lv) (nI K) ymo (nI n) yw (nI len) yfo yli at' ysu yid ydp ynm yvl yci ycd ypd yqu ygv yls yrs yor yan yno yow ypa := by
  obtain ⟨B, hl, G, hq, hy⟩ := id H
  obtain ⟨c1, c2, c3, c4, c5⟩ := qe_cl_spec G ho h1
  intro f
  induction f with
  | zero =>
    intro K lv F at' yor yan yno O A Ng hf P hF R hpost
    have hKc := P.2.1
    have eK : K = qe_cl q len o := by omega
    have iK : vp_in (nI K) 40 := vp_in_nI (by omega) (by omega)
    have e2 : yqu (nI K).toNatClampNeg = q K := by rw [nI_clamp (by omega)]; exact hy K (by omega)
    obtain ⟨F', rfl⟩ : ∃ F', F = F' + 1 := ⟨F - 1, by omega⟩
    have a1 : q K = 2 := by rw [eK]; exact c3
    obtain ⟨r1, r2, r3⟩ := R 0 (by omega)
    rw [qs_PE_2 a1] at hpost
    refine And.intro iK ?_
    rw [e2, r1, r2, qs_or]
    exact br_t a1 ⟨qa_bn _, hpost _ _ _ _⟩
  | succ f ih =>
    intro K lv F at' yor yan yno O A Ng hf P hF R hpost
    have hKc := P.2.1
    have iK : vp_in (nI K) 40 := vp_in_nI (by omega) (by omega)
    have e2 : yqu (nI K).toNatClampNeg = q K := by rw [nI_clamp (by omega)]; exact hy K (by omega)
    obtain ⟨F', rfl⟩ : ∃ F', F = F' + 1 := ⟨F - 1, by omega⟩
    have W := qe_W (k := K) G (by omega)
    have hlv : lv ≤ 4 := by
      have a : lv = (qc_tr q K).2.2.2.1 (qc_tr q K).2.1 := by rw [P.2.2.1]; exact P.2.2.2.1.symm
      have b := qc_sm_ge (qc_tr q K).2.2.2.1 (qc_tr q K).2.1 (by rw [P.2.2.1]; omega)
      have w4 : (qc_tr q K).2.2.1 ≤ 4 := W.2.2.2.1
      have w5 : (qc_tr q K).2.2.1 = qc_sm (qc_tr q K).2.2.2.1 (qc_tr q K).2.1 := W.2.2.2.2.1
      omega
    have il : vp_in (nI lv) 8 := vp_in_nI (by omega) (by omega)
    have el : (nI lv).toNatClampNeg = lv := nI_clamp (by omega)
    obtain ⟨r1, r2, r3⟩ := R lv (Nat.le_refl _)
    refine And.intro iK ?_
    rw [e2]
    rcases qw_next G ho h1 P with ⟨a1, a2, a3⟩ | ⟨a1, a2⟩ | ⟨a1, a2, a3⟩ | ⟨a1, a2⟩ | ⟨a1, a2, a3⟩ | ⟨a1, a2, a3⟩
    · rw [qs_PE_2 a1] at hpost
      obtain ⟨s1, s2, s3⟩ := R 0 (by omega)
      rw [s1, s2, qs_or]
      exact br_t a1 ⟨qa_bn _, hpost _ _ _ _⟩
    · rcases a1 with a1 | a1
      · have h2 := a2.2.1
        rw [qs_PE_5 a1] at hpost
        refine br_f (by rw [a1]; decide) ⟨iK, nm_r (e' := q K) (by rfl) (br_f (by rw [a1]; decide) ?_)⟩
        refine br_f (by rw [a1]; decide) (br_f (by rw [a1]; decide) (br_f (by rw [a1]; decide) (br_t a1 (nm_r (nI_1 K) (br_t rfl ?_)))))
        exact ih (K + 1) lv F' at' yor yan yno O A Ng (by omega) a2 (by omega) R hpost
      · have h2 := a2.2.1
        rw [qs_PE_6 a1] at hpost
        refine br_f (by rw [a1]; decide) ⟨iK, nm_r (e' := q K) (by rfl) (br_f (by rw [a1]; decide) ?_)⟩
        refine br_f (by rw [a1]; decide) (br_f (by rw [a1]; decide) (br_t a1 ⟨il, il, il, fun a ea => ⟨il, fun b eb => nm_r (nI_1 K) (br_t rfl ?_)⟩⟩))
        rw [el, r1, r2, qs_nor] at ea
        rw [el] at eb
        refine ih (K + 1) lv F' at' a b yno (qc_put O lv (O lv || A lv)) (qc_put A lv true) Ng (by omega) a2 (by omega) (fun j hj => ?_) hpost
        rw [ea, eb]
        obtain ⟨s1, s2, s3⟩ := R j hj
        by_cases e3 : j = lv
        · rw [e3, pk_us, pk_us, qc_put_s, qc_put_s]; exact ⟨rfl, rfl, r3⟩
        · rw [pk_un e3, pk_un e3, qc_put_n e3, qc_put_n e3]; exact ⟨s1, s2, s3⟩
    · have h2 := a3.2.1
      rw [qs_PE_4 a1] at hpost
      refine br_f (by rw [a1]; decide) ⟨iK, nm_r (e' := q K) (by rfl) (br_t a1 ?_)⟩
      refine br_f (by rw [a1]; decide) (br_f (by rw [a1]; decide) (br_f (by rw [a1]; decide) (br_f (by rw [a1]; decide) (br_t a1 ⟨il, il, nm_r (e' := qa_b (O lv || A lv)) (by rw [el, r1, r2, qs_or]) (nm_r (sb_m1 (p := lv) (by omega)) (nm_r (nI_1 K) ?_))⟩))))
      refine qs_yjo (lv := lv) (by omega) (by omega) R (fun an no R' => ?_)
      exact ih (K + 1) (lv - 1) F' at' yor an no O _ _ (by omega) a3 (by omega) (fun j hj => R' j (by omega)) hpost
    · have h2 := a2.2.1
      rw [qs_PE_7 a1] at hpost
      refine br_f (by rw [a1]; decide) ⟨iK, nm_r (e' := q K) (by rfl) (br_f (by rw [a1]; decide) ?_)⟩
      refine br_f (by rw [a1]; decide) (br_t a1 ⟨il, ?_⟩)
      rw [el, r3]
      refine qa_br (fun z => ⟨il, fun a ea => nm_r (nI_1 K) (br_t rfl ?_)⟩) (fun z => ⟨il, fun a ea => nm_r (nI_1 K) (br_t rfl ?_)⟩)
      · rw [el] at ea
        refine ih (K + 1) lv F' at' yor yan a O A (qc_put Ng lv (!Ng lv)) (by omega) a2 (by omega) (fun j hj => ?_) hpost
        rw [ea]
        obtain ⟨s1, s2, s3⟩ := R j hj
        by_cases e3 : j = lv
        · rw [e3, pk_us, qc_put_s, z]; exact ⟨r1, r2, rfl⟩
        · rw [pk_un e3, qc_put_n e3]; exact ⟨s1, s2, s3⟩
      · rw [el] at ea
        refine ih (K + 1) lv F' at' yor yan a O A (qc_put Ng lv (!Ng lv)) (by omega) a2 (by omega) (fun j hj => ?_) hpost
        rw [ea]
        obtain ⟨s1, s2, s3⟩ := R j hj
        by_cases e3 : j = lv
        · rw [e3, pk_us, qc_put_s, z]; exact ⟨r1, r2, rfl⟩
        · rw [pk_un e3, qc_put_n e3]; exact ⟨s1, s2, s3⟩
    · have h2 := a3.2.1
      rw [qs_PE_3 a1] at hpost
      have il1 : vp_in (nI (lv + 1)) 8 := vp_in_nI (by omega) (by omega)
      have el1 : (nI (lv + 1)).toNatClampNeg = lv + 1 := nI_clamp (by omega)
      refine br_f (by rw [a1]; decide) ⟨iK, nm_r (e' := q K) (by rfl) (br_f (by rw [a1]; decide) ?_)⟩
      refine br_t a1 (nm_r (nI_1 lv) ⟨il1, fun a ea => ⟨il1, fun b eb => ⟨il1, fun c ec => nm_r (nI_1 K) (br_t rfl ?_)⟩⟩⟩)
      rw [el1] at ea eb ec
      refine ih (K + 1) (lv + 1) F' at' a b c _ _ _ (by omega) a3 (by omega) (fun j hj => ?_) hpost
      rw [ea, eb, ec]
      by_cases e3 : j = lv + 1
      · rw [e3, pk_us, pk_us, pk_us, qc_put_s, qc_put_s, qc_put_s]; exact ⟨rfl, rfl, rfl⟩
      · rw [pk_un e3, pk_un e3, pk_un e3, qc_put_n e3, qc_put_n e3, qc_put_n e3]; exact R j (by omega)
    · rw [qs_PE_A a1] at hpost
      have nn := qs_nn a1
      have aec := a3.2.1
      refine br_f nn.1 ⟨iK, nm_r (e' := q K) (by rfl) (br_f nn.2.2.2.2.2 ?_)⟩
      refine br_f nn.2.1 (br_f nn.2.2.1 (br_f nn.2.2.2.1 (br_f nn.2.2.2.2.1 (br_f nn.2.2.2.2.2 ?_))))
      refine qs_yop H a1 hx hp hm Y hg ?_
      refine qs_yjo (lv := lv) (by omega) (Nat.le_refl _) R (fun an no R' => ?_)
      exact ih (qs_AE q len K) lv F' _ yor an no O _ _ (by omega) a3 (by omega) R' hpost
theorem qs_ypv {o x p m : Nat} {post : Int32 → SY → Prop} (H : qs_HY n i d yid ydp po len q yqu) (ho : o < len) (h1 : q o = 1) (hx : x < n) (hp : p < 2 ^ 31) (hm : m < 2 ^ 31)
    (Y : qs_YG q len n g ygv ((qc_tr q o).2.1 + 1)) (hg : ∀ t, t < len → qc_ax (q t) = true → ∀ c, c < n → ∀ y, qb (g (t * 40 + c)) y = true → y < n)
    (h : ∀ at' or' an' no', post (qa_b (qs_PV q len i yvl g o x p m)) (ymo, nI n, yw, nI len, yfo, yli, at', ysu, yid, ydp, ynm, yvl, yci, ycd, ypd, yqu, ygv, yls, yrs, or', an', no', yow, ypa)) :
    wpY_predicate post (ymo, nI n, yw, nI len, yfo, yli, yat, ysu, yid, ydp, ynm, yvl, yci, ycd, ypd, yqu, ygv, yls, yrs, yor, yan, yno, yow, ypa) (nI o) (nI x) (nI p) (nI m) := by
  obtain ⟨B, hl, G, hq, hy⟩ := id H
  obtain ⟨c1, c2, c3, c4, c5⟩ := qe_cl_spec G ho h1
  refine fun a ea b eb c ec => nm_r (nI_1 o) (Exists.intro (qe_cl q len o - (o + 1) + 1) ?_)
  refine qs_yp29 H ho h1 hx hp hm Y hg _ (o + 1) 0 len yat a b c (fun _ => false) (fun _ => true) (fun _ => false) (Nat.le_refl _) (qw_start G ho h1) (by omega) (fun j hj => ?_) h
  have : j = 0 := by omega
  subst this
  rw [ea, eb, ec, pk_us, pk_us, pk_us]
  exact ⟨rfl, rfl, rfl⟩
/-- Y's list: the set S in the order of the axis -/
def qs_LS (n : Nat) (rv : Bool) (S : Nat → Bool) (ls : Nat → Int32) : Prop := ∀ k, k < n → S (qs_rho n rv k) = true → ls (qt_cn (fun k => S (qs_rho n rv k)) k) = nI (qs_rho n rv k)
theorem qt_cn_lt {C : Nat → Bool} {a b : Nat} (h : a < b) (hc : C a = true) : qt_cn C a < qt_cn C b := by
  have := qt_cn_mono C (a + 1) b h
  simp only [qt_cn, hc, if_true] at this
  omega
theorem qt_cn_sub {C D : Nat → Bool} (h : ∀ k, D k = true → C k = true) : ∀ k, qt_cn D k ≤ qt_cn C k := by
  intro k
  induction k with
  | zero => exact Nat.le_refl _
  | succ k ih =>
    simp only [qt_cn]
    by_cases g : D k = true
    · rw [if_pos g, if_pos (h k g)]; omega
    · rw [if_neg g]; omega
theorem qs_ykp {o : Nat} {rv : Bool} {S : Nat → Bool} {post : SY → Prop} (H : qs_HY n i d yid ydp po len q yqu) (ho : o < len) (h1 : q o = 1)
    (Y : qs_YG q len n g ygv ((qc_tr q o).2.1 + 1)) (hg : ∀ t, t < len → qc_ax (q t) = true → ∀ c, c < n → ∀ y, qb (g (t * 40 + c)) y = true → y < n)
    (L : qs_LS n rv S yls) (h : ∀ at' ls or' an' no', qs_LS n rv (qs_FL q len i yvl g n rv o S) ls → post (ymo, nI n, yw, nI len, yfo, nI (qt_cn (qs_FL q len i yvl g n rv o S) n), at', ysu, yid, ydp, ynm, yvl, yci, ycd, ypd, yqu, ygv, ls, yrs, or', an', no', yow, ypa)) :
    wpY_keep post (ymo, nI n, yw, nI len, yfo, nI (qt_cn S n), yat, ysu, yid, ydp, ynm, yvl, yci, ycd, ypd, yqu, ygv, yls, yrs, yor, yan, yno, yow, ypa) (nI o) := by
  have hn := H.1.1.2
  have hm := qt_cn_le S n
  have hcard := qs_card n rv S
  have hcard2 := qs_card n rv (qs_FL q len i yvl g n rv o S)
  have sub : ∀ k, (fun k => (qs_FL q len i yvl g n rv o S) (qs_rho n rv k)) k = true → (fun k => S (qs_rho n rv k)) k = true := by
    intro k hk
    have hk : (S (qs_rho n rv k) && qs_PV q len i yvl g o (qs_rho n rv k) (qs_pos n rv S (qs_rho n rv k)) (qt_cn S n)) = true := hk
    rw [Bool.and_eq_true] at hk
    exact hk.1
  have key : ∀ f k at' ls or' an' no', k + f = n →
      (∀ x, x < k → (qs_FL q len i yvl g n rv o S) (qs_rho n rv x) = true → ls (qt_cn (fun k => (qs_FL q len i yvl g n rv o S) (qs_rho n rv k)) x) = nI (qs_rho n rv x)) →
      (∀ x, k ≤ x → x < n → S (qs_rho n rv x) = true → ls (qt_cn (fun k => S (qs_rho n rv k)) x) = nI (qs_rho n rv x)) →
      wY_keep_12 post (nI o) (nI (qt_cn S n)) (qt_cn S n - qt_cn (fun k => S (qs_rho n rv k)) k + 1) (nI (qt_cn (fun k => S (qs_rho n rv k)) k)) ymo (nI n) yw (nI len) yfo (nI (qt_cn (fun k => (qs_FL q len i yvl g n rv o S) (qs_rho n rv k)) k)) at' ysu yid ydp ynm yvl yci ycd ypd yqu ygv ls yrs or' an' no' yow ypa := by
    intro f
    induction f with
    | zero =>
      intro k at' ls or' an' no' e L1 L2
      have e : k = n := by omega
      subst e
      rw [hcard, hcard2]
      exact br_t (nI_le (Nat.le_refl _) (by omega)) (h _ _ _ _ _ (fun x hx hs => L1 x hx hs))
    | succ f ih =>
      intro k at' ls or' an' no' e L1 L2
      have hr := qs_rho_lt (n := n) (rv := rv) (k := k) (by omega)
      have hr2 := qs_rho_2 (n := n) (rv := rv) (k := k) (by omega)
      have csT : qt_cn (fun k => S (qs_rho n rv k)) (k + 1) = qt_cn (fun k => S (qs_rho n rv k)) k + if S (qs_rho n rv k) then 1 else 0 := rfl
      have csF : qt_cn (fun k => (qs_FL q len i yvl g n rv o S) (qs_rho n rv k)) (k + 1) = qt_cn (fun k => (qs_FL q len i yvl g n rv o S) (qs_rho n rv k)) k + if (qs_FL q len i yvl g n rv o S) (qs_rho n rv k) then 1 else 0 := rfl
      have leF := qt_cn_sub sub k
      have mT := qt_cn_mono (fun k => S (qs_rho n rv k)) (k + 1) n (by omega)
      rw [hcard] at mT
      by_cases gT : S (qs_rho n rv k) = true
      · rw [gT, if_pos rfl] at csT
        have efu : qt_cn S n - qt_cn (fun k => S (qs_rho n rv k)) k + 1 = (qt_cn S n - qt_cn (fun k => S (qs_rho n rv k)) (k + 1) + 1) + 1 := by omega
        rw [efu]
        have ij : vp_in (nI (qt_cn (fun k => S (qs_rho n rv k)) k)) 40 := vp_in_nI (by omega) (by omega)
        have ej : ls (nI (qt_cn (fun k => S (qs_rho n rv k)) k)).toNatClampNeg = nI (qs_rho n rv k) := by
          rw [nI_clamp (by omega)]; exact L2 k (Nat.le_refl _) (by omega) gT
        refine br_f (nI_ge (by omega) (by omega)) ⟨ij, ?_⟩
        rw [ej, nI_1]
        have epos : qs_pos n rv S (qs_rho n rv k) = qt_cn (fun k => S (qs_rho n rv k)) k + 1 := by
          unfold qs_pos
          rw [hr2, csT]
        refine qs_ypv H ho h1 hr (by omega) (by omega) Y hg (fun at2 or2 an2 no2 => qa_br (fun z => ?_) (fun z => ?_))
        · have fF : (qs_FL q len i yvl g n rv o S) (qs_rho n rv k) = false := by
            show (S (qs_rho n rv k) && _) = false
            rw [gT, epos, z]; rfl
          rw [fF] at csF
          have c := ih (k + 1) at2 ls or2 an2 no2 (by omega) (fun x hx hs => ?_) (fun x hx hx2 hs => L2 x (by omega) hx2 hs)
          · rw [csF, csT] at c
            rw [csT]
            exact nm_e c
          · by_cases e2 : x = k
            · rw [e2, fF] at hs; exact absurd hs (by decide)
            · exact L1 x (by omega) hs
        · have fF : (qs_FL q len i yvl g n rv o S) (qs_rho n rv k) = true := by
            show (S (qs_rho n rv k) && _) = true
            rw [gT, epos, z]; rfl
          rw [fF, if_pos rfl] at csF
          refine nm_r (nI_1 _) ⟨ij, vp_in_nI (by omega) (by omega), fun a ea => ?_⟩
          rw [ej, nI_clamp (by omega)] at ea
          have c := ih (k + 1) at2 a or2 an2 no2 (by omega) (fun x hx hs => ?_) (fun x hx hx2 hs => ?_)
          · rw [csF, csT] at c
            rw [csT]
            exact nm_e c
          · rw [ea]
            by_cases e2 : x = k
            · rw [e2, pk_us]
            · have := qt_cn_lt (C := fun k => (qs_FL q len i yvl g n rv o S) (qs_rho n rv k)) (show x < k by omega) hs
              rw [pk_un (by omega)]
              exact L1 x (by omega) hs
          · rw [ea]
            have := qt_cn_mono (fun k => S (qs_rho n rv k)) (k + 1) x (by omega)
            rw [pk_un (by omega)]
            exact L2 x (by omega) hx2 hs
      · have fT : S (qs_rho n rv k) = false := by rw [← Bool.not_eq_true]; exact gT
        have fF : (qs_FL q len i yvl g n rv o S) (qs_rho n rv k) = false := by
          show (S (qs_rho n rv k) && _) = false
          rw [fT]; rfl
        have csT' : qt_cn (fun k => S (qs_rho n rv k)) (k + 1) = qt_cn (fun k => S (qs_rho n rv k)) k := by rw [csT, fT]; rfl
        have csF' : qt_cn (fun k => (qs_FL q len i yvl g n rv o S) (qs_rho n rv k)) (k + 1) = qt_cn (fun k => (qs_FL q len i yvl g n rv o S) (qs_rho n rv k)) k := by rw [csF, fF]; rfl
        have c := ih (k + 1) at' ls or' an' no' (by omega) (fun x hx hs => ?_) (fun x hx hx2 hs => L2 x (by omega) hx2 hs)
        · rw [csT', csF'] at c; exact c
        · by_cases e2 : x = k
          · rw [e2, fF] at hs; exact absurd hs (by decide)
          · exact L1 x (by omega) hs
  exact Exists.intro _ (key n 0 _ _ _ _ _ (by omega) (fun x hx => by omega) (fun x _ hx hs => L x hx hs))
end
end
section
/-! Y: a step, a path, all inner paths, the result -/
theorem qs_48 {v : Int32} : v - 40 = 8 ↔ v = 48 := by
  constructor
  · intro h
    have := congrArg (· + 40) h
    simp only [Int32.sub_add_cancel] at this
    rw [this]; decide
  · intro h; rw [h]; decide
section
variable {ymo : Int32} {yn : Int32} {yw : Int32} {yle : Int32} {yfo : Int32} {yli : Int32} {yat : Int32} {ysu : Int64} {yid : (Nat → Int32)} {ydp : (Nat → Int32)} {ynm : (Nat → Int32)} {yvl : (Nat → Int32)} {yci : (Nat → Int32)} {ycd : (Nat → Int32)} {ypd : (Nat → Int32)} {yqu : (Nat → Int32)} {ygv : (Nat → Int64)} {yls : (Nat → Int32)} {yrs : (Nat → Int32)} {yor : (Nat → Int32)} {yan : (Nat → Int32)} {yno : (Nat → Int32)} {yow : (Nat → Int32)} {ypa : (Nat → Int32)}
variable {n len : Nat} {i d : Nat → Nat} {po q : Nat → Int32} {g : Nat → Int64}
theorem qs_y203 {rv : Bool} {S : Nat → Bool} {post : Int64 → SY → Prop} (hn : n ≤ 40) (hS : ∀ y, S y = true → y < n) (L : qs_LS n rv S yls)
    (h : ∀ w, (∀ y, qb w y = S y) → post w (ymo, nI n, yw, nI len, yfo, nI (qt_cn S n), yat, ysu, yid, ydp, ynm, yvl, yci, ycd, ypd, yqu, ygv, yls, yrs, yor, yan, yno, yow, ypa)) : ∃ f, wY_step_203 post ymo (nI n) yw (nI len) yfo (nI (qt_cn S n)) yat ysu yid ydp ynm yvl yci ycd ypd yqu ygv yls yrs yor yan yno yow ypa f 0 0 := by
  have hm := qt_cn_le S n
  have hcard := qs_card n rv S
  have key : ∀ f k w, k + f = n → (∀ y, qb w y = (decide (y < n ∧ qs_rho n rv y < k) && S y)) →
      wY_step_203 post ymo (nI n) yw (nI len) yfo (nI (qt_cn S n)) yat ysu yid ydp ynm yvl yci ycd ypd yqu ygv yls yrs yor yan yno yow ypa (qt_cn S n - qt_cn (fun k => S (qs_rho n rv k)) k + 1) w (nI (qt_cn (fun k => S (qs_rho n rv k)) k)) := by
    intro f
    induction f with
    | zero =>
      intro k w e hw
      have e : k = n := by omega
      subst e
      rw [hcard]
      refine br_t (nI_le (Nat.le_refl _) (by omega)) (h w (fun y => ?_))
      rw [hw y]
      by_cases gy : S y = true
      · have := hS y gy
        rw [decide_eq_true ⟨this, qs_rho_lt this⟩, Bool.true_and]
      · rw [show S y = false from by rw [← Bool.not_eq_true]; exact gy, Bool.and_false]
    | succ f ih =>
      intro k w e hw
      have hr := qs_rho_lt (n := n) (rv := rv) (k := k) (by omega)
      have hr2 := qs_rho_2 (n := n) (rv := rv) (k := k) (by omega)
      have csT : qt_cn (fun k => S (qs_rho n rv k)) (k + 1) = qt_cn (fun k => S (qs_rho n rv k)) k + if S (qs_rho n rv k) then 1 else 0 := rfl
      have mT := qt_cn_mono (fun k => S (qs_rho n rv k)) (k + 1) n (by omega)
      rw [hcard] at mT
      have st : ∀ y, y ≠ qs_rho n rv k → decide (y < n ∧ qs_rho n rv y < k) = decide (y < n ∧ qs_rho n rv y < k + 1) := by
        intro y hy
        rw [decide_eq_decide]
        constructor
        · intro z; omega
        · intro z
          refine ⟨z.1, ?_⟩
          have : qs_rho n rv y ≠ k := fun e => hy (by rw [← e, qs_rho_2 z.1])
          omega
      by_cases gT : S (qs_rho n rv k) = true
      · rw [gT, if_pos rfl] at csT
        have efu : qt_cn S n - qt_cn (fun k => S (qs_rho n rv k)) k + 1 = (qt_cn S n - qt_cn (fun k => S (qs_rho n rv k)) (k + 1) + 1) + 1 := by omega
        rw [efu]
        refine br_f (nI_ge (by omega) (by omega)) ⟨vp_in_nI (by omega) (by omega), ?_⟩
        rw [nI_clamp (by omega), L k (by omega) gT]
        refine nm_e (nm_r (nI_1 _) ?_)
        have c := ih (k + 1) (w ||| ((1 : Int64) <<< ((nI (qs_rho n rv k)).toInt64 &&& 63))) (by omega) (fun y => ?_)
        · rw [csT] at c
          rw [csT]
          exact c
        · rw [qb_or, hw y, qb_shl _ (by omega)]
          by_cases g2 : y = qs_rho n rv k
          · rw [g2, gT, hr2, decide_eq_true (show qs_rho n rv k = qs_rho n rv k from rfl), Bool.or_true, decide_eq_true (show qs_rho n rv k < n ∧ k < k + 1 from ⟨hr, Nat.lt_succ_self _⟩)]; rfl
          · rw [st y g2, decide_eq_false g2, Bool.or_false]
      · have fT : S (qs_rho n rv k) = false := by rw [← Bool.not_eq_true]; exact gT
        have csT' : qt_cn (fun k => S (qs_rho n rv k)) (k + 1) = qt_cn (fun k => S (qs_rho n rv k)) k := by rw [csT, fT]; rfl
        have c := ih (k + 1) w (by omega) (fun y => ?_)
        · rw [csT'] at c; exact c
        · rw [hw y]
          by_cases g2 : y = qs_rho n rv k
          · rw [g2, fT, Bool.and_false, Bool.and_false]
          · rw [st y g2]
  refine ⟨_, key n 0 0 (by omega) (fun y => ?_)⟩
  rw [qb_0, decide_eq_false (by omega), Bool.false_and]
end
section
variable {ymo : Int32} {yn : Int32} {yw : Int32} {yle : Int32} {yfo : Int32} {yli : Int32} {yat : Int32} {ysu : Int64} {yid : (Nat → Int32)} {ydp : (Nat → Int32)} {ynm : (Nat → Int32)} {yvl : (Nat → Int32)} {yci : (Nat → Int32)} {ycd : (Nat → Int32)} {ypd : (Nat → Int32)} {yqu : (Nat → Int32)} {ygv : (Nat → Int64)} {yls : (Nat → Int32)} {yrs : (Nat → Int32)} {yor : (Nat → Int32)} {yan : (Nat → Int32)} {yno : (Nat → Int32)} {yow : (Nat → Int32)} {ypa : (Nat → Int32)}
variable {n len : Nat} {i d : Nat → Nat} {po q : Nat → Int32} {g : Nat → Int64}
theorem qs_y160 {t : Nat} {rv : Bool} {post : Int64 → SY → Prop} {Z : Nat → Bool} (H : qs_HY n i d yid ydp po len q yqu)
    (Y : qs_YG q len n g ygv ((qc_tr q t).2.1 + 1)) (hg : ∀ t, t < len → qc_ax (q t) = true → ∀ c, c < n → ∀ y, qb (g (t * 40 + c)) y = true → y < n)
    (h : ∀ w li at' ls or' an' no', (∀ y, qb w y = Z y) → post w (ymo, nI n, yw, nI len, yfo, li, at', ysu, yid, ydp, ynm, yvl, yci, ycd, ypd, yqu, ygv, ls, yrs, or', an', no', yow, ypa)) :
    ∀ f K F S at' ls or' an' no', len - K ≤ f → K ≤ len → len - K ≤ F → (qc_tr q K).2.1 = (qc_tr q t).2.1 → (∀ y, S y = true → y < n) → qs_LS n rv S ls → qs_FS q len i yvl g n rv F K S = Z →
    wY_step_160 post (f + 1) (nI K) ymo (nI n) yw (nI len) yfo (nI (qt_cn S n)) at' ysu yid ydp ynm yvl yci ycd ypd yqu ygv ls yrs or' an' no' yow ypa := by
  obtain ⟨B, hl, G, hq, hy⟩ := id H
  have hn := B.1.2
  have fin : ∀ K F S at' ls or' an' no', ¬ (K < len ∧ q K = 1) → (∀ y, S y = true → y < n) → qs_LS n rv S ls → qs_FS q len i yvl g n rv F K S = Z → ∃ f, wY_step_203 post ymo (nI n) yw (nI len) yfo (nI (qt_cn S n)) at' ysu yid ydp ynm yvl yci ycd ypd yqu ygv ls yrs or' an' no' yow ypa f 0 0 := by
    intro K F S at' ls or' an' no' hK hS L hZ
    have e : S = Z := by
      rw [← hZ]
      cases F with
      | zero => rfl
      | succ F => simp only [qs_FS]; rw [if_neg hK]
    exact qs_y203 hn hS L (fun w hw => h w _ _ _ _ _ _ (fun y => by rw [hw y, e]))
  intro f
  induction f with
  | zero =>
    intro K F S at' ls or' an' no' hf hK hF hlv hS L hZ
    exact br_t (nI_le (by omega) (by omega)) (fin K F S _ _ _ _ _ (by omega) hS L hZ)
  | succ f ih =>
    intro K F S at' ls or' an' no' hf hK hF hlv hS L hZ
    refine pk_le len K (fun z => fin K F S _ _ _ _ _ (by omega) hS L hZ) (fun z => ⟨vp_in_nI (by omega) (by omega), ?_⟩)
    rw [nI_clamp (n := K) (by omega), hy K z]
    by_cases g1 : q K = 1
    · have cs := qe_cl_spec G z g1
      have c1 := cs.1
      have c2 := cs.2.1
      have sm := qe_cl_same G z g1
      obtain ⟨F', rfl⟩ : ∃ F', F = F' + 1 := ⟨F - 1, by omega⟩
      simp only [qs_FS] at hZ
      rw [if_pos ⟨z, g1⟩] at hZ
      refine br_t g1 (qs_ykp H z g1 (by rw [hlv]; exact Y) hg L (fun at2 ls2 or2 an2 no2 L2 => ?_))
      refine qs_ycl H z g1 ?_
      refine ih (qe_cl q len K + 1) F' (qs_FL q len i yvl g n rv K S) at2 ls2 or2 an2 no2 (by omega) (by omega) (by omega) (by rw [sm.2.1]; exact hlv) (fun y hy2 => ?_) L2 hZ
      have hy2 : (S y && qs_PV q len i yvl g K y (qs_pos n rv S y) (qt_cn S n)) = true := hy2
      rw [Bool.and_eq_true] at hy2
      exact hS y hy2.1
    · exact br_f g1 (fin K F S _ _ _ _ _ (fun y => g1 y.2) hS L hZ)
theorem qs_yst {t c : Nat} {post : Int64 → SY → Prop} (H : qs_HY n i d yid ydp po len q yqu) (ht : t < len) (ha : qc_ax (q t) = true) (hc : c < n)
    (Y : qs_YG q len n g ygv ((qc_tr q t).2.1 + 1)) (hg : ∀ t, t < len → qc_ax (q t) = true → ∀ c, c < n → ∀ y, qb (g (t * 40 + c)) y = true → y < n)
    (h : ∀ w li at' ls or' an' no', (∀ y, qb w y = qs_SG n d i ynm yvl q len g t c y) → post w (ymo, nI n, yw, nI len, yfo, li, at', ysu, yid, ydp, ynm, yvl, yci, ycd, ypd, yqu, ygv, ls, yrs, or', an', no', yow, ypa)) : wpY_step post (ymo, nI n, yw, nI len, yfo, yli, yat, ysu, yid, ydp, ynm, yvl, yci, ycd, ypd, yqu, ygv, yls, yrs, yor, yan, yno, yow, ypa) (nI t) (nI c) := by
  obtain ⟨B, hl, G, hq, hy⟩ := id H
  have hn := B.1.2
  obtain ⟨s1, s2⟩ := qs_a_spec ha
  obtain ⟨t1, t2, t3, t4, t5, t6⟩ := qe_se_spec G ht ha
  obtain ⟨x1, x2, x3, x4, x5, x6⟩ := qe_axt G ht ha
  have b := qe_nmt G t1 x1
  have lv2 : (qc_tr q (t + 2)).2.1 = (qc_tr q t).2.1 := by rw [show t + 2 = t + 1 + 1 from rfl, b.2.2, x2]
  have key : ∀ f k ls, k + f = n → (∀ x, x < k → qs_L0 n d i ynm q t c (qs_rho n (qs_rv (qs_a (q t))) x) = true → ls (qt_cn (fun k => qs_L0 n d i ynm q t c (qs_rho n (qs_rv (qs_a (q t))) k)) x) = nI (qs_rho n (qs_rv (qs_a (q t))) x)) →
      wY_step_66 post (nI t) (nI c) (nI (qs_a (q t))) (q (t + 1) - 40) (qa_b (qs_rv (qs_a (q t)))) ymo (nI n) yw (nI len) yfo yat ysu (f + 1) (nI k) (nI (qt_cn (fun k => qs_L0 n d i ynm q t c (qs_rho n (qs_rv (qs_a (q t))) k)) k)) yid ydp ynm yvl yci ycd ypd yqu ygv ls yrs yor yan yno yow ypa := by
    intro f
    induction f with
    | zero =>
      intro k ls e L
      have e : k = n := by omega
      subst e
      rw [qs_card]
      refine br_t (nI_le (by omega) (by omega)) (nm_r (nI_add t 2) (Exists.intro (len - (t + 2) + 1) ?_))
      refine qs_y160 (t := t) (rv := qs_rv (qs_a (q t))) H Y hg h _ (t + 2) len (qs_L0 k d i ynm q t c) yat ls yor yan yno (Nat.le_refl _) (by omega) (by omega) lv2 (fun y hy2 => ?_) L rfl
      unfold qs_L0 at hy2
      rw [Bool.and_eq_true] at hy2
      exact of_decide_eq_true hy2.1
    | succ f ih =>
      intro k ls e L
      have hr := qs_rho_lt (n := n) (rv := qs_rv (qs_a (q t))) (k := k) (by omega)
      have hir := B.2.1 _ hr
      have hcl := qt_cn_le (fun k => qs_L0 n d i ynm q t c (qs_rho n (qs_rv (qs_a (q t))) k)) k
      have cs : qt_cn (fun k => qs_L0 n d i ynm q t c (qs_rho n (qs_rv (qs_a (q t))) k)) (k + 1) = qt_cn (fun k => qs_L0 n d i ynm q t c (qs_rho n (qs_rv (qs_a (q t))) k)) k + if qs_L0 n d i ynm q t c (qs_rho n (qs_rv (qs_a (q t))) k) then 1 else 0 := rfl
      have skip : qs_L0 n d i ynm q t c (qs_rho n (qs_rv (qs_a (q t))) k) = false → wY_step_66 post (nI t) (nI c) (nI (qs_a (q t))) (q (t + 1) - 40) (qa_b (qs_rv (qs_a (q t)))) ymo (nI n) yw (nI len) yfo yat ysu (f + 1) (nI (k + 1)) (nI (qt_cn (fun k => qs_L0 n d i ynm q t c (qs_rho n (qs_rv (qs_a (q t))) k)) k)) yid ydp ynm yvl yci ycd ypd yqu ygv ls yrs yor yan yno yow ypa := by
        intro z
        have c := ih (k + 1) ls (by omega) (fun x hx hs => ?_)
        · rw [cs, z] at c; exact c
        · by_cases e2 : x = k
          · rw [e2, z] at hs; exact absurd hs (by decide)
          · exact L x (by omega) hs
      have nmd : (q (t + 1) = 48 ∨ q (t + 1) - 40 = ynm (i (qs_rho n (qs_rv (qs_a (q t))) k))) → wY_step_120 post (wY_step_66 post (nI t) (nI c) (nI (qs_a (q t))) (q (t + 1) - 40) (qa_b (qs_rv (qs_a (q t)))) ymo (nI n) yw (nI len) yfo yat ysu (f + 1)) (nI t) (nI c) (nI (qs_a (q t))) (q (t + 1) - 40) (qa_b (qs_rv (qs_a (q t)))) (nI k) (nI (qs_rho n (qs_rv (qs_a (q t))) k)) ymo (nI n) yw (nI len) yfo (nI (qt_cn (fun k => qs_L0 n d i ynm q t c (qs_rho n (qs_rv (qs_a (q t))) k)) k)) yat ysu yid ydp ynm yvl yci ycd ypd yqu ygv ls yrs yor yan yno yow ypa := by
        intro hnm
        have e0 : qs_L0 n d i ynm q t c (qs_rho n (qs_rv (qs_a (q t))) k) = qs_ax n d (qs_a (q t)) c (qs_rho n (qs_rv (qs_a (q t))) k) := by
          unfold qs_L0
          rw [decide_eq_true hr, decide_eq_true hnm, Bool.true_and, Bool.true_and]
        refine qs_yoa hn B.2.2.2.2.1 B.2.2.2.2.2.1 s2 hc hr (qa_br (fun z => ?_) (fun z => ?_))
        · exact nm_r (nI_1 k) (skip (by rw [e0]; exact z))
        · refine nm_r (nI_1 _) ⟨vp_in_nI (by omega) (by omega), fun a ea => nm_r (nI_1 k) ?_⟩
          rw [nI_clamp (by omega)] at ea
          have c := ih (k + 1) a (by omega) (fun x hx hs => ?_)
          · rw [cs, e0, z, if_pos rfl] at c; exact c
          · rw [ea]
            by_cases e2 : x = k
            · rw [e2, pk_us]
            · have := qt_cn_lt (C := fun k => qs_L0 n d i ynm q t c (qs_rho n (qs_rv (qs_a (q t))) k)) (show x < k by omega) hs
              rw [pk_un (by omega)]
              exact L x (by omega) hs
      have main : wY_step_94 post (wY_step_66 post (nI t) (nI c) (nI (qs_a (q t))) (q (t + 1) - 40) (qa_b (qs_rv (qs_a (q t)))) ymo (nI n) yw (nI len) yfo yat ysu (f + 1)) (nI t) (nI c) (nI (qs_a (q t))) (q (t + 1) - 40) (qa_b (qs_rv (qs_a (q t)))) (nI k) (nI (qs_rho n (qs_rv (qs_a (q t))) k)) ymo (nI n) yw (nI len) yfo (nI (qt_cn (fun k => qs_L0 n d i ynm q t c (qs_rho n (qs_rv (qs_a (q t))) k)) k)) yat ysu yid ydp ynm yvl yci ycd ypd yqu ygv ls yrs yor yan yno yow ypa := by
        refine br_c (fun z => nmd (Or.inl (qs_48.mp z))) (fun z => ?_)
        have e1 : yid (nI (qs_rho n (qs_rv (qs_a (q t))) k)).toNatClampNeg = nI (i (qs_rho n (qs_rv (qs_a (q t))) k)) := by rw [nI_clamp (by omega)]; exact hir.1
        refine ⟨vp_in_nI (by omega) (by omega), by rw [e1]; exact vp_in_nI hir.2 (by omega), ?_⟩
        rw [e1, nI_clamp (n := i _) (by omega)]
        refine br_c (fun y => nmd (Or.inr y.symm)) (fun y => nm_r (nI_1 k) (skip ?_))
        unfold qs_L0
        rw [decide_eq_false (show ¬ (q (t + 1) = 48 ∨ q (t + 1) - 40 = ynm (i (qs_rho n (qs_rv (qs_a (q t))) k))) by rintro (w | w); exact z (qs_48.mpr w); exact y w.symm), Bool.false_and, Bool.and_false]
      refine br_f (nI_ge (by omega) (by omega)) ?_
      cases hrv : qs_rv (qs_a (q t))
      · rw [hrv] at main
        exact br_t (by decide) main
      · rw [hrv] at main
        refine br_f (by decide) ?_
        have e2 : (nI n - 1) - nI k = nI (qs_rho n true k) := by
          unfold qs_rho
          rw [if_pos rfl, show nI n - 1 = nI (n - 1) from pk_sub (a := n) (b := 1) (by omega), pk_sub (by omega)]
        rw [e2]
        exact main
  have start := key n 0 yls (by omega) (fun x hx => by omega)
  refine And.intro (vp_in_nI (by omega) (by omega)) (nm_r (e' := nI (qs_a (q t))) (by rw [nI_clamp (by omega), hy t ht]; exact s1) ⟨by rw [nI_1]; exact vp_in_nI (by omega) (by omega), nm_r (e' := q (t + 1) - 40) (by rw [nI_1, nI_clamp (by omega), hy (t + 1) t1]) ?_⟩)
  clear key
  generalize qs_a (q t) = a at s1 s2 start
  have hcase : a = 0 ∨ a = 1 ∨ a = 2 ∨ a = 3 ∨ a = 4 ∨ a = 5 ∨ a = 6 ∨ a = 7 ∨ a = 8 ∨ a = 9 ∨ a = 10 := by omega
  rcases hcase with rfl | rfl | rfl | rfl | rfl | rfl | rfl | rfl | rfl | rfl | rfl
  · exact br_f (by decide) (br_f (by decide) (br_f (by decide) (br_f (by decide) (br_f (by decide) (Exists.intro _ start)))))
  · exact br_f (by decide) (br_f (by decide) (br_f (by decide) (br_f (by decide) (br_f (by decide) (Exists.intro _ start)))))
  · exact br_t (by decide) (Exists.intro _ start)
  · exact br_f (by decide) (br_f (by decide) (br_f (by decide) (br_f (by decide) (br_f (by decide) (Exists.intro _ start)))))
  · exact br_f (by decide) (br_t (by decide) (Exists.intro _ start))
  · exact br_f (by decide) (br_f (by decide) (br_f (by decide) (br_f (by decide) (br_f (by decide) (Exists.intro _ start)))))
  · exact br_f (by decide) (br_f (by decide) (br_t (by decide) (Exists.intro _ start)))
  · exact br_f (by decide) (br_f (by decide) (br_f (by decide) (br_f (by decide) (br_f (by decide) (Exists.intro _ start)))))
  · exact br_f (by decide) (br_f (by decide) (br_f (by decide) (br_t (by decide) (Exists.intro _ start))))
  · exact br_f (by decide) (br_f (by decide) (br_f (by decide) (br_f (by decide) (br_f (by decide) (Exists.intro _ start)))))
  · exact br_f (by decide) (br_f (by decide) (br_f (by decide) (br_f (by decide) (br_t (by decide) (Exists.intro _ start)))))
end
end
section
/-! Y: paths -/
theorem qs_any_c {C D : Nat → Bool} (h : ∀ x, C x = D x) (n : Nat) : qs_any C n = qs_any D n := by rw [show C = D from funext h]
theorem qs_any_b {C D : Nat → Bool} {n m : Nat} (h : (∃ x, x < n ∧ C x = true) ↔ (∃ x, x < m ∧ D x = true)) : qs_any C n = qs_any D m := by
  rw [Bool.eq_iff_iff, qs_any_iff, qs_any_iff]; exact h
section
variable {ymo : Int32} {yn : Int32} {yw : Int32} {yle : Int32} {yfo : Int32} {yli : Int32} {yat : Int32} {ysu : Int64} {yid : (Nat → Int32)} {ydp : (Nat → Int32)} {ynm : (Nat → Int32)} {yvl : (Nat → Int32)} {yci : (Nat → Int32)} {ycd : (Nat → Int32)} {ypd : (Nat → Int32)} {yqu : (Nat → Int32)} {ygv : (Nat → Int64)} {yls : (Nat → Int32)} {yrs : (Nat → Int32)} {yor : (Nat → Int32)} {yan : (Nat → Int32)} {yno : (Nat → Int32)} {yow : (Nat → Int32)} {ypa : (Nat → Int32)}
variable {n len : Nat} {i d : Nat → Nat} {po q : Nat → Int32} {g : Nat → Int64}
theorem qs_y37 {k : Nat} {set : Int64} {post : Int64 → SY → Prop} {J : Int64 → Int32 → Int32 → Int32 → Int32 → Int32 → Int32 → Int32 → Int32 → Int64 → (Nat → Int32) → (Nat → Int32) → (Nat → Int32) → (Nat → Int32) → (Nat → Int32) → (Nat → Int32) → (Nat → Int32) → (Nat → Int32) → (Nat → Int64) → (Nat → Int32) → (Nat → Int32) → (Nat → Int32) → (Nat → Int32) → (Nat → Int32) → (Nat → Int32) → (Nat → Int32) → Prop} (H : qs_HY n i d yid ydp po len q yqu) (hk : k < len) (ha : qc_ax (q k) = true)
    (Y : qs_YG q len n g ygv ((qc_tr q k).2.1 + 1)) (hg : ∀ t, t < len → qc_ax (q t) = true → ∀ c, c < n → ∀ y, qb (g (t * 40 + c)) y = true → y < n)
    (h : ∀ w li at' ls or' an' no', (∀ y, qb w y = qs_any (fun x => qb set x && qs_SG n d i ynm yvl q len g k x y) n) → J w (nI (qe_se q len k)) ymo (nI n) yw (nI len) yfo li at' ysu yid ydp ynm yvl yci ycd ypd yqu ygv ls yrs or' an' no' yow ypa) :
    ∀ f j w li at' ls or' an' no', j + f = n → (∀ y, qb w y = qs_any (fun x => qb set x && qs_SG n d i ynm yvl q len g k x y) j) →
    wY_path_37 post J (nI k) set (f + 1) w (nI j) ymo (nI n) yw (nI len) yfo li at' ysu yid ydp ynm yvl yci ycd ypd yqu ygv ls yrs or' an' no' yow ypa := by
  have hn := H.1.1.2
  intro f
  induction f with
  | zero =>
    intro j w li at' ls or' an' no' e hw
    have e : j = n := by omega
    subst e
    exact br_t (nI_le (by omega) (by omega)) (qs_yse H hk ha (h w li at' ls or' an' no' hw))
  | succ f ih =>
    intro j w li at' ls or' an' no' e hw
    refine br_f (nI_ge (by omega) (by omega)) (qb_br (by omega) (fun z => ?_) (fun z => ?_))
    · refine nm_r (nI_1 j) (ih (j + 1) w li at' ls or' an' no' (by omega) (fun y => ?_))
      simp only [qs_any]
      rw [hw y, z, Bool.false_and, Bool.or_false]
    · refine qs_yst H hk ha (by omega) Y hg (fun w2 li2 at2 ls2 or2 an2 no2 hw2 => nm_e (nm_r (nI_1 j) ?_))
      refine ih (j + 1) _ li2 at2 ls2 or2 an2 no2 (by omega) (fun y => ?_)
      simp only [qs_any]
      rw [qb_or, hw y, z, hw2 y, Bool.true_and]
theorem qs_ypa {t c : Nat} {post : Int64 → SY → Prop} (H : qs_HY n i d yid ydp po len q yqu) (ht : t < len) (ha : qc_ax (q t) = true) (hc : c < n)
    (Y : qs_YG q len n g ygv ((qc_tr q t).2.1 + 1)) (LC : qs_LC n d i ynm yvl q len g 0) (hg : ∀ t, t < len → qc_ax (q t) = true → ∀ c, c < n → ∀ y, qb (g (t * 40 + c)) y = true → y < n)
    (h : ∀ li at' ls or' an' no', post (g (t * 40 + c)) (ymo, nI n, yw, nI len, yfo, li, at', ysu, yid, ydp, ynm, yvl, yci, ycd, ypd, yqu, ygv, ls, yrs, or', an', no', yow, ypa)) : wpY_path post (ymo, nI n, yw, nI len, yfo, yli, yat, ysu, yid, ydp, ynm, yvl, yci, ycd, ypd, yqu, ygv, yls, yrs, yor, yan, yno, yow, ypa) (nI t) (nI c) := by
  obtain ⟨B, hl, G, hq, hy⟩ := id H
  have hn := B.1.2
  have done : ∀ k w li at' ls or' an' no', ¬ (k < len ∧ qc_ax (q k) = true) → (∀ y, (if k < len ∧ qc_ax (q k) = true then qs_any (fun x => qb w x && qb (g (k * 40 + x)) y) n else qb w y) = qb (g (t * 40 + c)) y) → post w (ymo, nI n, yw, nI len, yfo, li, at', ysu, yid, ydp, ynm, yvl, yci, ycd, ypd, yqu, ygv, ls, yrs, or', an', no', yow, ypa) := by
    intro k w li at' ls or' an' no' hk hw
    have e : w = g (t * 40 + c) := qb_ext (fun y _ => by have := hw y; rw [if_neg hk] at this; exact this)
    rw [e]; exact h _ _ _ _ _ _
  have key : ∀ f k w li at' ls or' an' no', len - k ≤ f → k ≤ len → (qc_tr q k).2.1 = (qc_tr q t).2.1 →
      (∀ y, (if k < len ∧ qc_ax (q k) = true then qs_any (fun x => qb w x && qb (g (k * 40 + x)) y) n else qb w y) = qb (g (t * 40 + c)) y) →
      wY_path_7 post (f + 1) w (nI k) ymo (nI n) yw (nI len) yfo li at' ysu yid ydp ynm yvl yci ycd ypd yqu ygv ls yrs or' an' no' yow ypa := by
    intro f
    induction f with
    | zero =>
      intro k w li at' ls or' an' no' hf hk hlv hw
      exact br_t (nI_le (by omega) (by omega)) (done k w _ _ _ _ _ _ (by omega) hw)
    | succ f ih =>
      intro k w li at' ls or' an' no' hf hk hlv hw
      refine pk_le len k (fun z => done k w _ _ _ _ _ _ (by omega) hw) (fun z => ⟨vp_in_nI (by omega) (by omega), ?_⟩)
      rw [nI_clamp (n := k) (by omega), hy k z]
      refine qc_yax (qa_br (fun ga => ?_) (fun ga => ?_))
      · exact done k w _ _ _ _ _ _ (fun y => by rw [ga] at y; exact absurd y.2 (by decide)) hw
      · obtain ⟨t1, t2, t3, t4, t5, t6⟩ := qe_se_spec G z ga
        obtain ⟨x1, x2, x3, x4, x5, x6⟩ := qe_axt G z ga
        have b := qe_se_ge q len k
        refine Exists.intro (n + 1) (qs_y37 (set := w) H z ga (by rw [hlv]; exact Y) hg (fun w2 li2 at2 ls2 or2 an2 no2 hw2 => ?_) n 0 0 li at' ls or' an' no' (by omega) (fun y => by rw [qb_0]; rfl))
        refine ih (qe_se q len k) w2 li2 at2 ls2 or2 an2 no2 (by omega) t4 (by rw [t5.2.1, x2]; exact hlv) (fun y => ?_)
        have hwy := hw y
        rw [if_pos ⟨z, ga⟩] at hwy
        rw [← hwy]
        by_cases gs : qc_ax (q (qe_se q len k)) = true
        · have hlt : qe_se q len k < len := by
            refine Nat.lt_of_not_le (fun y => ?_)
            rw [hq _ y (by omega)] at gs
            exact absurd gs (by decide)
          rw [if_pos ⟨hlt, gs⟩]
          refine qs_any_b ?_
          constructor
          · rintro ⟨x, hx, hb⟩
            rw [Bool.and_eq_true, hw2 x, qs_any_iff] at hb
            obtain ⟨⟨v, hv, hb1⟩, hb2⟩ := hb
            rw [Bool.and_eq_true] at hb1
            refine ⟨v, hv, ?_⟩
            rw [Bool.and_eq_true, LC k (by omega) z ga v hv y]
            refine ⟨hb1.1, ?_⟩
            unfold qs_PT
            rw [if_pos gs, qs_any_iff]
            exact ⟨x, hx, by rw [Bool.and_eq_true]; exact ⟨hb1.2, hb2⟩⟩
          · rintro ⟨v, hv, hb⟩
            rw [Bool.and_eq_true, LC k (by omega) z ga v hv y] at hb
            unfold qs_PT at hb
            rw [if_pos gs, qs_any_iff] at hb
            obtain ⟨hb1, x, hx, hb2⟩ := hb
            rw [Bool.and_eq_true] at hb2
            refine ⟨x, hx, ?_⟩
            rw [Bool.and_eq_true, hw2 x, qs_any_iff]
            exact ⟨⟨v, hv, by rw [Bool.and_eq_true]; exact ⟨hb1, hb2.1⟩⟩, hb2.2⟩
        · rw [if_neg (fun y => gs y.2), hw2 y]
          refine qs_any_b ?_
          constructor
          · rintro ⟨v, hv, hb⟩
            rw [Bool.and_eq_true] at hb
            refine ⟨v, hv, ?_⟩
            rw [Bool.and_eq_true, LC k (by omega) z ga v hv y]
            unfold qs_PT
            rw [if_neg gs]
            exact hb
          · rintro ⟨v, hv, hb⟩
            rw [Bool.and_eq_true, LC k (by omega) z ga v hv y] at hb
            unfold qs_PT at hb
            rw [if_neg gs] at hb
            refine ⟨v, hv, ?_⟩
            rw [Bool.and_eq_true]
            exact hb
  refine nm_e (Exists.intro (len - t + 1) (key (len - t) t _ _ _ _ _ _ _ (Nat.le_refl _) (by omega) rfl (fun y => ?_)))
  rw [if_pos ⟨ht, ha⟩, Bool.eq_iff_iff, qs_any_iff]
  constructor
  · rintro ⟨x, hx, hb⟩
    rw [Bool.and_eq_true, qb_shl _ (by omega)] at hb
    have := of_decide_eq_true hb.1
    subst this
    exact hb.2
  · intro hb
    refine ⟨c, hc, ?_⟩
    rw [Bool.and_eq_true, qb_shl _ (by omega)]
    exact ⟨decide_eq_true rfl, hb⟩
/-! Y: inner paths -/
theorem qs_prev {S : qc_St} {t : Int32} (W : qc_W S) (h : (qc_nx S t).1 = 1 ∨ (qc_nx S t).1 = 4) : t = 1 ∨ t = 3 ∨ t = 5 ∨ t = 6 ∨ t = 7 ∨ t = 11 := by
  obtain ⟨s, l, o, pa, ct⟩ := S
  obtain ⟨w1, w2, w3, w4, w5, w6⟩ := W
  have af : (qc_af l o pa ct t).1 = 1 ∨ (qc_af l o pa ct t).1 = 4 → t = 1 ∨ t = 3 ∨ t = 5 ∨ t = 6 ∨ t = 7 ∨ t = 11 := by
    intro h
    unfold qc_af at h
    by_cases g1 : t = 5 ∨ t = 6
    · rcases g1 with z | z
      · exact Or.inr (Or.inr (Or.inl z))
      · exact Or.inr (Or.inr (Or.inr (Or.inl z)))
    · rw [if_neg g1] at h
      by_cases g2 : t = 4 ∧ 0 < pa l
      · rw [if_pos g2] at h; rcases h with h | h <;> exact absurd h (by show ¬ (7 = _); omega)
      · rw [if_neg g2] at h
        by_cases g3 : t = 2 ∧ pa l = 0
        · rw [if_pos g3] at h; rcases h with h | h <;> exact absurd h (by show ¬ (3 = _); omega)
        · rw [if_neg g3] at h; rcases h with h | h <;> exact absurd h (by show ¬ (0 = _); omega)
  have hs : s = 1 ∨ s = 2 ∨ s = 3 ∨ s = 4 ∨ s = 5 ∨ s = 6 ∨ s = 7 := by omega
  rcases hs with rfl | rfl | rfl | rfl | rfl | rfl | rfl
  · rw [qc_nx_1] at h
    by_cases g : qc_ax t = true
    · rw [if_pos g] at h; rcases h with h | h <;> exact absurd h (by show ¬ (2 = _); omega)
    · rw [if_neg g] at h; rcases h with h | h <;> exact absurd h (by show ¬ (0 = _); omega)
  · rw [qc_nx_2] at h
    by_cases g : qc_nm t = true
    · rw [if_pos g] at h; rcases h with h | h <;> exact absurd h (by show ¬ (3 = _); omega)
    · rw [if_neg g] at h; rcases h with h | h <;> exact absurd h (by show ¬ (0 = _); omega)
  · rw [qc_nx_3] at h
    unfold qc_sp at h
    by_cases g : qc_ax t = true
    · rw [if_pos g] at h; rcases h with h | h <;> exact absurd h (by show ¬ (2 = _); omega)
    · rw [if_neg g] at h
      by_cases g1 : t = 1
      · exact Or.inl g1
      · rw [if_neg g1] at h
        by_cases g2 : l = 0
        · rw [if_pos g2] at h; rcases h with h | h <;> exact absurd h (by show ¬ (0 = _); omega)
        · rw [if_neg g2] at h
          by_cases g3 : ct l = true
          · rw [if_pos g3] at h
            by_cases g4 : qc_cp t = true
            · rw [if_pos g4] at h; rcases h with h | h <;> exact absurd h (by show ¬ (6 = _); omega)
            · rw [if_neg g4] at h; rcases h with h | h <;> exact absurd h (by show ¬ (0 = _); omega)
          · rw [if_neg g3] at h; exact af h
  · rw [qc_nx_4] at h
    unfold qc_op at h
    by_cases g1 : t = 7
    · exact Or.inr (Or.inr (Or.inr (Or.inr (Or.inl g1))))
    · rw [if_neg g1] at h
      by_cases g2 : t = 3
      · exact Or.inr (Or.inl g2)
      · rw [if_neg g2] at h
        by_cases g3 : t = 8 ∨ t = 10
        · rw [if_pos g3] at h; rcases h with h | h <;> exact absurd h (by show ¬ (5 = _); omega)
        · rw [if_neg g3] at h
          by_cases g4 : t = 9
          · rw [if_pos g4] at h; rcases h with h | h <;> exact absurd h (by show ¬ (7 = _); omega)
          · rw [if_neg g4] at h
            by_cases g5 : t = 11
            · exact Or.inr (Or.inr (Or.inr (Or.inr (Or.inr g5))))
            · rw [if_neg g5] at h
              by_cases g6 : qc_ax t = true
              · rw [if_pos g6] at h; rcases h with h | h <;> exact absurd h (by show ¬ (2 = _); omega)
              · rw [if_neg g6] at h; rcases h with h | h <;> exact absurd h (by show ¬ (0 = _); omega)
  · rw [qc_nx_5] at h
    by_cases g : qc_cp t = true
    · rw [if_pos g] at h; rcases h with h | h <;> exact absurd h (by show ¬ (6 = _); omega)
    · rw [if_neg g] at h; rcases h with h | h <;> exact absurd h (by show ¬ (0 = _); omega)
  · rw [qc_nx_6] at h
    by_cases g : qc_nu t = true
    · rw [if_pos g] at h; rcases h with h | h <;> exact absurd h (by show ¬ (7 = _); omega)
    · rw [if_neg g] at h; rcases h with h | h <;> exact absurd h (by show ¬ (0 = _); omega)
  · rw [qc_nx_7] at h; exact af h
theorem qs_y95 {t D : Nat} {x1 x2 : Int32} {post : SY → Prop} {J : Int32 → Int32 → Int32 → Int32 → Int32 → Int32 → Int32 → Int32 → Int32 → Int64 → (Nat → Int32) → (Nat → Int32) → (Nat → Int32) → (Nat → Int32) → (Nat → Int32) → (Nat → Int32) → (Nat → Int32) → (Nat → Int32) → (Nat → Int64) → (Nat → Int32) → (Nat → Int32) → (Nat → Int32) → (Nat → Int32) → (Nat → Int32) → (Nat → Int32) → (Nat → Int32) → Prop} (H : qs_HY n i d yid ydp po len q yqu) (ht : t < len) (ha : qc_ax (q t) = true) (hD : (qc_tr q t).2.1 = D)
    (LC : qs_LC n d i ynm yvl q len g 0) (hg : ∀ t, t < len → qc_ax (q t) = true → ∀ c, c < n → ∀ y, qb (g (t * 40 + c)) y = true → y < n) (A : Nat → Prop)
    (h : ∀ li at' gv ls or' an' no', (∀ j, A j → gv j = g j) → (∀ c, c < n → gv (t * 40 + c) = g (t * 40 + c)) → qs_YG q len n g gv (D + 1) → J x2 (nI (t + 1)) ymo (nI n) yw (nI len) yfo li at' ysu yid ydp ynm yvl yci ycd ypd yqu gv ls yrs or' an' no' yow ypa) :
    ∀ f c li at' gv ls or' an' no', c + f = n → (∀ j, A j → gv j = g j) → (∀ c', c' < c → gv (t * 40 + c') = g (t * 40 + c')) → qs_YG q len n g gv (D + 1) →
    wY_inner_95 post J x1 x2 (nI t) (f + 1) (nI c) ymo (nI n) yw (nI len) yfo li at' ysu yid ydp ynm yvl yci ycd ypd yqu gv ls yrs or' an' no' yow ypa := by
  have hn := H.1.1.2
  have hl := H.2.1
  intro f
  induction f with
  | zero =>
    intro c li at' gv ls or' an' no' e hA hr Y
    have e : c = n := by omega
    subst e
    exact br_t (nI_le (by omega) (by omega)) (nm_r (nI_1 t) (h _ _ _ _ _ _ _ hA hr Y))
  | succ f ih =>
    intro c li at' gv ls or' an' no' e hA hr Y
    refine br_f (nI_ge (by omega) (by omega)) (qs_ypa H ht ha (by omega) (by rw [hD]; exact Y) LC hg (fun li2 at2 ls2 or2 an2 no2 => ?_))
    rw [qs_ix]
    refine ⟨vp_in_nI (by omega) (by omega), fun a ea => nm_r (nI_1 c) ?_⟩
    rw [nI_clamp (by omega)] at ea
    have keep : ∀ j, gv j = g j → a j = g j := by
      intro j hj
      rw [ea]
      by_cases e2 : j = t * 40 + c
      · rw [e2, pk_uLs]
      · rw [pk_uLn e2]; exact hj
    refine ih (c + 1) li2 at2 a ls2 or2 an2 no2 (by omega) (fun j hj => keep j (hA j hj)) (fun c' hc' => ?_) (fun t' h1 h2 h3 h4 c' hc' => keep _ (Y t' h1 h2 h3 h4 c' hc'))
    by_cases e2 : c' = c
    · rw [ea, e2, pk_uLs]
    · exact keep _ (hr c' (by omega))
end
end
section
section
variable {ymo : Int32} {yn : Int32} {yw : Int32} {yle : Int32} {yfo : Int32} {yli : Int32} {yat : Int32} {ysu : Int64} {yid : (Nat → Int32)} {ydp : (Nat → Int32)} {ynm : (Nat → Int32)} {yvl : (Nat → Int32)} {yci : (Nat → Int32)} {ycd : (Nat → Int32)} {ypd : (Nat → Int32)} {yqu : (Nat → Int32)} {ygv : (Nat → Int64)} {yls : (Nat → Int32)} {yrs : (Nat → Int32)} {yor : (Nat → Int32)} {yan : (Nat → Int32)} {yno : (Nat → Int32)} {yow : (Nat → Int32)} {ypa : (Nat → Int32)}
variable {n len : Nat} {i d : Nat → Nat} {po q : Nat → Int32} {g : Nat → Int64}
theorem qs_yin {D : Nat} {post : SY → Prop} (H : qs_HY n i d yid ydp po len q yqu) (h0 : 0 < len) (hD0 : 1 ≤ D) (hD : D ≤ 3) (LC : qs_LC n d i ynm yvl q len g 0) (hg : ∀ t, t < len → qc_ax (q t) = true → ∀ c, c < n → ∀ y, qb (g (t * 40 + c)) y = true → y < n)
    (Y : qs_YG q len n g ygv (D + 1)) (h : ∀ li at' gv ls or' an' no', qs_YG q len n g gv D → post (ymo, nI n, yw, nI len, yfo, li, at', ysu, yid, ydp, ynm, yvl, yci, ycd, ypd, yqu, gv, ls, yrs, or', an', no', yow, ypa)) :
    wpY_inner post (ymo, nI n, yw, nI len, yfo, yli, yat, ysu, yid, ydp, ynm, yvl, yci, ycd, ypd, yqu, ygv, yls, yrs, yor, yan, yno, yow, ypa) (nI D) := by
  obtain ⟨B, hl, G, hq, hy⟩ := id H
  have hn := B.1.2
  have key : ∀ f t li at' gv ls or' an' no', t + f = len → 1 ≤ t → qs_YG q len n g gv (D + 1) → (∀ t', t' < t → qc_ax (q t') = true → ((qc_tr q t').1 = 1 ∨ (qc_tr q t').1 = 4) → (qc_tr q t').2.1 = D → ∀ c, c < n → gv (t' * 40 + c) = g (t' * 40 + c)) →
      wY_inner_4 post (nI D) (f + 1) (nI (qc_tr q t).2.1) (nI t) ymo (nI n) yw (nI len) yfo li at' ysu yid ydp ynm yvl yci ycd ypd yqu gv ls yrs or' an' no' yow ypa := by
    intro f
    induction f with
    | zero =>
      intro t li at' gv ls or' an' no' e ht Y hr
      refine br_t (nI_le (by omega) (by omega)) (h _ _ _ _ _ _ _ (fun t' h1 h2 h3 h4 c hc => ?_))
      by_cases e2 : (qc_tr q t').2.1 = D
      · exact hr t' (by omega) h2 h3 e2 c hc
      · exact Y t' h1 h2 h3 (by omega) c hc
    | succ f ih =>
      intro t li at' gv ls or' an' no' e ht Y hr
      have it : vp_in (nI t) 40 := vp_in_nI (by omega) (by omega)
      have et : yqu (nI t).toNatClampNeg = q t := by rw [nI_clamp (by omega)]; exact hy t (by omega)
      have st := qe_st G (show t < len by omega)
      have W := qe_W (k := t) G (by omega)
      have W' := qe_W (k := t + 1) G (by omega)
      have w3 : (qc_tr q t).2.1 ≤ 3 := W.2.2.1
      have w3' : (qc_tr q (t + 1)).2.1 ≤ 3 := W'.2.2.1
      have em : nI t - 1 = nI (t - 1) := pk_sub (a := t) (b := 1) ht
      have im : vp_in (nI t - 1) 40 := by rw [em]; exact vp_in_nI (by omega) (by omega)
      have eqm : yqu (nI t - 1).toNatClampNeg = q (t - 1) := by rw [em, nI_clamp (by omega)]; exact hy (t - 1) (by omega)
      have skip : (¬ (qc_ax (q t) = true ∧ ((qc_tr q t).1 = 1 ∨ (qc_tr q t).1 = 4) ∧ (qc_tr q t).2.1 = D)) → wY_inner_4 post (nI D) (f + 1) (nI (qc_tr q (t + 1)).2.1) (nI (t + 1)) ymo (nI n) yw (nI len) yfo li at' ysu yid ydp ynm yvl yci ycd ypd yqu gv ls yrs or' an' no' yow ypa := by
        intro z
        refine ih (t + 1) _ _ _ _ _ _ _ (by omega) (by omega) Y (fun t' h1 h2 h3 h4 => ?_)
        by_cases e2 : t' = t
        · subst e2; exact absurd ⟨h2, h3, h4⟩ z
        · exact hr t' (by omega) h2 h3 h4
      have prev : ((qc_tr q t).1 = 1 ∨ (qc_tr q t).1 = 4) → ¬ (40 : Int32) ≤ q (t - 1) ∧ q (t - 1) ≠ 2 := by
        intro z
        have ez : qc_tr q t = qc_nx (qc_tr q (t - 1)) (q (t - 1)) := by
          obtain ⟨u, rfl⟩ : ∃ u, t = u + 1 := ⟨t - 1, by omega⟩
          rfl
        rw [ez] at z
        rcases qs_prev (qe_W (k := t - 1) G (by omega)) z with y | y | y | y | y | y <;> (rw [y]; decide)
      have p38 : wY_inner_38 post (wY_inner_4 post (nI D) (f + 1)) (nI D) (nI (qc_tr q (t + 1)).2.1) (nI t) ymo (nI n) yw (nI len) yfo li at' ysu yid ydp ynm yvl yci ycd ypd yqu gv ls yrs or' an' no' yow ypa := by
        refine And.intro it ?_
        rw [et]
        refine qc_yax (qa_br (fun ga => ?_) (fun ga => ?_))
        · exact br_t rfl (nm_r (nI_1 t) (skip (fun z => by rw [ga] at z; exact absurd z.1 (by decide))))
        · obtain ⟨x1, x2, x3, x4, x5, x6⟩ := qe_axt G (show t < len by omega) ga
          refine ⟨im, ?_⟩
          rw [eqm]
          by_cases g40 : (40 : Int32) ≤ q (t - 1)
          · exact br_t g40 (br_t rfl (nm_r (nI_1 t) (skip (fun z => (prev z.2.1).1 g40))))
          · refine br_f g40 ⟨im, ?_⟩
            by_cases g2 : q (t - 1) = 2
            · exact br_t g2 (br_t rfl (nm_r (nI_1 t) (skip (fun z => (prev z.2.1).2 g2))))
            · refine br_f g2 (br_f (by decide) ?_)
              refine pk_eq (qc_tr q (t + 1)).2.1 D (fun gd => ?_) (fun gd => ?_)
              · refine Exists.intro (n + 1) (qs_y95 H (show t < len by omega) ga (by omega) LC hg (fun j => gv j = g j) (fun li2 at2 gv2 ls2 or2 an2 no2 hA hrow Y2 => ?_) n 0 li at' gv ls or' an' no' (by omega) (fun j hj => hj) (fun c' hc' => by omega) Y)
                refine ih (t + 1) _ _ _ _ _ _ _ (by omega) (by omega) Y2 (fun t' h1 h2 h3 h4 c hc => ?_)
                by_cases e2 : t' = t
                · rw [e2]; exact hrow c hc
                · exact hA _ (hr t' (by omega) h2 h3 h4 c hc)
              · exact nm_r (nI_1 t) (skip (fun z => gd (by omega)))
      refine br_f (nI_ge (by omega) (by omega)) ⟨it, ?_⟩
      rw [et]
      by_cases g1 : q t = 1
      · have s := st.1 g1
        refine br_t g1 (nm_r (e' := nI (qc_tr q (t + 1)).2.1) (by rw [nI_1, s.2.2.1]) ⟨it, ?_⟩)
        rw [et]
        exact br_f (by rw [g1]; decide) p38
      · refine br_f g1 ⟨it, ?_⟩
        rw [et]
        by_cases g2 : q t = 2
        · have s := st.2.1 g2
          refine br_t g2 (nm_r (e' := nI (qc_tr q (t + 1)).2.1) ?_ p38)
          rw [sb_m1 (p := (qc_tr q t).2.1) (by omega)]
          congr 1
          omega
        · have s := st.2.2.1 g1 g2
          rw [s] at p38
          exact br_f g2 p38
  have l1 : (qc_tr q 1).2.1 = 0 := by
    have W := qe_nz (k := 1) G (by omega)
    have e : qc_tr q 1 = qc_nx (1, 0, 0, (fun _ => 0), (fun _ => false)) (q 0) := rfl
    rw [e, qc_nx_1]
    split <;> rfl
  have c := key (len - 1) 1 yli yat ygv yls yor yan yno (by omega) (Nat.le_refl _) Y (fun t' h1 h2 h3 h4 => by
    have : t' = 0 := by omega
    subst this
    have : (qc_tr q 0).2.1 = 0 := rfl
    omega)
  rw [l1] at c
  exact Exists.intro _ c
theorem qs_y56 {w : Int64} {post : Int32 → SY → Prop} (hn : n ≤ 40) (hi : ∀ r, r < n → yid r = nI (i r) ∧ i r < 40)
    (h : post (nI (qs_K yid yvl w yrs n).1) (ymo, nI n, yw, yle, nI (qs_K yid yvl w yrs n).1, yli, yat, (qs_K yid yvl w yrs n).2.1, yid, ydp, ynm, yvl, yci, ycd, ypd, yqu, ygv, yls, (qs_K yid yvl w yrs n).2.2, yor, yan, yno, yow, ypa)) : ∃ f, wY_select_56 post w ymo (nI n) yw yle yli yat f 0 0 0 yid ydp ynm yvl yci ycd ypd yqu ygv yls yrs yor yan yno yow ypa := by
  have key : ∀ f j, j + f = n → wY_select_56 post w ymo (nI n) yw yle yli yat (f + 1) (nI j) (nI (qs_K yid yvl w yrs j).1) (qs_K yid yvl w yrs j).2.1 yid ydp ynm yvl yci ycd ypd yqu ygv yls ((qs_K yid yvl w yrs j).2.2) yor yan yno yow ypa := by
    intro f
    induction f with
    | zero =>
      intro j e
      have e : j = n := by omega
      subst e
      exact br_t (nI_le (by omega) (by omega)) h
    | succ f ih =>
      intro j e
      have c := ih (j + 1) (by omega)
      have hle := qs_K_le yid yvl w yrs j
      have hij := hi j (by omega)
      have ej : (nI j).toNatClampNeg = j := nI_clamp (by omega)
      simp only [qs_K] at c
      refine br_f (nI_ge (by omega) (by omega)) (qb_br (by omega) (fun z => ?_) (fun z => ?_))
      · rw [z] at c
        exact nm_r (nI_1 j) c
      · rw [z, if_pos rfl] at c
        refine nm_r (nI_1 _) ⟨vp_in_nI (by omega) (by omega), vp_in_nI (by omega) (by omega), fun a ea => ⟨vp_in_nI (by omega) (by omega), by rw [ej, hij.1]; exact vp_in_nI hij.2 (by omega), fun b eb => nm_r (nI_1 j) ?_⟩⟩
        rw [ej, nI_clamp (by omega)] at ea
        rw [ej] at eb
        subst ea; subst eb
        exact c
  exact ⟨_, key n 0 (by omega)⟩
theorem qs_ysl {r : Nat} {post : Int32 → SY → Prop} (H : qs_HY n i d yid ydp po len q yqu) (hr : r < n) (h0 : 0 < len) (LC : qs_LC n d i ynm yvl q len g 0)
    (h : ∀ li at' gv ls or' an' no', post (nI (qs_K yid yvl (g r) yrs n).1) (ymo, nI n, yw, nI len, nI (qs_K yid yvl (g r) yrs n).1, li, at', (qs_K yid yvl (g r) yrs n).2.1, yid, ydp, ynm, yvl, yci, ycd, ypd, yqu, gv, ls, (qs_K yid yvl (g r) yrs n).2.2, or', an', no', yow, ypa)) :
    wpY_select post (ymo, nI n, yw, nI len, yfo, yli, yat, ysu, yid, ydp, ynm, yvl, yci, ycd, ypd, yqu, ygv, yls, yrs, yor, yan, yno, yow, ypa) (nI (i r)) := by
  obtain ⟨B, hl, G, hq, hy⟩ := id H
  have hn := B.1.2
  have hg : ∀ t, t < len → qc_ax (q t) = true → ∀ c, c < n → ∀ y, qb (g (t * 40 + c)) y = true → y < n := fun t ht ha => qs_LC_lt G LC hq hl _ t (Nat.le_refl _) (by omega) ht ha
  have a0 : qc_ax (q 0) = true := by
    have W := qe_nz (k := 1) G (by omega)
    have e : qc_tr q 1 = qc_nx (1, 0, 0, (fun _ => 0), (fun _ => false)) (q 0) := rfl
    rw [e, qc_nx_1] at W
    by_cases z : qc_ax (q 0) = true
    · exact z
    · rw [if_neg z] at W; exact absurd rfl W
  have key : ∀ k li at' gv ls or' an' no', k ≤ 3 → qs_YG q len n g gv (k + 1) → wY_select_21 post (nI r) (k + 1) (nI k) ymo (nI n) yw (nI len) yfo li at' ysu yid ydp ynm yvl yci ycd ypd yqu gv ls yrs or' an' no' yow ypa := by
    intro k
    induction k with
    | zero =>
      intro li at' gv ls or' an' no' _ Y
      refine br_t (by decide) (qs_ypa (t := 0) (c := r) H h0 a0 hr Y LC hg (fun li2 at2 ls2 or2 an2 no2 => ?_))
      rw [show 0 * 40 + r = r by omega]
      exact qs_y56 hn B.2.1 (h _ _ _ _ _ _ _)
    | succ k ih =>
      intro li at' gv ls or' an' no' hk Y
      refine br_f (nI_nle (by omega) (by omega)) (qs_yin (D := k + 1) H h0 (by omega) hk LC hg Y (fun li2 at2 gv2 ls2 or2 an2 no2 Y2 => nm_r (pk_m1 k) ?_))
      exact ih li2 at2 gv2 ls2 or2 an2 no2 (by omega) Y2
  unfold wpY_select
  dsimp only
  refine qr_hY B hr (br_f (nI_pos (by omega)) (br_f (nI_ne0 h0 (by omega)) (Exists.intro 4 ?_)))
  refine key 3 yli yat ygv yls yor yan yno (Nat.le_refl _) (fun t h1 h2 h3 h4 => ?_)
  have W := qe_W (k := t) G (by omega)
  have w3 : (qc_tr q t).2.1 ≤ 3 := W.2.2.1
  omega
end
end
section
theorem i_vc_select {k : Nat} {u : SX} {v : SY} (I : i_Rel k u v) (hk : k + 5 ≤ 2561) (v1 : Int32) : wpX_select (fun r u' => wpY_select (fun r' v' => r' = r ∧ i_Rel (k + 5) u' v') v v1) u v1 := by
  have I0 := I
  obtain ⟨L, n, w, len, fd, i, d, xlv, xop, sm, id, po, nm, vl, mv, rk, pt, sz, pd, xpa, xct, qx, co, se, pe, xgv, xan, xal, xng, rs, yli, yat, dp, yci, ycd, qy, ygv, yls, yor, yan, yno, yow, ypa, rfl, rfl, hL, hw, hf, B, N, Q⟩ := I
  have hn := B.1.2
  have Q0 := Q
  obtain ⟨q1, q2, q3, q4, q5, q6⟩ := Q0
  rcases qr_node (n := n) i v1 with ⟨r, hr, rfl⟩ | hm
  · by_cases h0 : len = 0
    · subst h0
      unfold wpX_select wpY_select
      dsimp only
      refine qr_hX B N hr (br_f (by decide) (br_t (by decide) (qr_hY B hr (br_f (nI_pos (by omega)) (br_t (by decide) ⟨rfl, I0⟩)))))
    · have G : qe_G qx len := q4 (by omega)
      have H : qs_H n i d id dp po rk pt sz len qx co se pe := ⟨B, N, q1, G, q3, q5, q6⟩
      refine qs_xsl H hr (by omega) (fun gv an al ng LC => ?_)
      have HY : qs_HY n i d id dp po len qx qy := ⟨B, q1, G, q3, q2⟩
      refine qs_ysl HY hr (by omega) LC (fun li at' gv' ls or' an' no' => ⟨rfl, ?_⟩)
      have hle := qs_K_le id vl (gv r) rs n
      exact qr_mk hL hw (by omega) B N Q
  · unfold wpX_select wpY_select
    dsimp only
    exact qr_mX N hm (br_t (by decide) (qr_mY B hm (br_t (by decide) ⟨rfl, I0⟩)))
end
