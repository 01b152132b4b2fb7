/-! longs by their bits -/
def qb (x : Int64) (i : Nat) : Bool := x.toBitVec.getLsbD i
theorem qb_ext {x y : Int64} (h : ∀ i, i < 64 → qb x i = qb y i) : x = y := Int64.toBitVec_inj.mp (BitVec.eq_of_getLsbD_eq (fun i hi => h i hi))
theorem qb_or (x y : Int64) (i : Nat) : qb (x ||| y) i = (qb x i || qb y i) := by unfold qb; rw [Int64.toBitVec_or, BitVec.getLsbD_or]
theorem qb_and (x y : Int64) (i : Nat) : qb (x &&& y) i = (qb x i && qb y i) := by unfold qb; rw [Int64.toBitVec_and, BitVec.getLsbD_and]
theorem qb_xor (x y : Int64) (i : Nat) : qb (x ^^^ y) i = (qb x i ^^ qb y i) := by unfold qb; rw [Int64.toBitVec_xor, BitVec.getLsbD_xor]
theorem qb_big {x : Int64} {i : Nat} (h : 64 ≤ i) : qb x i = false := BitVec.getLsbD_of_ge _ _ h
theorem qb_0 (i : Nat) : qb 0 i = false := BitVec.getLsbD_zero
theorem qb_m1 : ∀ i, i < 64 → qb (-1) i = true := by decide +kernel
theorem qb_not (x : Int64) {i : Nat} (h : i < 64) : qb (x ^^^ (-1)) i = !qb x i := by rw [qb_xor, qb_m1 i h]; cases qb x i <;> rfl
theorem qb_1' : ∀ i, i < 64 → qb 1 i = decide (i = 0) := by decide +kernel
theorem qb_1 (i : Nat) : qb 1 i = decide (i = 0) := by
  rcases Nat.lt_or_ge i 64 with h | h
  · exact qb_1' i h
  · rw [qb_big h, decide_eq_false (by omega)]
theorem qb_cnt : ∀ n, n < 64 → (((nI n).toInt64 &&& 63).toBitVec.smod 64).toNat = n := by decide +kernel
theorem qb_shl (r : Nat) (hr : r < 64) (i : Nat) : qb ((1 : Int64) <<< ((nI r).toInt64 &&& 63)) i = decide (i = r) := by
  rcases Nat.lt_or_ge i 64 with h | h
  · unfold qb
    rw [Int64.toBitVec_shiftLeft]
    show ((1 : Int64).toBitVec <<< (((nI r).toInt64 &&& 63).toBitVec.smod 64).toNat).getLsbD i = _
    rw [qb_cnt r hr, BitVec.getLsbD_shiftLeft]
    have e : (1 : Int64).toBitVec.getLsbD (i - r) = decide (i - r = 0) := qb_1 (i - r)
    rw [e]
    by_cases g : i = r
    · subst g; simp [h]
    · by_cases g2 : i < r
      · simp [g2, g]
      · rw [decide_eq_false (show ¬ i - r = 0 by omega), decide_eq_false g]; simp
  · rw [qb_big h, decide_eq_false (by omega)]
theorem qb_shr (x : Int64) (r : Nat) (hr : r < 64) : qb (x >>> ((nI r).toInt64 &&& 63)) 0 = qb x r := by
  unfold qb
  rw [Int64.toBitVec_shiftRight]
  show (x.toBitVec.sshiftRight (((nI r).toInt64 &&& 63).toBitVec.smod 64).toNat).getLsbD 0 = _
  rw [qb_cnt r hr, BitVec.getLsbD_sshiftRight]
  simp [hr]
theorem qb_and1 (y : Int64) : y &&& 1 = if qb y 0 then 1 else 0 := by
  refine qb_ext (fun i hi => ?_)
  rw [qb_and, qb_1]
  by_cases g : i = 0
  · subst g
    cases h : qb y 0
    · rw [if_neg (by decide), qb_0]; rfl
    · rw [if_pos rfl, qb_1]; rfl
  · rw [decide_eq_false g, Bool.and_false]
    cases h : qb y 0
    · rw [if_neg (by decide), qb_0]
    · rw [if_pos rfl, qb_1, decide_eq_false g]
theorem qb_has (x : Int64) (r : Nat) (hr : r < 64) : ((x >>> ((nI r).toInt64 &&& 63)) &&& 1) = 0 ↔ qb x r = false := by
  rw [qb_and1, qb_shr x r hr]
  cases qb x r <;> decide
theorem qb_i32 (x : Int64) (r : Nat) (hr : r < 64) : (((x >>> ((nI r).toInt64 &&& 63)) &&& 1).toInt32) = qa_b (qb x r) := by
  rw [qb_and1, qb_shr x r hr]
  cases qb x r <;> decide
/-- a branch on a bit -/
theorem qb_br {x : Int64} {r : Nat} {A B : Prop} (hr : r < 64) (f : qb x r = false → A) (g : qb x r = true → B) : (((x >>> ((nI r).toInt64 &&& 63)) &&& 1) = 0 → A) ∧ (¬ ((x >>> ((nI r).toInt64 &&& 63)) &&& 1) = 0 → B) := by
  refine br_c (fun z => f ((qb_has x r hr).mp z)) (fun z => g ?_)
  rw [← Bool.not_eq_false]
  exact fun h => z ((qb_has x r hr).mpr h)
theorem qb_z {x : Int64} : x = 0 ↔ ∀ i, i < 64 → qb x i = false :=
  ⟨fun h i _ => by rw [h, qb_0], fun h => qb_ext (fun i hi => by rw [h i hi, qb_0])⟩
/-! counting bits -/
theorem qt_cn_front (C : Nat → Bool) : ∀ N, qt_cn C (N + 1) = (if C 0 then 1 else 0) + qt_cn (fun i => C (i + 1)) N := by
  intro N
  induction N with
  | zero => simp only [qt_cn]; omega
  | succ N ih =>
    rw [show qt_cn C (N + 1 + 1) = qt_cn C (N + 1) + (if C (N + 1) then 1 else 0) from rfl, ih]
    simp only [qt_cn]; omega
theorem qt_cn_c {C C' : Nat → Bool} : ∀ N, (∀ i, i < N → C i = C' i) → qt_cn C N = qt_cn C' N := by
  intro N
  induction N with
  | zero => intro _; rfl
  | succ N ih => intro h; simp only [qt_cn]; rw [ih (fun i hi => h i (by omega)), h N (by omega)]
theorem qt_cn_hi {C : Nat → Bool} (M : Nat) : ∀ N, M ≤ N → (∀ i, M ≤ i → i < N → C i = false) → qt_cn C N = qt_cn C M := by
  intro N
  induction N with
  | zero => intro h _; rw [show M = 0 by omega]
  | succ N ih =>
    intro h hc
    by_cases e : M = N + 1
    · rw [e]
    · simp only [qt_cn]
      rw [ih (by omega) (fun i h1 h2 => hc i h1 (by omega)), hc N (by omega) (by omega)]; rfl
theorem qb_kn : ∀ N a, 0 < a → a < 2 ^ N → qt_cn (fun i => (a &&& (a - 1)).testBit i) N + 1 = qt_cn (fun i => a.testBit i) N := by
  intro N
  induction N with
  | zero => intro a h1 h2; omega
  | succ N ih =>
    intro a h1 h2
    rw [qt_cn_front, qt_cn_front]
    have es : ∀ i, (a &&& (a - 1)).testBit (i + 1) = (a / 2 &&& (a - 1) / 2).testBit i := by
      intro i
      rw [Nat.testBit_and, Nat.testBit_and, Nat.testBit_succ, Nat.testBit_succ]
    have e2 : (fun i => (a &&& (a - 1)).testBit (i + 1)) = (fun i => (a / 2 &&& (a - 1) / 2).testBit i) := funext es
    have e3 : (fun i => a.testBit (i + 1)) = (fun i => (a / 2).testBit i) := funext (fun i => Nat.testBit_succ ..)
    rw [e2, e3]
    have b0 : (a &&& (a - 1)).testBit 0 = false := by
      rw [Nat.testBit_and, Nat.testBit_zero, Nat.testBit_zero]
      by_cases g : a % 2 = 1
      · rw [decide_eq_false (show ¬ (a - 1) % 2 = 1 by omega), Bool.and_false]
      · rw [decide_eq_false g, Bool.false_and]
    rw [b0, Nat.testBit_zero]
    by_cases g : a % 2 = 1
    · rw [decide_eq_true g, show (a - 1) / 2 = a / 2 by omega, Nat.and_self]
      simp only [if_true, Bool.false_eq_true, if_false]; omega
    · rw [decide_eq_false g, show (a - 1) / 2 = a / 2 - 1 by omega]
      have := ih (a / 2) (by omega) (by rw [Nat.pow_succ] at h2; omega)
      simp only [Bool.false_eq_true, if_false]; omega
theorem qb_lN {a : Nat} (h : a < 2 ^ 64) (i : Nat) : qb (lN a) i = a.testBit i := by
  unfold qb
  show (BitVec.ofNat 64 a).getLsbD i = _
  rw [BitVec.getLsbD_ofNat]
  by_cases g : i < 64
  · rw [decide_eq_true g, Bool.true_and]
  · rw [decide_eq_false g, Bool.false_and, Nat.testBit_lt_two_pow (Nat.lt_of_lt_of_le h (Nat.pow_le_pow_right (by omega) (by omega)))]
theorem qb_pop {x : Int64} (h : x ≠ 0) : qt_cn (qb (x &&& (x - 1))) 64 + 1 = qt_cn (qb x) 64 := by
  obtain ⟨a, ha, rfl⟩ := wb_of x
  have h0 : 0 < a := by
    refine Nat.pos_of_ne_zero (fun z => h ?_)
    rw [z]; rfl
  have e1 : lN a - 1 = lN (a - 1) := lN_sub (a := a) (b := 1) (by omega)
  rw [e1, wb_and ha (by omega)]
  have k := qb_kn 64 a h0 ha
  have hand : a &&& (a - 1) < 2 ^ 64 := Nat.lt_of_le_of_lt Nat.and_le_left ha
  rw [show qb (lN (a &&& (a - 1))) = (fun i => (a &&& (a - 1)).testBit i) from funext (qb_lN hand), show qb (lN a) = (fun i => a.testBit i) from funext (qb_lN ha)]
  exact k
theorem qs_ysz {x : Int64} {post : Int32 → Prop} (hx : ∀ i, 40 ≤ i → qb x i = false) (h : post (nI (qt_cn (qb x) 40))) : wpY_sizeOf post x := by
  have key : ∀ k c x, qt_cn (qb x) 64 = k → post (nI (c + k)) → wY_sizeOf_4 post (k + 1) (nI c) x := by
    intro k
    induction k with
    | zero =>
      intro c x hk hp
      have hz : x = 0 := by
        refine Classical.byContradiction (fun g => ?_)
        have := qb_pop g
        omega
      exact br_t hz hp
    | succ k ih =>
      intro c x hk hp
      have hz : ¬ x = 0 := by
        intro g
        rw [g, qt_cn_0 _ 64 (fun i _ => qb_0 i)] at hk
        omega
      refine br_f hz (nm_r (nI_1 c) (nm_e (ih (c + 1) _ ?_ ?_)))
      · have := qb_pop hz; omega
      · rw [show c + 1 + k = c + (k + 1) by omega]; exact hp
  refine Exists.intro _ (key _ 0 x rfl ?_)
  rw [Nat.zero_add, qt_cn_hi 40 64 (by omega) (fun i h1 _ => hx i h1)]; exact h
section
variable {xlim : Int32} {xn : Int32} {xpc : Int32} {xlv : Int32} {xop : Int32} {xql : Int32} {xrc : Int32} {xrt : Int64} {xod : (Nat → Int32)} {xpo : (Nat → Int32)} {xnm : (Nat → Int32)} {xvl : (Nat → Int32)} {xmv : (Nat → Int32)} {xrk : (Nat → Int32)} {xpt : (Nat → Int32)} {xsz : (Nat → Int32)} {xpd : (Nat → Int32)} {xpa : (Nat → Int32)} {xct : (Nat → Int32)} {xqu : (Nat → Int32)} {xco : (Nat → Int32)} {xse : (Nat → Int32)} {xpe : (Nat → Int32)} {xgv : (Nat → Int64)} {xan : (Nat → Int64)} {xal : (Nat → Int64)} {xng : (Nat → Int32)} {xrs : (Nat → Int32)}
theorem qs_xbc {x : Int64} {post : Int32 → Prop} (h : post (nI (qt_cn (qb x) 40))) : wpX_bitCount post (xlim, xn, xpc, xlv, xop, xql, xrc, xrt, xod, xpo, xnm, xvl, xmv, xrk, xpt, xsz, xpd, xpa, xct, xqu, xco, xse, xpe, xgv, xan, xal, xng, xrs) x := by
  have key : ∀ k r, r + k = 40 → wX_bitCount_5 post x xlim xn xpc xlv xop xql xrc xrt xod xpo xnm xvl xmv xrk xpt xsz xpd xpa xct xqu xco xse xpe xgv xan xal xng xrs (k + 1) (nI (qt_cn (qb x) r)) (nI r) := by
    intro k
    induction k with
    | zero =>
      intro r e
      have e : r = 40 := by omega
      subst e
      exact br_t (by decide) h
    | succ k ih =>
      intro r e
      refine br_f (nI_ge (b := 40) (by omega) (by omega)) (nm_r (e' := nI (qt_cn (qb x) (r + 1))) ?_ (nm_r (nI_1 r) (ih (r + 1) (by omega))))
      rw [qb_i32 x r (by omega)]
      simp only [qt_cn]
      rw [← nI_add]
      cases qb x r <;> rfl
  exact Exists.intro _ (key 40 0 (by omega))
theorem qs_xhas {x : Int64} {r : Nat} {post : Int32 → Prop} (hr : r < 64) (h : post (qa_b (qb x r))) : wpX_has post (xlim, xn, xpc, xlv, xop, xql, xrc, xrt, xod, xpo, xnm, xvl, xmv, xrk, xpt, xsz, xpd, xpa, xct, xqu, xco, xse, xpe, xgv, xan, xal, xng, xrs) x (nI r) := by
  refine qb_br hr (fun g => ?_) (fun g => ?_)
  · rw [g] at h; exact h
  · rw [g] at h; exact h
end
/-! order along an axis: forward or in reverse -/
def qs_rho (n : Nat) (rv : Bool) (k : Nat) : Nat := if rv then n - 1 - k else k
theorem qs_rho_lt {n : Nat} {rv : Bool} {k : Nat} (h : k < n) : qs_rho n rv k < n := by unfold qs_rho; split <;> omega
theorem qs_rho_2 {n : Nat} {rv : Bool} {k : Nat} (h : k < n) : qs_rho n rv (qs_rho n rv k) = k := by unfold qs_rho; split <;> omega
def qs_pos (n : Nat) (rv : Bool) (S : Nat → Bool) (x : Nat) : Nat := qt_cn (fun k => S (qs_rho n rv k)) (qs_rho n rv x + 1)
theorem qs_card (n : Nat) (rv : Bool) (S : Nat → Bool) : qt_cn (fun k => S (qs_rho n rv k)) n = qt_cn S n := by
  cases rv
  · rfl
  · have key : ∀ j, j ≤ n → qt_cn (fun k => S (qs_rho n true k)) j + qt_cn S (n - j) = qt_cn S n := by
      intro j
      induction j with
      | zero => intro _; simp only [qt_cn]; rw [Nat.sub_zero]; omega
      | succ j ih =>
        intro hj
        have a := ih (by omega)
        have e : n - j = (n - (j + 1)) + 1 := by omega
        rw [e] at a
        simp only [qt_cn] at a ⊢
        have er : qs_rho n true j = n - (j + 1) := by unfold qs_rho; rw [if_pos rfl]; omega
        simp only [er]
        omega
    have := key n (Nat.le_refl _)
    rw [Nat.sub_self] at this
    exact this
