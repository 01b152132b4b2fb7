/-! what a query means, over a table g of what the paths behind give -/
def qs_cmp (q : Nat → Int32) (t : Nat) (v : Int32) : Bool := if q t = 12 then decide (¬ q (t + 1) - 2000 ≤ v) else if q t = 13 then decide (v = q (t + 1) - 2000) else decide (¬ v ≤ q (t + 1) - 2000)
def qs_AV (q : Nat → Int32) (len : Nat) (i : Nat → Nat) (vl : Nat → Int32) (g : Nat → Int64) (k x p m : Nat) : Bool :=
  if q k = 8 then qs_cmp q (k + 1) (nI p) else if q k = 9 then decide (p = m) else if q k = 10 then qs_cmp q (k + 1) (vl (i x))
  else if q k = 11 then qs_cmp q (qe_pe q len (k + 1)) (nI (qt_cn (qb (g ((k + 1) * 40 + x))) 40)) else decide (g (k * 40 + x) ≠ 0)
def qs_PE (q : Nat → Int32) (len : Nat) (i : Nat → Nat) (vl : Nat → Int32) (g : Nat → Int64) (x p m : Nat) : Nat → Nat → Nat → (Nat → Bool) → (Nat → Bool) → (Nat → Bool) → Bool
  | 0, _, _, _, _, _ => false
  | f + 1, k, lv, ors, ands, nots =>
    if q k = 2 then (ors 0 || ands 0)
    else if q k = 3 then qs_PE q len i vl g x p m f (k + 1) (lv + 1) (qc_put ors (lv + 1) false) (qc_put ands (lv + 1) true) (qc_put nots (lv + 1) false)
    else if q k = 7 then qs_PE q len i vl g x p m f (k + 1) lv ors ands (qc_put nots lv (!nots lv))
    else if q k = 6 then qs_PE q len i vl g x p m f (k + 1) lv (qc_put ors lv (ors lv || ands lv)) (qc_put ands lv true) nots
    else if q k = 5 then qs_PE q len i vl g x p m f (k + 1) lv ors ands nots
    else if q k = 4 then qs_PE q len i vl g x p m f (k + 1) (lv - 1) ors (qc_put ands (lv - 1) (ands (lv - 1) && ((ors lv || ands lv) != nots (lv - 1)))) (qc_put nots (lv - 1) false)
    else qs_PE q len i vl g x p m f (qs_AE q len k) lv ors (qc_put ands lv (ands lv && (qs_AV q len i vl g k x p m != nots lv))) (qc_put nots lv false)
def qs_PV (q : Nat → Int32) (len : Nat) (i : Nat → Nat) (vl : Nat → Int32) (g : Nat → Int64) (o x p m : Nat) : Bool := qs_PE q len i vl g x p m len (o + 1) 0 (fun _ => false) (fun _ => true) (fun _ => false)
def qs_FL (q : Nat → Int32) (len : Nat) (i : Nat → Nat) (vl : Nat → Int32) (g : Nat → Int64) (n : Nat) (rv : Bool) (o : Nat) (S : Nat → Bool) : Nat → Bool := fun x => S x && qs_PV q len i vl g o x (qs_pos n rv S x) (qt_cn S n)
def qs_FS (q : Nat → Int32) (len : Nat) (i : Nat → Nat) (vl : Nat → Int32) (g : Nat → Int64) (n : Nat) (rv : Bool) : Nat → Nat → (Nat → Bool) → (Nat → Bool)
  | 0, _, S => S
  | f + 1, k, S => if k < len ∧ q k = 1 then qs_FS q len i vl g n rv f (qe_cl q len k + 1) (qs_FL q len i vl g n rv k S) else S
def qs_a (t : Int32) : Nat := (t - 20).toNatClampNeg
theorem qs_a_spec {t : Int32} (h : qc_ax t = true) : t - 20 = nI (qs_a t) ∧ qs_a t ≤ 10 := by
  have h := of_decide_eq_true h
  have h0 : ¬ t < 0 := fun z => h.1 (Int32.lt_trans z (by decide))
  obtain ⟨m, hm, rfl⟩ := nI_of2 (M := 30) (n := 30) (by decide) h0 (Int32.not_lt.mp h.2)
  have h20 : 20 ≤ m := by
    refine Nat.le_of_not_lt (fun z => h.1 ?_)
    exact nI_lt (b := 20) z (by omega)
  have e : nI m - 20 = nI (m - 20) := pk_sub (a := m) (b := 20) h20
  unfold qs_a
  rw [e, nI_clamp (by omega)]
  exact ⟨rfl, by omega⟩
def qs_L0 (n : Nat) (d i : Nat → Nat) (nm q : Nat → Int32) (t c : Nat) : Nat → Bool := fun x => decide (x < n) && (decide (q (t + 1) = 48 ∨ q (t + 1) - 40 = nm (i x)) && qs_ax n d (qs_a (q t)) c x)
def qs_SG (n : Nat) (d i : Nat → Nat) (nm vl q : Nat → Int32) (len : Nat) (g : Nat → Int64) (t c : Nat) : Nat → Bool := qs_FS q len i vl g n (qs_rv (qs_a (q t))) len (t + 2) (qs_L0 n d i nm q t c)
def qs_any (C : Nat → Bool) : Nat → Bool
  | 0 => false
  | k + 1 => qs_any C k || C k
theorem qs_any_iff (C : Nat → Bool) : ∀ k, qs_any C k = true ↔ ∃ x, x < k ∧ C x = true := by
  intro k
  induction k with
  | zero => simp only [qs_any]; exact ⟨fun h => absurd h (by decide), fun ⟨x, h, _⟩ => by omega⟩
  | succ k ih =>
    simp only [qs_any, Bool.or_eq_true, ih]
    constructor
    · rintro (⟨x, h1, h2⟩ | h)
      · exact ⟨x, by omega, h2⟩
      · exact ⟨k, by omega, h⟩
    · rintro ⟨x, h1, h2⟩
      by_cases e : x = k
      · rw [e] at h2; exact Or.inr h2
      · exact Or.inl ⟨x, by omega, h2⟩
/-- what the path from t on gives, from the table's rows behind t -/
def qs_PT (n : Nat) (d i : Nat → Nat) (nm vl q : Nat → Int32) (len : Nat) (g : Nat → Int64) (t c y : Nat) : Bool :=
  if qc_ax (q (qe_se q len t)) = true then qs_any (fun x => qs_SG n d i nm vl q len g t c x && qb (g (qe_se q len t * 40 + x)) y) n else qs_SG n d i nm vl q len g t c y
/-- the table is right from row t on -/
def qs_LC (n : Nat) (d i : Nat → Nat) (nm vl q : Nat → Int32) (len : Nat) (g : Nat → Int64) (t : Nat) : Prop := ∀ t', t ≤ t' → t' < len → qc_ax (q t') = true → ∀ c, c < n → ∀ y, qb (g (t' * 40 + c)) y = qs_PT n d i nm vl q len g t' c y
/-! only the rows behind count -/
theorem qs_AV_c {q : Nat → Int32} {len : Nat} {i : Nat → Nat} {vl : Nat → Int32} {g g' : Nat → Int64} {B k x p m : Nat} (hg : ∀ j, B ≤ j → g' j = g j) (hk : B ≤ k * 40) : qs_AV q len i vl g' k x p m = qs_AV q len i vl g k x p m := by
  unfold qs_AV
  rw [hg ((k + 1) * 40 + x) (by omega), hg (k * 40 + x) (by omega)]
theorem qs_PE_c {q : Nat → Int32} {len : Nat} {i : Nat → Nat} {vl : Nat → Int32} {g g' : Nat → Int64} {x p m o : Nat} (G : qe_G q len) (ho : o < len) (h1 : q o = 1) (hg : ∀ j, (o + 1) * 40 ≤ j → g' j = g j) :
    ∀ f k lv ors ands nots, qw_PO q len o k lv → qs_PE q len i vl g' x p m f k lv ors ands nots = qs_PE q len i vl g x p m f k lv ors ands nots := by
  intro f
  induction f with
  | zero => intro k lv ors ands nots _; rfl
  | succ f ih =>
    intro k lv ors ands nots P
    have hk := P.1
    simp only [qs_PE]
    rw [qs_AV_c (B := (o + 1) * 40) hg (by omega)]
    rcases qw_next G ho h1 P with ⟨a1, a2, a3⟩ | ⟨a1, a2⟩ | ⟨a1, a2, a3⟩ | ⟨a1, a2⟩ | ⟨a1, a2, a3⟩ | ⟨a1, a2, a3⟩
    · rw [if_pos a1, if_pos a1]
    · rcases a1 with a1 | a1
      · rw [if_neg (by rw [a1]; decide), if_neg (by rw [a1]; decide), if_neg (by rw [a1]; decide), if_neg (by rw [a1]; decide), if_pos a1, if_neg (by rw [a1]; decide), if_neg (by rw [a1]; decide), if_neg (by rw [a1]; decide), if_neg (by rw [a1]; decide), if_pos a1]
        exact ih _ _ _ _ _ a2
      · rw [if_neg (by rw [a1]; decide), if_neg (by rw [a1]; decide), if_neg (by rw [a1]; decide), if_pos a1, if_neg (by rw [a1]; decide), if_neg (by rw [a1]; decide), if_neg (by rw [a1]; decide), if_pos a1]
        exact ih _ _ _ _ _ a2
    · rw [if_neg (by rw [a1]; decide), if_neg (by rw [a1]; decide), if_neg (by rw [a1]; decide), if_neg (by rw [a1]; decide), if_neg (by rw [a1]; decide), if_pos a1, if_neg (by rw [a1]; decide), if_neg (by rw [a1]; decide), if_neg (by rw [a1]; decide), if_neg (by rw [a1]; decide), if_neg (by rw [a1]; decide), if_pos a1]
      exact ih _ _ _ _ _ a3
    · rw [if_neg (by rw [a1]; decide), if_neg (by rw [a1]; decide), if_pos a1, if_neg (by rw [a1]; decide), if_neg (by rw [a1]; decide), if_pos a1]
      exact ih _ _ _ _ _ a2
    · rw [if_neg (by rw [a1]; decide), if_pos a1, if_neg (by rw [a1]; decide), if_pos a1]
      exact ih _ _ _ _ _ a3
    · have nn : q k ≠ 2 ∧ q k ≠ 3 ∧ q k ≠ 7 ∧ q k ≠ 6 ∧ q k ≠ 5 ∧ q k ≠ 4 := by
        rcases a1.2.2.2.1 with ⟨z | z, _⟩ | z | ⟨z, _⟩ | z
        · rw [z]; decide
        · rw [z]; decide
        · rw [z]; decide
        · rw [z]; decide
        · refine ⟨?_, ?_, ?_, ?_, ?_, ?_⟩ <;> (intro y; rw [y] at z; exact absurd z (by decide))
      rw [if_neg nn.1, if_neg nn.2.1, if_neg nn.2.2.1, if_neg nn.2.2.2.1, if_neg nn.2.2.2.2.1, if_neg nn.2.2.2.2.2, if_neg nn.1, if_neg nn.2.1, if_neg nn.2.2.1, if_neg nn.2.2.2.1, if_neg nn.2.2.2.2.1, if_neg nn.2.2.2.2.2]
      exact ih _ _ _ _ _ a3
theorem qs_FS_c {q : Nat → Int32} {len : Nat} {i : Nat → Nat} {vl : Nat → Int32} {g g' : Nat → Int64} {n t : Nat} {rv : Bool} (G : qe_G q len) (hg : ∀ j, (t + 1) * 40 ≤ j → g' j = g j) :
    ∀ f k S, t ≤ k → qs_FS q len i vl g' n rv f k S = qs_FS q len i vl g n rv f k S := by
  intro f
  induction f with
  | zero => intro k S _; rfl
  | succ f ih =>
    intro k S hk
    simp only [qs_FS]
    by_cases h : k < len ∧ q k = 1
    · have e : qs_FL q len i vl g' n rv k S = qs_FL q len i vl g n rv k S := by
        funext x
        unfold qs_FL qs_PV
        rw [qs_PE_c G h.1 h.2 (fun j hj => hg j (by omega)) _ _ _ _ _ _ (qw_start G h.1 h.2)]
      have c := qe_cl_ge q len k
      rw [if_pos h, if_pos h, e, ih _ _ (by omega)]
    · rw [if_neg h, if_neg h]
theorem qs_SG_c {n : Nat} {d i : Nat → Nat} {nm vl q : Nat → Int32} {len : Nat} {g g' : Nat → Int64} {t c : Nat} (G : qe_G q len) (hg : ∀ j, (t + 1) * 40 ≤ j → g' j = g j) : qs_SG n d i nm vl q len g' t c = qs_SG n d i nm vl q len g t c :=
  qs_FS_c G hg _ _ _ (by omega)
theorem qs_PT_c {n : Nat} {d i : Nat → Nat} {nm vl q : Nat → Int32} {len : Nat} {g g' : Nat → Int64} {t c y : Nat} (G : qe_G q len) (hg : ∀ j, (t + 1) * 40 ≤ j → g' j = g j) : qs_PT n d i nm vl q len g' t c y = qs_PT n d i nm vl q len g t c y := by
  unfold qs_PT
  rw [qs_SG_c G hg]
  have e : ∀ x, g' (qe_se q len t * 40 + x) = g (qe_se q len t * 40 + x) := fun x => hg _ (by have := qe_se_ge q len t; omega)
  have e2 : (fun x => qs_SG n d i nm vl q len g t c x && qb (g' (qe_se q len t * 40 + x)) y) = (fun x => qs_SG n d i nm vl q len g t c x && qb (g (qe_se q len t * 40 + x)) y) := funext (fun x => by rw [e x])
  rw [e2]
theorem qs_FS_sub {q : Nat → Int32} {len : Nat} {i : Nat → Nat} {vl : Nat → Int32} {g : Nat → Int64} {n : Nat} {rv : Bool} : ∀ f k S x, qs_FS q len i vl g n rv f k S x = true → S x = true := by
  intro f
  induction f with
  | zero => intro k S x h; exact h
  | succ f ih =>
    intro k S x h
    simp only [qs_FS] at h
    by_cases c : k < len ∧ q k = 1
    · rw [if_pos c] at h
      have := ih _ _ _ h
      unfold qs_FL at this
      rw [Bool.and_eq_true] at this
      exact this.1
    · rw [if_neg c] at h; exact h
theorem qs_SG_lt {n : Nat} {d i : Nat → Nat} {nm vl q : Nat → Int32} {len : Nat} {g : Nat → Int64} {t c x : Nat} (h : qs_SG n d i nm vl q len g t c x = true) : x < n := by
  have h1 := qs_FS_sub _ _ _ _ h
  unfold qs_L0 at h1
  rw [Bool.and_eq_true] at h1
  exact of_decide_eq_true h1.1
/-- nothing beyond the nodes -/
theorem qs_LC_lt {n : Nat} {d i : Nat → Nat} {nm vl q : Nat → Int32} {len : Nat} {g : Nat → Int64} {T : Nat} (G : qe_G q len) (LC : qs_LC n d i nm vl q len g T) (hq : ∀ x, len ≤ x → x < 41 → q x = 0) (hl : len ≤ 40) : ∀ f t, len - t ≤ f → T ≤ t → t < len → qc_ax (q t) = true → ∀ c, c < n → ∀ y, qb (g (t * 40 + c)) y = true → y < n := by
  intro f
  induction f with
  | zero => intro t h _ h2; omega
  | succ f ih =>
    intro t h hT h2 ha c hc y hy
    rw [LC t hT h2 ha c hc y] at hy
    unfold qs_PT at hy
    obtain ⟨s1, s2, s3, s4, s5, s6⟩ := qe_se_spec G h2 ha
    have b := qe_se_ge q len t
    by_cases g1 : qc_ax (q (qe_se q len t)) = true
    · rw [if_pos g1, qs_any_iff] at hy
      obtain ⟨x, hx, hb⟩ := hy
      rw [Bool.and_eq_true] at hb
      have hlt : qe_se q len t < len := by
        refine Nat.lt_of_not_le (fun z => ?_)
        rw [hq _ z (by omega)] at g1
        exact absurd g1 (by decide)
      exact ih (qe_se q len t) (by omega) (by omega) hlt g1 x hx y hb.2
    · rw [if_neg g1] at hy
      exact qs_SG_lt hy
