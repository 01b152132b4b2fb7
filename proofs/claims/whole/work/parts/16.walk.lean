/-! the walk through a predicate -/
theorem qw_5 {q : Nat → Int32} {len k : Nat} (G : qe_G q len) (hk : k ≤ len) (hs : (qc_tr q k).1 = 5) : k < len ∧ qc_cp (q k) = true ∧ (qc_tr q (k + 1)).1 = 6 ∧ (qc_tr q (k + 1)).2 = (qc_tr q k).2 := by
  have hl : k < len := by
    refine Nat.lt_of_le_of_ne hk (fun e => ?_)
    rw [e, G.1] at hs; omega
  have hz := qe_nz (k := k + 1) G (by omega)
  show _ ∧ _ ∧ (qc_nx (qc_tr q k) (q k)).1 = 6 ∧ (qc_nx (qc_tr q k) (q k)).2 = _
  have hz : (qc_nx (qc_tr q k) (q k)).1 ≠ 0 := hz
  rcases ht : qc_tr q k with ⟨s, l, o, pa, ct⟩
  rw [ht] at hs hz
  have hs : s = 5 := hs
  subst hs
  rw [qc_nx_5] at hz ⊢
  by_cases g : qc_cp (q k) = true
  · rw [if_pos g]; exact ⟨hl, g, rfl, rfl⟩
  · rw [if_neg g] at hz; exact absurd rfl hz
theorem qw_6 {q : Nat → Int32} {len k : Nat} (G : qe_G q len) (hk : k ≤ len) (hs : (qc_tr q k).1 = 6) : k < len ∧ qc_nu (q k) = true ∧ (qc_tr q (k + 1)).1 = 7 ∧ (qc_tr q (k + 1)).2 = (qc_tr q k).2 := by
  have hl : k < len := by
    refine Nat.lt_of_le_of_ne hk (fun e => ?_)
    rw [e, G.1] at hs; omega
  have hz := qe_nz (k := k + 1) G (by omega)
  show _ ∧ _ ∧ (qc_nx (qc_tr q k) (q k)).1 = 7 ∧ (qc_nx (qc_tr q k) (q k)).2 = _
  have hz : (qc_nx (qc_tr q k) (q k)).1 ≠ 0 := hz
  rcases ht : qc_tr q k with ⟨s, l, o, pa, ct⟩
  rw [ht] at hs hz
  have hs : s = 6 := hs
  subst hs
  rw [qc_nx_6] at hz ⊢
  by_cases g : qc_nu (q k) = true
  · rw [if_pos g]; exact ⟨hl, g, rfl, rfl⟩
  · rw [if_neg g] at hz; exact absurd rfl hz
theorem qw_cp2 {x : Int32} (h : qc_cp x = true) : x ≠ 2 := by rintro rfl; exact absurd h (by decide)
theorem qw_nu2 {x : Int32} (h : qc_nu x = true) : x ≠ 2 := by rintro rfl; exact absurd h (by decide)
theorem qw_nm2 {x : Int32} (h : qc_nm x = true) : x ≠ 2 := by rintro rfl; exact absurd h (by decide)
theorem qw_ax2 {x : Int32} (h : qc_ax x = true) : x ≠ 2 := by rintro rfl; exact absurd h (by decide)
/-- a path: behind it a step is done at the same level, and neither a bracket nor an axis follows -/
theorem qw_pe {q : Nat → Int32} {len : Nat} (G : qe_G q len) : ∀ f k, len - k ≤ f → k < len → qc_ax (q k) = true → qe_pe q len k ≤ len ∧ qe_Sm (qc_tr q (k + 1)) (qc_tr q (qe_pe q len k)) ∧ (qe_pe q len k < len → q (qe_pe q len k) ≠ 1 ∧ qc_ax (q (qe_pe q len k)) = false) := by
  intro f
  induction f with
  | zero => intro k h1 h2; omega
  | succ f ih =>
    intro k h1 h2 ha
    obtain ⟨a1, a2, a3, a4, a5, a6⟩ := qe_se_spec G h2 ha
    have b := qe_se_ge q len k
    rw [qe_pe_eq, if_pos ⟨h2, ha⟩]
    by_cases g : qe_se q len k < len ∧ qc_ax (q (qe_se q len k)) = true
    · obtain ⟨c1, c2, c3⟩ := ih (qe_se q len k) (by omega) g.1 g.2
      refine ⟨c1, ?_, c3⟩
      obtain ⟨t1, t2, t3, t4, t5, t6⟩ := qe_axt G g.1 g.2
      have a51 := a5.1
      have t4 := t4 (by omega)
      obtain ⟨p1, p2, p3, p4⟩ := a5
      obtain ⟨r1, r2, r3, r4⟩ := c2
      rw [t2] at r2 r3 r4
      rw [t3, p2] at r3
      rw [t4, p2] at r4
      rw [p2] at r2
      exact ⟨r1, r2, r3.trans p3, r4.trans p4⟩
    · rw [qe_pe_eq, if_neg g]
      refine ⟨a4, a5, fun z => ⟨a6 z, ?_⟩⟩
      rw [← Bool.not_eq_true]
      exact fun y => g ⟨z, y⟩
/-- inside a bracket nothing jumps over its end -/
theorem qw_cl_in {q : Nat → Int32} {len o k : Nat} (G : qe_G q len) (ho : o < len) (h1 : q o = 1) (hk : o < k) (hc : k ≤ qe_cl q len o) (hl : (qc_tr q k).2.1 = (qc_tr q o).2.1 + 1) (hb : q k = 1) : qe_cl q len k < qe_cl q len o := by
  obtain ⟨c1, c2, c3, c4, c5⟩ := qe_cl_spec G ho h1
  obtain ⟨e1, e2, e3, e4, e5⟩ := qe_cl_spec G (show k < len by omega) hb
  refine Nat.lt_of_not_le (fun z => ?_)
  have hne : k ≠ qe_cl q len o := by rintro rfl; rw [hb] at c3; exact absurd c3 (by decide)
  have := e5 (qe_cl q len o) (by omega) z
  have s := (qe_st G c2).2.1 c3
  omega
theorem qw_so_in {q : Nat → Int32} {len o : Nat} (G : qe_G q len) (ho : o < len) (h1 : q o = 1) : ∀ f k, len - k ≤ f → o < k → k ≤ qe_cl q len o → (qc_tr q k).2.1 = (qc_tr q o).2.1 + 1 → qe_so q len k ≤ qe_cl q len o := by
  intro f
  induction f with
  | zero => intro k h _ hc _; rw [qe_so_eq, if_neg (by omega)]; exact hc
  | succ f ih =>
    intro k h hk hc hl
    rw [qe_so_eq]
    by_cases g : k < len ∧ q k = 1
    · rw [if_pos g]
      have a := qw_cl_in G ho h1 hk hc hl g.2
      have b := qe_cl_ge q len k
      have c := qe_cl_same G g.1 g.2
      exact ih (qe_cl q len k + 1) (by omega) (by omega) (by omega) (by rw [c.2.1]; exact hl)
    · rw [if_neg g]; exact hc
theorem qw_se_in {q : Nat → Int32} {len o k : Nat} (G : qe_G q len) (ho : o < len) (h1 : q o = 1) (hk : o < k) (hc : k ≤ qe_cl q len o) (hl : (qc_tr q k).2.1 = (qc_tr q o).2.1 + 1) (ha : qc_ax (q k) = true) : k + 2 ≤ qe_cl q len o ∧ qe_se q len k ≤ qe_cl q len o := by
  obtain ⟨c1, c2, c3, c4, c5⟩ := qe_cl_spec G ho h1
  obtain ⟨a1, a2, a3, a4, a5, a6⟩ := qe_se_spec G (show k < len by omega) ha
  have n1 : k ≠ qe_cl q len o := fun e => qw_ax2 ha (by rw [e]; exact c3)
  have n2 : k + 1 ≠ qe_cl q len o := fun e => qw_nm2 a2 (by rw [e]; exact c3)
  refine ⟨by omega, ?_⟩
  rw [qe_se_so]
  obtain ⟨t1, t2, t3, t4, t5, t6⟩ := qe_axt G (show k < len by omega) ha
  have b := qe_nmt G a1 t1
  have e : (qc_tr q (k + 2)).2.1 = (qc_tr q (k + 1)).2.1 := by rw [show k + 2 = k + 1 + 1 from rfl, b.2.2]
  exact qw_so_in G ho h1 _ (k + 2) (Nat.le_refl _) (by omega) (by omega) (by rw [e, t2, hl])
theorem qw_pe_in {q : Nat → Int32} {len o : Nat} (G : qe_G q len) (ho : o < len) (h1 : q o = 1) : ∀ f k, len - k ≤ f → o < k → k ≤ qe_cl q len o → (qc_tr q k).2.1 = (qc_tr q o).2.1 + 1 → qe_pe q len k ≤ qe_cl q len o := by
  intro f
  induction f with
  | zero => intro k h _ hc _; rw [qe_pe_eq, if_neg (by omega)]; exact hc
  | succ f ih =>
    intro k h hk hc hl
    rw [qe_pe_eq]
    by_cases g : k < len ∧ qc_ax (q k) = true
    · rw [if_pos g]
      obtain ⟨a1, a2⟩ := qw_se_in G ho h1 hk hc hl g.2
      have b := qe_se_ge q len k
      obtain ⟨s1, s2, s3, s4, s5, s6⟩ := qe_se_spec G g.1 g.2
      obtain ⟨t1, t2, t3, t4, t5, t6⟩ := qe_axt G g.1 g.2
      exact ih (qe_se q len k) (by omega) (by omega) a2 (by rw [s5.2.1, t2, hl])
    · rw [if_neg g]; exact hc
/-- where the walk through the predicate that opens at o may stand -/
def qw_PO (q : Nat → Int32) (len o k lv : Nat) : Prop := o < k ∧ k ≤ qe_cl q len o ∧ (qc_tr q k).2.1 = (qc_tr q o).2.1 + 1 ∧ (qc_tr q k).2.2.2.1 ((qc_tr q o).2.1 + 1) = lv ∧
  ((qc_tr q k).1 = 4 ∨ (qc_tr q k).1 = 7 ∨ ((qc_tr q k).1 = 3 ∧ (qc_tr q k).2.2.2.2 ((qc_tr q o).2.1 + 1) = false ∧ q k ≠ 1 ∧ qc_ax (q k) = false))
def qs_AE (q : Nat → Int32) (len k : Nat) : Nat := if q k = 8 then k + 3 else if q k = 9 then k + 1 else if q k = 10 then k + 3 else if q k = 11 then qe_pe q len (k + 1) + 2 else qe_pe q len k
/-- what the tokens of an atom are -/
def qw_AT (q : Nat → Int32) (len o k : Nat) : Prop := k < len ∧ (qc_tr q k).1 = 4 ∧ (qc_tr q k).2.1 = (qc_tr q o).2.1 + 1 ∧
  (((q k = 8 ∨ q k = 10) ∧ k + 2 < len) ∨ q k = 9 ∨ (q k = 11 ∧ k + 1 < len ∧ qc_ax (q (k + 1)) = true ∧ (qc_tr q (k + 1)).1 = 1 ∧ (qc_tr q (k + 1)).2.1 = (qc_tr q o).2.1 + 1 ∧ qe_pe q len (k + 1) + 1 < len) ∨ qc_ax (q k) = true) ∧ qe_pe q len k ≤ len
theorem qw_start {q : Nat → Int32} {len o : Nat} (G : qe_G q len) (ho : o < len) (h1 : q o = 1) : qw_PO q len o (o + 1) 0 := by
  have c := qe_cl_ge q len o
  have s := (qe_st G ho).1 h1
  exact ⟨by omega, c, s.2.2.1, s.2.2.2, Or.inl s.2.1⟩
theorem qw_af {q : Nat → Int32} {len o k lv : Nat} (G : qe_G q len) (ho : o < len) (h1 : q o = 1) (hk : o < k) (hc : k ≤ qe_cl q len o) (hl : (qc_tr q k).2.1 = (qc_tr q o).2.1 + 1) (hp : (qc_tr q k).2.2.2.1 ((qc_tr q o).2.1 + 1) = lv)
    (e : qc_tr q (k + 1) = qc_af (qc_tr q k).2.1 (qc_tr q k).2.2.1 (qc_tr q k).2.2.2.1 (qc_tr q k).2.2.2.2 (q k)) :
    (q k = 2 ∧ k = qe_cl q len o ∧ lv = 0) ∨ ((q k = 5 ∨ q k = 6) ∧ qw_PO q len o (k + 1) lv) ∨ (q k = 4 ∧ 1 ≤ lv ∧ qw_PO q len o (k + 1) (lv - 1)) := by
  obtain ⟨c1, c2, c3, c4, c5⟩ := qe_cl_spec G ho h1
  have hz := qe_nz (k := k + 1) G (by omega)
  rw [e] at hz
  have nc : q k ≠ 2 → k + 1 ≤ qe_cl q len o := by
    intro g
    have : k ≠ qe_cl q len o := by rintro rfl; exact g c3
    omega
  unfold qw_PO
  rw [e]
  rcases ht : qc_tr q k with ⟨s, l, op, pa, ct⟩
  rw [ht] at hz hl hp
  have hl : l = (qc_tr q o).2.1 + 1 := hl
  have hp : pa ((qc_tr q o).2.1 + 1) = lv := hp
  rw [← hl] at hp
  show _ ∨ _ ∨ _
  have hz : (qc_af l op pa ct (q k)).1 ≠ 0 := hz
  show _ ∨ (_ ∧ _ ∧ _ ∧ (qc_af l op pa ct (q k)).2.1 = _ ∧ (qc_af l op pa ct (q k)).2.2.2.1 _ = _ ∧ ((qc_af l op pa ct (q k)).1 = 4 ∨ (qc_af l op pa ct (q k)).1 = 7 ∨ _)) ∨ (_ ∧ _ ∧ _ ∧ _ ∧ (qc_af l op pa ct (q k)).2.1 = _ ∧ (qc_af l op pa ct (q k)).2.2.2.1 _ = _ ∧ ((qc_af l op pa ct (q k)).1 = 4 ∨ (qc_af l op pa ct (q k)).1 = 7 ∨ _))
  unfold qc_af at hz ⊢
  by_cases g1 : q k = 5 ∨ q k = 6
  · rw [if_pos g1]
    refine Or.inr (Or.inl ⟨g1, by omega, nc ?_, hl, by rw [← hl]; exact hp, Or.inl rfl⟩)
    rcases g1 with g | g <;> rw [g] <;> decide
  · rw [if_neg g1] at hz ⊢
    by_cases g2 : q k = 4 ∧ 0 < pa l
    · rw [if_pos g2]
      refine Or.inr (Or.inr ⟨g2.1, by omega, by omega, nc (by rw [g2.1]; decide), hl, ?_, Or.inr (Or.inl rfl)⟩)
      rw [← hl]
      show qc_put pa l (pa l - 1) l = _
      rw [qc_put_s]; omega
    · rw [if_neg g2] at hz ⊢
      by_cases g3 : q k = 2 ∧ pa l = 0
      · have s := (qe_st G (show k < len by omega)).2.1 g3.1
        rw [ht] at s
        have s3 : (qc_tr q (k + 1)).2.1 + 1 = l := s.2.2.1
        refine Or.inl ⟨g3.1, ?_, by omega⟩
        by_cases z : k = qe_cl q len o
        · exact z
        · have := c5 (k + 1) (by omega) (by omega)
          omega
      · rw [if_neg g3] at hz; exact absurd rfl hz
theorem qw_next {q : Nat → Int32} {len o k lv : Nat} (G : qe_G q len) (ho : o < len) (h1 : q o = 1) (P : qw_PO q len o k lv) :
    (q k = 2 ∧ k = qe_cl q len o ∧ lv = 0) ∨ ((q k = 5 ∨ q k = 6) ∧ qw_PO q len o (k + 1) lv) ∨ (q k = 4 ∧ 1 ≤ lv ∧ qw_PO q len o (k + 1) (lv - 1)) ∨
    (q k = 7 ∧ qw_PO q len o (k + 1) lv) ∨ (q k = 3 ∧ lv < 4 ∧ qw_PO q len o (k + 1) (lv + 1)) ∨ (qw_AT q len o k ∧ k < qs_AE q len k ∧ qw_PO q len o (qs_AE q len k) lv) := by
  have P0 := P
  obtain ⟨hk, hc, hl, hp, hs⟩ := P
  obtain ⟨c1, c2, c3, c4, c5⟩ := qe_cl_spec G ho h1
  have hklen : k < len := by omega
  have hz := qe_nz (k := k + 1) G (by omega)
  have W := qe_W (k := k) G (by omega)
  have nc : q k ≠ 2 → k + 1 ≤ qe_cl q len o := by
    intro g
    have : k ≠ qe_cl q len o := by rintro rfl; exact g c3
    omega
  have nc2 : ∀ x, x ≤ qe_cl q len o → q x ≠ 2 → x + 1 ≤ qe_cl q len o := by
    intro x hx g
    have : x ≠ qe_cl q len o := by rintro rfl; exact g c3
    omega
  have hpl : qe_pe q len k ≤ len := (qe_pe_le G _ k (Nat.le_refl _) (by omega)).2
  have en : qc_tr q (k + 1) = qc_nx (qc_tr q k) (q k) := rfl
  rcases hs with hs | hs | ⟨hs, hct, hb, hax⟩
  · rcases ht : qc_tr q k with ⟨s, l, op, pa, ct⟩
    rw [ht] at en hs hl hp W
    have hs : s = 4 := hs
    subst hs
    have hl : l = (qc_tr q o).2.1 + 1 := hl
    have hp : pa ((qc_tr q o).2.1 + 1) = lv := hp
    rw [← hl] at hp
    rw [qc_nx_4] at en
    have W4 : op ≤ 4 := W.2.2.2.1
    have W5 : op = qc_sm pa l := W.2.2.2.2.1
    have hge := qc_sm_ge pa l (by omega)
    rw [en] at hz
    unfold qc_op at en hz
    have es4 : (qc_tr q k).1 = 4 := by rw [ht]
    have elv : (qc_tr q k).2.1 = (qc_tr q o).2.1 + 1 := by rw [ht]; exact hl
    by_cases g7 : q k = 7
    · rw [if_pos g7] at en
      exact Or.inr (Or.inr (Or.inr (Or.inl ⟨g7, by omega, nc (by rw [g7]; decide), by rw [en]; exact hl, by rw [en, ← hl]; exact hp, Or.inl (by rw [en])⟩)))
    · rw [if_neg g7] at en hz
      by_cases g3 : q k = 3
      · rw [if_pos g3] at en hz
        by_cases go : op < 4
        · rw [if_pos go] at en
          refine Or.inr (Or.inr (Or.inr (Or.inr (Or.inl ⟨g3, by omega, by omega, nc (by rw [g3]; decide), by rw [en]; exact hl, ?_, Or.inl (by rw [en])⟩))))
          rw [en, ← hl]
          show qc_put pa l (pa l + 1) l = _
          rw [qc_put_s]; omega
        · rw [if_neg go] at hz; exact absurd rfl hz
      · rw [if_neg g3] at en hz
        refine Or.inr (Or.inr (Or.inr (Or.inr (Or.inr ?_))))
        by_cases g8 : q k = 8 ∨ q k = 10
        · rw [if_pos g8] at en
          have s5 : (qc_tr q (k + 1)).1 = 5 := by rw [en]
          have n1 : k + 1 ≤ qe_cl q len o := nc (by rcases g8 with g | g <;> rw [g] <;> decide)
          obtain ⟨x1, x2, x3, x4⟩ := qw_5 G (by omega) s5
          have n2 := nc2 (k + 1) n1 (qw_cp2 x2)
          obtain ⟨y1, y2, y3, y4⟩ := qw_6 G (by omega) x3
          have n3 := nc2 (k + 1 + 1) n2 (qw_nu2 y2)
          have eae : qs_AE q len k = k + 3 := by
            unfold qs_AE
            rcases g8 with g | g
            · rw [if_pos g]
            · rw [if_neg (by rw [g]; decide), if_neg (by rw [g]; decide), if_pos g]
          have e2 : (qc_tr q (k + 3)).2 = (l, op, pa, ct) := by
            rw [show k + 3 = k + 1 + 1 + 1 from rfl, y4, x4, en]
          refine ⟨⟨hklen, es4, elv, Or.inl ⟨g8, by omega⟩, hpl⟩, by omega, ?_⟩
          rw [eae]
          exact ⟨by omega, n3, by rw [e2]; exact hl, by rw [e2, ← hl]; exact hp, Or.inr (Or.inl y3)⟩
        · rw [if_neg g8] at en hz
          by_cases g9 : q k = 9
          · rw [if_pos g9] at en
            have n1 : k + 1 ≤ qe_cl q len o := nc (by rw [g9]; decide)
            have eae : qs_AE q len k = k + 1 := by
              unfold qs_AE
              rw [if_neg (by rw [g9]; decide), if_pos g9]
            refine ⟨⟨hklen, es4, elv, Or.inr (Or.inl g9), hpl⟩, by omega, ?_⟩
            rw [eae]
            exact ⟨by omega, n1, by rw [en]; exact hl, by rw [en, ← hl]; exact hp, Or.inr (Or.inl (by rw [en]))⟩
          · rw [if_neg g9] at en hz
            by_cases g11 : q k = 11
            · rw [if_pos g11] at en
              have n1 : k + 1 ≤ qe_cl q len o := nc (by rw [g11]; decide)
              have s1 : (qc_tr q (k + 1)).1 = 1 := by rw [en]
              have l1 : (qc_tr q (k + 1)).2.1 = (qc_tr q o).2.1 + 1 := by rw [en]; exact hl
              have ha : qc_ax (q (k + 1)) = true := by
                have hz2 := qe_nz (k := k + 1 + 1) G (by omega)
                have e2 : qc_tr q (k + 1 + 1) = qc_nx (qc_tr q (k + 1)) (q (k + 1)) := rfl
                rw [en, qc_nx_1] at e2
                rw [e2] at hz2
                by_cases g : qc_ax (q (k + 1)) = true
                · exact g
                · rw [if_neg g] at hz2; exact absurd rfl hz2
              obtain ⟨p1, p2, p3⟩ := qw_pe G _ (k + 1) (Nat.le_refl _) (by omega) ha
              have p4 := qw_pe_in G ho h1 _ (k + 1) (Nat.le_refl _) (by omega) n1 l1
              obtain ⟨p3a, p3b⟩ := p3 (by omega)
              obtain ⟨t1, t2, t3, t4, t5, t6⟩ := qe_axt G (show k + 1 < len by omega) ha
              have t4 := t4 (by omega)
              obtain ⟨m1, m2, m3, m4⟩ := p2
              rw [t2] at m2 m3 m4
              rw [t3] at m3
              rw [t4] at m4
              have ctl : (qc_tr q (k + 1)).2.2.2.2 (qc_tr q (k + 1)).2.1 = true := by rw [en]; exact qc_put_s
              have pal : (qc_tr q (k + 1)).2.2.2.1 (qc_tr q (k + 1)).2.1 = lv := by rw [en]; exact hp
              rw [ctl] at m4
              rw [pal] at m3
              rw [l1] at m2 m3 m4
              have kp := qe_pe_le G _ (k + 1) (Nat.le_refl _) (by omega)
              -- the comparison behind the path
              have hz2 := qe_nz (k := qe_pe q len (k + 1) + 1) G (by omega)
              have e2 : qc_tr q (qe_pe q len (k + 1) + 1) = qc_nx (qc_tr q (qe_pe q len (k + 1))) (q (qe_pe q len (k + 1))) := rfl
              rcases htp : qc_tr q (qe_pe q len (k + 1)) with ⟨s', l', op', pa', ct'⟩
              rw [htp] at e2 m1 m2 m3 m4
              have m1 : s' = 3 := m1
              subst m1
              have m2 : l' = (qc_tr q o).2.1 + 1 := m2
              have m3 : pa' ((qc_tr q o).2.1 + 1) = lv := m3
              have m4 : ct' ((qc_tr q o).2.1 + 1) = true := m4
              rw [← m2] at m3 m4
              rw [qc_nx_3] at e2
              unfold qc_sp at e2
              rw [if_neg (by rw [p3b]; decide), if_neg p3a, if_neg (by omega), if_pos m4] at e2
              by_cases gc : qc_cp (q (qe_pe q len (k + 1))) = true
              · rw [if_pos gc] at e2
                have n2 := nc2 _ p4 (qw_cp2 gc)
                obtain ⟨y1, y2, y3, y4⟩ := qw_6 G (k := qe_pe q len (k + 1) + 1) (by omega) (by rw [e2])
                have n3 := nc2 _ n2 (qw_nu2 y2)
                have eae : qs_AE q len k = qe_pe q len (k + 1) + 2 := by
                  unfold qs_AE
                  rw [if_neg (by rw [g11]; decide), if_neg (by rw [g11]; decide), if_neg (by rw [g11]; decide), if_pos g11]
                have e3 : (qc_tr q (qe_pe q len (k + 1) + 2)).2 = (l', op', pa', ct') := by
                  rw [show qe_pe q len (k + 1) + 2 = qe_pe q len (k + 1) + 1 + 1 from rfl, y4, e2]
                refine ⟨⟨hklen, es4, elv, Or.inr (Or.inr (Or.inl ⟨g11, by omega, ha, s1, l1, by omega⟩)), hpl⟩, by omega, ?_⟩
                rw [eae]
                exact ⟨by omega, n3, by rw [e3]; exact m2, by rw [e3, ← m2]; exact m3, Or.inr (Or.inl y3)⟩
              · rw [if_neg gc] at e2; rw [e2] at hz2; exact absurd rfl hz2
            · rw [if_neg g11] at en hz
              by_cases ga : qc_ax (q k) = true
              · rw [if_pos ga] at en
                have n1 : k + 1 ≤ qe_cl q len o := nc (qw_ax2 ga)
                obtain ⟨p1, p2, p3⟩ := qw_pe G _ k (Nat.le_refl _) hklen ga
                have p4 := qw_pe_in G ho h1 _ k (Nat.le_refl _) hk hc elv
                obtain ⟨p3a, p3b⟩ := p3 (by omega)
                obtain ⟨m1, m2, m3, m4⟩ := p2
                have a2 : (qc_tr q (k + 1)).2.1 = l := by rw [en]
                rw [a2] at m2 m3 m4
                rw [en] at m3 m4
                have m3 : (qc_tr q (qe_pe q len k)).2.2.2.1 l = pa l := m3
                have m4 : (qc_tr q (qe_pe q len k)).2.2.2.2 l = qc_put ct l false l := m4
                rw [qc_put_s] at m4
                have hgt : k < qe_pe q len k := by
                  rw [qe_pe_eq, if_pos ⟨hklen, ga⟩]
                  have a := qe_se_ge q len k
                  obtain ⟨s1, s2, s3, s4, s5, s6⟩ := qe_se_spec G hklen ga
                  have b := qe_pe_le G _ (qe_se q len k) (Nat.le_refl _) s4
                  omega
                have eae : qs_AE q len k = qe_pe q len k := by
                  unfold qs_AE
                  rw [if_neg (by intro z; exact g8 (Or.inl z)), if_neg g9, if_neg (by intro z; exact g8 (Or.inr z)), if_neg g11]
                refine ⟨⟨hklen, es4, elv, Or.inr (Or.inr (Or.inr ga)), hpl⟩, by omega, ?_⟩
                rw [eae]
                refine ⟨by omega, p4, by rw [m2]; exact hl, by rw [← hl, m3]; exact hp, Or.inr (Or.inr ⟨m1, by rw [← hl]; exact m4, p3a, p3b⟩)⟩
              · rw [if_neg ga] at hz; exact absurd rfl hz
  · have e : qc_tr q (k + 1) = qc_af (qc_tr q k).2.1 (qc_tr q k).2.2.1 (qc_tr q k).2.2.2.1 (qc_tr q k).2.2.2.2 (q k) := by
      rw [en]
      rcases ht : qc_tr q k with ⟨s, l, op, pa, ct⟩
      rw [ht] at hs
      have hs : s = 7 := hs
      subst hs
      rfl
    rcases qw_af G ho h1 hk hc hl hp e with z | z | z
    · exact Or.inl z
    · exact Or.inr (Or.inl z)
    · exact Or.inr (Or.inr (Or.inl z))
  · have e : qc_tr q (k + 1) = qc_af (qc_tr q k).2.1 (qc_tr q k).2.2.1 (qc_tr q k).2.2.2.1 (qc_tr q k).2.2.2.2 (q k) := by
      rw [en]
      rw [← hl] at hct
      rcases ht : qc_tr q k with ⟨s, l, op, pa, ct⟩
      rw [ht] at hs hl hct
      have hs : s = 3 := hs
      subst hs
      have hl : l = (qc_tr q o).2.1 + 1 := hl
      have hct : ct l = false := hct
      rw [qc_nx_3]
      unfold qc_sp
      rw [if_neg (by rw [hax]; decide), if_neg hb, if_neg (by omega), if_neg (by rw [hct]; decide)]
    rcases qw_af G ho h1 hk hc hl hp e with z | z | z
    · exact Or.inl z
    · exact Or.inr (Or.inl z)
    · exact Or.inr (Or.inr (Or.inl z))
