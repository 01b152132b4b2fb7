/-! the grammar's machine: X and Y walk it alike -/
def qc_sm (pa : Nat → Nat) : Nat → Nat
  | 0 => 0
  | l + 1 => qc_sm pa l + pa (l + 1)
theorem qc_sm_c (pa pa' : Nat → Nat) : ∀ l, (∀ j, 1 ≤ j → j ≤ l → pa' j = pa j) → qc_sm pa' l = qc_sm pa l := by
  intro l
  induction l with
  | zero => intro _; rfl
  | succ l ih => intro h; simp only [qc_sm]; rw [ih (fun j h1 h2 => h j h1 (by omega)), h (l + 1) (by omega) (by omega)]
theorem qc_sm_put (pa : Nat → Nat) (l x : Nat) (h : 1 ≤ l) : qc_sm (qc_put pa l x) l + pa l = qc_sm pa l + x := by
  obtain ⟨m, rfl⟩ : ∃ m, l = m + 1 := ⟨l - 1, by omega⟩
  simp only [qc_sm]
  rw [qc_sm_c pa (qc_put pa (m + 1) x) m (fun j h1 h2 => if_neg (by omega))]
  simp only [qc_put, if_true]; omega
theorem qc_sm_ge (pa : Nat → Nat) (l : Nat) (h : 1 ≤ l) : pa l ≤ qc_sm pa l := by
  obtain ⟨m, rfl⟩ : ∃ m, l = m + 1 := ⟨l - 1, by omega⟩
  simp only [qc_sm]; omega
/-- what holds in every state that isn't wrong -/
def qc_W (S : qc_St) : Prop := match S with
  | (s, l, o, pa, _) => 1 ≤ s ∧ s ≤ 7 ∧ l ≤ 3 ∧ o ≤ 4 ∧ o = qc_sm pa l ∧ (4 ≤ s → 1 ≤ l)
theorem qc_put_s {α : Type} {f : Nat → α} {k : Nat} {x : α} : qc_put f k x k = x := if_pos rfl
theorem qc_put_n {α : Type} {f : Nat → α} {k j : Nat} {x : α} (h : j ≠ k) : qc_put f k x j = f j := if_neg h
theorem qc_W_af {l o : Nat} {pa : Nat → Nat} {ct : Nat → Bool} {t : Int32} (h1 : 1 ≤ l) (h2 : l ≤ 3) (h3 : o ≤ 4) (h4 : o = qc_sm pa l) (hz : (qc_af l o pa ct t).1 ≠ 0) : qc_W (qc_af l o pa ct t) := by
  unfold qc_af at hz ⊢
  split
  · exact ⟨by omega, by omega, h2, h3, h4, fun _ => h1⟩
  · split
    · next g =>
      have a := qc_sm_put pa l (pa l - 1) h1
      have b := qc_sm_ge pa l h1
      exact ⟨by omega, by omega, h2, by omega, by omega, fun _ => h1⟩
    · split
      · next g =>
        obtain ⟨m, rfl⟩ : ∃ m, l = m + 1 := ⟨l - 1, by omega⟩
        simp only [qc_sm] at h4
        exact ⟨by omega, by omega, by omega, h3, by simp only [Nat.add_sub_cancel]; omega, fun h => by omega⟩
      · next g1 g2 g3 => simp only [g1, g2, g3, if_false] at hz; exact absurd rfl hz
theorem qc_W_nx {S : qc_St} {t : Int32} (W : qc_W S) (hz : (qc_nx S t).1 ≠ 0) : qc_W (qc_nx S t) := by
  obtain ⟨s, l, o, pa, ct⟩ := S
  obtain ⟨w1, w2, w3, w4, w5, w6⟩ := W
  have hs : s = 1 ∨ s = 2 ∨ s = 3 ∨ s = 4 ∨ s = 5 ∨ s = 6 ∨ s = 7 := by omega
  rcases hs with rfl | rfl | rfl | rfl | rfl | rfl | rfl
  · simp only [qc_nx, if_true] at hz ⊢
    split
    · exact ⟨by omega, by omega, w3, w4, w5, fun h => by omega⟩
    · next g => rw [if_neg g] at hz; exact absurd rfl hz
  · simp only [qc_nx, if_true] at hz ⊢
    simp only [show ¬ (2 : Nat) = 1 by omega, if_false] at hz ⊢
    split
    · exact ⟨by omega, by omega, w3, w4, w5, fun h => by omega⟩
    · next g => rw [if_neg g] at hz; exact absurd rfl hz
  · simp only [qc_nx, if_true, show ¬ (3 : Nat) = 1 by omega, show ¬ (3 : Nat) = 2 by omega, if_false] at hz ⊢
    unfold qc_sp at hz ⊢
    by_cases g1 : qc_ax t = true
    · rw [if_pos g1]; exact ⟨by omega, by omega, w3, w4, w5, fun h => by omega⟩
    · rw [if_neg g1] at hz ⊢
      by_cases g2 : t = 1
      · rw [if_pos g2] at hz ⊢
        by_cases g3 : l < 3
        · rw [if_pos g3]
          refine ⟨by omega, by omega, by omega, w4, ?_, fun _ => by omega⟩
          simp only [qc_sm, qc_put_s]
          rw [qc_sm_c pa _ l (fun j h1 h2 => qc_put_n (by omega))]; omega
        · rw [if_neg g3] at hz; exact absurd rfl hz
      · rw [if_neg g2] at hz ⊢
        by_cases g3 : l = 0
        · rw [if_pos g3] at hz; exact absurd rfl hz
        · rw [if_neg g3] at hz ⊢
          by_cases g4 : ct l = true
          · rw [if_pos g4] at hz ⊢
            by_cases g5 : qc_cp t = true
            · rw [if_pos g5]; exact ⟨by omega, by omega, w3, w4, w5, fun h => by omega⟩
            · rw [if_neg g5] at hz; exact absurd rfl hz
          · rw [if_neg g4] at hz ⊢; exact qc_W_af (by omega) w3 w4 w5 hz
  · simp only [qc_nx, if_true, show ¬ (4 : Nat) = 1 by omega, show ¬ (4 : Nat) = 2 by omega, show ¬ (4 : Nat) = 3 by omega, if_false] at hz ⊢
    have hl := w6 (by omega)
    unfold qc_op at hz ⊢
    by_cases g1 : t = 7
    · rw [if_pos g1]; exact ⟨by omega, by omega, w3, w4, w5, fun h => hl⟩
    · rw [if_neg g1] at hz ⊢
      by_cases g2 : t = 3
      · rw [if_pos g2] at hz ⊢
        by_cases g3 : o < 4
        · rw [if_pos g3]
          have a := qc_sm_put pa l (pa l + 1) hl
          exact ⟨by omega, by omega, w3, by omega, by omega, fun h => hl⟩
        · rw [if_neg g3] at hz; exact absurd rfl hz
      · rw [if_neg g2] at hz ⊢
        by_cases g3 : t = 8 ∨ t = 10
        · rw [if_pos g3]; exact ⟨by omega, by omega, w3, w4, w5, fun h => hl⟩
        · rw [if_neg g3] at hz ⊢
          by_cases g4 : t = 9
          · rw [if_pos g4]; exact ⟨by omega, by omega, w3, w4, w5, fun h => hl⟩
          · rw [if_neg g4] at hz ⊢
            by_cases g5 : t = 11
            · rw [if_pos g5]; exact ⟨by omega, by omega, w3, w4, w5, fun h => hl⟩
            · rw [if_neg g5] at hz ⊢
              by_cases g6 : qc_ax t = true
              · rw [if_pos g6]; exact ⟨by omega, by omega, w3, w4, w5, fun h => hl⟩
              · rw [if_neg g6] at hz; exact absurd rfl hz
  · simp only [qc_nx, if_true, show ¬ (5 : Nat) = 1 by omega, show ¬ (5 : Nat) = 2 by omega, show ¬ (5 : Nat) = 3 by omega, show ¬ (5 : Nat) = 4 by omega, if_false] at hz ⊢
    split
    · exact ⟨by omega, by omega, w3, w4, w5, fun h => w6 (by omega)⟩
    · next g => rw [if_neg g] at hz; exact absurd rfl hz
  · simp only [qc_nx, if_true, show ¬ (6 : Nat) = 1 by omega, show ¬ (6 : Nat) = 2 by omega, show ¬ (6 : Nat) = 3 by omega, show ¬ (6 : Nat) = 4 by omega, show ¬ (6 : Nat) = 5 by omega, if_false] at hz ⊢
    split
    · exact ⟨by omega, by omega, w3, w4, w5, fun h => w6 (by omega)⟩
    · next g => rw [if_neg g] at hz; exact absurd rfl hz
  · simp only [qc_nx, if_true, show ¬ (7 : Nat) = 1 by omega, show ¬ (7 : Nat) = 2 by omega, show ¬ (7 : Nat) = 3 by omega, show ¬ (7 : Nat) = 4 by omega, show ¬ (7 : Nat) = 5 by omega, show ¬ (7 : Nat) = 6 by omega, if_false] at hz ⊢
    exact qc_W_af (w6 (by omega)) w3 w4 w5 hz
theorem qc_W_0 : qc_W (1, 0, 0, (fun _ => 0), (fun _ => false)) := ⟨by omega, by omega, by omega, by omega, rfl, fun h => by omega⟩
theorem qc_nx_1 (l o : Nat) (pa : Nat → Nat) (ct : Nat → Bool) (t : Int32) : qc_nx (1, l, o, pa, ct) t = if qc_ax t = true then (2, l, o, pa, ct) else (0, l, o, pa, ct) := rfl
theorem qc_nx_2 (l o : Nat) (pa : Nat → Nat) (ct : Nat → Bool) (t : Int32) : qc_nx (2, l, o, pa, ct) t = if qc_nm t = true then (3, l, o, pa, ct) else (0, l, o, pa, ct) := rfl
theorem qc_nx_3 (l o : Nat) (pa : Nat → Nat) (ct : Nat → Bool) (t : Int32) : qc_nx (3, l, o, pa, ct) t = qc_sp l o pa ct t := rfl
theorem qc_nx_4 (l o : Nat) (pa : Nat → Nat) (ct : Nat → Bool) (t : Int32) : qc_nx (4, l, o, pa, ct) t = qc_op l o pa ct t := rfl
theorem qc_nx_5 (l o : Nat) (pa : Nat → Nat) (ct : Nat → Bool) (t : Int32) : qc_nx (5, l, o, pa, ct) t = if qc_cp t = true then (6, l, o, pa, ct) else (0, l, o, pa, ct) := rfl
theorem qc_nx_6 (l o : Nat) (pa : Nat → Nat) (ct : Nat → Bool) (t : Int32) : qc_nx (6, l, o, pa, ct) t = if qc_nu t = true then (7, l, o, pa, ct) else (0, l, o, pa, ct) := rfl
theorem qc_nx_7 (l o : Nat) (pa : Nat → Nat) (ct : Nat → Bool) (t : Int32) : qc_nx (7, l, o, pa, ct) t = qc_af l o pa ct t := rfl
/-- the answer of the reading -/
def qc_wp (q : Nat → Int32) : Nat → Nat → Nat
  | 0, i => if (qc_tr q i).1 = 3 ∧ (qc_tr q i).2.1 = 0 then 0 else i + 1
  | f + 1, i => if (qc_tr q (i + 1)).1 = 0 then i + 1 else qc_wp q f (i + 1)
theorem qc_wp_0 (q : Nat → Int32) : ∀ f i, qc_wp q f i = 0 → (qc_tr q (i + f)).1 = 3 ∧ (qc_tr q (i + f)).2.1 = 0 := by
  intro f
  induction f with
  | zero =>
    intro i h
    simp only [qc_wp] at h
    by_cases g : (qc_tr q i).1 = 3 ∧ (qc_tr q i).2.1 = 0
    · exact g
    · rw [if_neg g] at h; omega
  | succ f ih =>
    intro i h
    simp only [qc_wp] at h
    by_cases g : (qc_tr q (i + 1)).1 = 0
    · rw [if_pos g] at h; omega
    · rw [if_neg g] at h
      have := ih (i + 1) h
      rw [show i + (f + 1) = i + 1 + f by omega]; exact this
theorem qc_wp_le (q : Nat → Int32) : ∀ f i, qc_wp q f i ≤ i + f + 1 := by
  intro f
  induction f with
  | zero => intro i; simp only [qc_wp]; split <;> omega
  | succ f ih => intro i; simp only [qc_wp]; have := ih (i + 1); split <;> omega
/-! X's state against it -/
def qc_X (S : qc_St) (lv op : Int32) (xpa xct : Nat → Int32) : Prop := match S with
  | (s, l, o, pa, ct) => lv = nI l ∧ op = nI o ∧ (∀ j, 1 ≤ j → j ≤ l → xpa j = nI (pa j)) ∧ (∀ j, 1 ≤ j → j ≤ l → (j < l ∨ s ≤ 3) → xct j = qa_b (ct j))
section
variable {xlim : Int32} {xn : Int32} {xpc : Int32} {xlv : Int32} {xop : Int32} {xql : Int32} {xrc : Int32} {xrt : Int64} {xod : (Nat → Int32)} {xpo : (Nat → Int32)} {xnm : (Nat → Int32)} {xvl : (Nat → Int32)} {xmv : (Nat → Int32)} {xrk : (Nat → Int32)} {xpt : (Nat → Int32)} {xsz : (Nat → Int32)} {xpd : (Nat → Int32)} {xpa : (Nat → Int32)} {xct : (Nat → Int32)} {xqu : (Nat → Int32)} {xco : (Nat → Int32)} {xse : (Nat → Int32)} {xpe : (Nat → Int32)} {xgv : (Nat → Int64)} {xan : (Nat → Int64)} {xal : (Nat → Int64)} {xng : (Nat → Int32)} {xrs : (Nat → Int32)}
theorem qc_xax {t : Int32} {post : Int32 → Prop} (h : post (qa_b (qc_ax t))) : wpX_isAxisToken post (xlim, xn, xpc, xlv, xop, xql, xrc, xrt, xod, xpo, xnm, xvl, xmv, xrk, xpt, xsz, xpd, xpa, xct, xqu, xco, xse, xpe, xgv, xan, xal, xng, xrs) t := by
  refine br_c (fun g => ?_) (fun g => br_c (fun g2 => ?_) (fun g2 => ?_))
  · rw [show qc_ax t = false from decide_eq_false (fun z => z.1 g)] at h; exact h
  · rw [show qc_ax t = false from decide_eq_false (fun z => z.2 g2)] at h; exact h
  · rw [show qc_ax t = true from decide_eq_true ⟨g, g2⟩] at h; exact h
theorem qc_xnm {t : Int32} {post : Int32 → Prop} (h : post (qa_b (qc_nm t))) : wpX_isNameToken post (xlim, xn, xpc, xlv, xop, xql, xrc, xrt, xod, xpo, xnm, xvl, xmv, xrk, xpt, xsz, xpd, xpa, xct, xqu, xco, xse, xpe, xgv, xan, xal, xng, xrs) t := by
  refine br_c (fun g => ?_) (fun g => br_c (fun g2 => ?_) (fun g2 => ?_))
  · rw [show qc_nm t = false from decide_eq_false (fun z => z.1 g)] at h; exact h
  · rw [show qc_nm t = false from decide_eq_false (fun z => z.2 g2)] at h; exact h
  · rw [show qc_nm t = true from decide_eq_true ⟨g, g2⟩] at h; exact h
theorem qc_xnu {t : Int32} {post : Int32 → Prop} (h : post (qa_b (qc_nu t))) : wpX_isNumber post (xlim, xn, xpc, xlv, xop, xql, xrc, xrt, xod, xpo, xnm, xvl, xmv, xrk, xpt, xsz, xpd, xpa, xct, xqu, xco, xse, xpe, xgv, xan, xal, xng, xrs) t := by
  refine br_c (fun g => ?_) (fun g => br_c (fun g2 => ?_) (fun g2 => ?_))
  · rw [show qc_nu t = false from decide_eq_false (fun z => z.1 g)] at h; exact h
  · rw [show qc_nu t = false from decide_eq_false (fun z => z.2 g2)] at h; exact h
  · rw [show qc_nu t = true from decide_eq_true ⟨g, g2⟩] at h; exact h
theorem qc_xcp {t : Int32} {post : Int32 → Prop} (h : post (qa_b (qc_cp t))) : wpX_isComparison post (xlim, xn, xpc, xlv, xop, xql, xrc, xrt, xod, xpo, xnm, xvl, xmv, xrk, xpt, xsz, xpd, xpa, xct, xqu, xco, xse, xpe, xgv, xan, xal, xng, xrs) t := by
  refine br_c (fun g => ?_) (fun g => br_c (fun g2 => ?_) (fun g2 => br_c (fun g3 => ?_) (fun g3 => ?_)))
  · rw [show qc_cp t = true from decide_eq_true (Or.inl g)] at h; exact h
  · rw [show qc_cp t = true from decide_eq_true (Or.inr (Or.inl g2))] at h; exact h
  · rw [show qc_cp t = true from decide_eq_true (Or.inr (Or.inr g3))] at h; exact h
  · rw [show qc_cp t = false from decide_eq_false (fun z => by rcases z with z | z | z; exact g z; exact g2 z; exact g3 z)] at h; exact h
theorem qc_xaf {s l o : Nat} {pa : Nat → Nat} {ct : Nat → Bool} {t : Int32} {post : Int32 → SX → Prop} (R : qc_X (s, l, o, pa, ct) xlv xop xpa xct) (h1 : 1 ≤ l) (h2 : l ≤ 3) (h3 : o ≤ 4) (h4 : o = qc_sm pa l)
    (h : ∀ lv op pa' ct', ((qc_af l o pa ct t).1 ≠ 0 → qc_X (qc_af l o pa ct t) lv op pa' ct') → post (nI (qc_af l o pa ct t).1) (xlim, xn, xpc, lv, op, xql, xrc, xrt, xod, xpo, xnm, xvl, xmv, xrk, xpt, xsz, xpd, pa', ct', xqu, xco, xse, xpe, xgv, xan, xal, xng, xrs)) : wpX_stateAfterAtom post (xlim, xn, xpc, xlv, xop, xql, xrc, xrt, xod, xpo, xnm, xvl, xmv, xrk, xpt, xsz, xpd, xpa, xct, xqu, xco, xse, xpe, xgv, xan, xal, xng, xrs) t := by
  obtain ⟨rfl, rfl, r3, r4⟩ := R
  have hp := qc_sm_ge pa l h1
  have il : vp_in (nI l) 4 := vp_in_nI (by omega) (by omega)
  have el : xpa (nI l).toNatClampNeg = nI (pa l) := by rw [nI_clamp (by omega)]; exact r3 l h1 (Nat.le_refl _)
  unfold qc_af at h
  by_cases g5 : t = 5
  · rw [if_pos (Or.inl g5)] at h
    exact br_t g5 (h _ _ _ _ (fun _ => ⟨rfl, rfl, r3, fun j j1 j2 j3 => r4 j j1 j2 (by omega)⟩))
  · by_cases g6 : t = 6
    · rw [if_pos (Or.inr g6)] at h
      exact br_f g5 (br_t g6 (h _ _ _ _ (fun _ => ⟨rfl, rfl, r3, fun j j1 j2 j3 => r4 j j1 j2 (by omega)⟩)))
    · rw [if_neg (by rintro (z | z); exact g5 z; exact g6 z)] at h
      refine br_f g5 (br_f g6 ?_)
      by_cases g4 : t = 4
      · refine br_t g4 ⟨il, ?_⟩
        rw [el]
        by_cases gp : 0 < pa l
        · rw [if_pos ⟨g4, gp⟩] at h
          refine br_f (nI_nle gp (by omega)) (nm_r (pk_sub (a := o) (b := 1) (by omega)) ⟨il, il, fun a ea => ?_⟩)
          rw [nI_clamp (by omega)] at ea
          refine h _ _ _ _ (fun _ => ⟨rfl, rfl, fun j j1 j2 => ?_, fun j j1 j2 j3 => r4 j j1 j2 (by omega)⟩)
          rw [ea]
          by_cases e : j = l
          · rw [e, pk_us, qc_put_s]; exact pk_sub (a := pa l) (b := 1) (by omega)
          · rw [pk_un e, qc_put_n e]; exact r3 j j1 j2
        · rw [if_neg (fun z => gp z.2), if_neg (fun z => by rw [g4] at z; exact absurd z.1 (by decide))] at h
          have e0 : pa l = 0 := by omega
          refine br_t (by rw [e0]; decide) (br_f (by rw [g4]; decide) (h _ _ _ _ (fun z => absurd rfl z)))
      · rw [if_neg (fun z => g4 z.1)] at h
        refine br_f g4 ?_
        by_cases g2 : t = 2
        · refine br_t g2 ⟨il, ?_⟩
          rw [el]
          by_cases gp : pa l = 0
          · rw [if_pos ⟨g2, gp⟩] at h
            refine br_t (by rw [gp]; decide) (nm_r (pk_sub (a := l) (b := 1) (by omega)) (h _ _ _ _ (fun _ => ⟨rfl, rfl, fun j j1 j2 => r3 j j1 (by omega), fun j j1 j2 j3 => r4 j j1 (by omega) (by omega)⟩)))
          · rw [if_neg (fun z => gp z.2)] at h
            exact br_f (nI_ne0 (by omega) (by omega)) (h _ _ _ _ (fun z => absurd rfl z))
        · rw [if_neg (fun z => g2 z.1)] at h
          exact br_f g2 (h _ _ _ _ (fun z => absurd rfl z))
theorem qc_xsp {l o : Nat} {pa : Nat → Nat} {ct : Nat → Bool} {t : Int32} {post : Int32 → SX → Prop} (R : qc_X (3, l, o, pa, ct) xlv xop xpa xct) (h2 : l ≤ 3) (h3 : o ≤ 4) (h4 : o = qc_sm pa l)
    (h : ∀ lv op pa' ct', ((qc_sp l o pa ct t).1 ≠ 0 → qc_X (qc_sp l o pa ct t) lv op pa' ct') → post (nI (qc_sp l o pa ct t).1) (xlim, xn, xpc, lv, op, xql, xrc, xrt, xod, xpo, xnm, xvl, xmv, xrk, xpt, xsz, xpd, pa', ct', xqu, xco, xse, xpe, xgv, xan, xal, xng, xrs)) : wpX_stateAfterStep post (xlim, xn, xpc, xlv, xop, xql, xrc, xrt, xod, xpo, xnm, xvl, xmv, xrk, xpt, xsz, xpd, xpa, xct, xqu, xco, xse, xpe, xgv, xan, xal, xng, xrs) t := by
  have R0 := R
  obtain ⟨rfl, rfl, r3, r4⟩ := R
  unfold wpX_stateAfterStep
  dsimp only
  unfold qc_sp at h
  refine qc_xax (qa_br (fun ga => ?_) (fun ga => ?_))
  · rw [if_neg (by rw [ga]; decide)] at h
    by_cases g1 : t = 1
    · rw [if_pos g1] at h
      refine br_t g1 ?_
      refine pk_lt l 3 (fun g => ?_) (fun g => ?_)
      · rw [if_pos g] at h
        refine nm_r (nI_1 l) ⟨vp_in_nI (by omega) (by omega), fun a ea => ?_⟩
        rw [nI_clamp (by omega)] at ea
        refine h (nI (l + 1)) (nI o) a xct (fun _ => ⟨rfl, rfl, fun j j1 j2 => ?_, fun j j1 j2 j3 => r4 j j1 (by omega) (by omega)⟩)
        rw [ea]
        by_cases e : j = l + 1
        · rw [e, pk_us, qc_put_s]; rfl
        · rw [pk_un e, qc_put_n e]; exact r3 j j1 (by omega)
      · rw [if_neg (by omega)] at h; exact h _ _ _ _ (fun z => absurd rfl z)
    · rw [if_neg g1] at h
      refine br_f g1 ?_
      by_cases g0 : l = 0
      · rw [if_pos g0] at h
        exact br_t (by rw [g0]; decide) (h _ _ _ _ (fun z => absurd rfl z))
      · rw [if_neg g0] at h
        refine br_f (nI_ne0 (by omega) (by omega)) ⟨vp_in_nI (by omega) (by omega), ?_⟩
        rw [nI_clamp (by omega), r4 l (by omega) (Nat.le_refl _) (Or.inr (by omega))]
        refine qa_br (fun gc => ?_) (fun gc => ?_)
        · rw [if_neg (by rw [gc]; decide)] at h
          exact qc_xaf R0 (by omega) h2 h3 h4 h
        · rw [if_pos gc] at h
          refine qc_xcp (qa_br (fun gd => ?_) (fun gd => ?_))
          · rw [if_neg (by rw [gd]; decide)] at h; exact h _ _ _ _ (fun z => absurd rfl z)
          · rw [if_pos gd] at h
            exact h _ _ _ _ (fun _ => ⟨rfl, rfl, r3, fun j j1 j2 j3 => r4 j j1 j2 (by omega)⟩)
  · rw [if_pos ga] at h
    exact h _ _ _ _ (fun _ => ⟨rfl, rfl, r3, fun j j1 j2 j3 => r4 j j1 j2 (by omega)⟩)
theorem qc_xop76 {l o : Nat} {pa : Nat → Nat} {ct : Nat → Bool} {t : Int32} {post : Int32 → SX → Prop} (R : qc_X (4, l, o, pa, ct) xlv xop xpa xct) (h2 : l ≤ 3)
    (n1 : t ≠ 7) (n2 : t ≠ 3) (n3 : t ≠ 8) (n4 : t ≠ 10) (n5 : t ≠ 9) (n6 : t ≠ 11)
    (h : ∀ lv op pa' ct', ((qc_op l o pa ct t).1 ≠ 0 → qc_X (qc_op l o pa ct t) lv op pa' ct') → post (nI (qc_op l o pa ct t).1) (xlim, xn, xpc, lv, op, xql, xrc, xrt, xod, xpo, xnm, xvl, xmv, xrk, xpt, xsz, xpd, pa', ct', xqu, xco, xse, xpe, xgv, xan, xal, xng, xrs)) : wX_stateInOperand_76 post t xlim xn xpc xlv xop xql xrc xrt xod xpo xnm xvl xmv xrk xpt xsz xpd xpa xct xqu xco xse xpe xgv xan xal xng xrs := by
  obtain ⟨rfl, rfl, r3, r4⟩ := R
  unfold qc_op at h
  rw [if_neg n1, if_neg n2, if_neg (by rintro (z | z); exact n3 z; exact n4 z), if_neg n5, if_neg n6] at h
  refine And.intro (vp_in_nI (by omega) (by omega)) (fun a ea => qc_xax (qa_br (fun g => ?_) (fun g => ?_)))
  · rw [if_neg (by rw [g]; decide)] at h; exact h _ _ _ _ (fun z => absurd rfl z)
  · rw [if_pos g] at h
    rw [nI_clamp (by omega)] at ea
    refine h _ _ _ _ (fun _ => ⟨rfl, rfl, r3, fun j j1 j2 j3 => ?_⟩)
    rw [ea]
    by_cases e : j = l
    · rw [e, pk_us, qc_put_s]; rfl
    · rw [pk_un e, qc_put_n e]; exact r4 j j1 j2 (by omega)
theorem qc_xop {l o : Nat} {pa : Nat → Nat} {ct : Nat → Bool} {t : Int32} {post : Int32 → SX → Prop} (R : qc_X (4, l, o, pa, ct) xlv xop xpa xct) (h1 : 1 ≤ l) (h2 : l ≤ 3) (h3 : o ≤ 4)
    (h : ∀ lv op pa' ct', ((qc_op l o pa ct t).1 ≠ 0 → qc_X (qc_op l o pa ct t) lv op pa' ct') → post (nI (qc_op l o pa ct t).1) (xlim, xn, xpc, lv, op, xql, xrc, xrt, xod, xpo, xnm, xvl, xmv, xrk, xpt, xsz, xpd, pa', ct', xqu, xco, xse, xpe, xgv, xan, xal, xng, xrs)) : wpX_stateInOperand post (xlim, xn, xpc, xlv, xop, xql, xrc, xrt, xod, xpo, xnm, xvl, xmv, xrk, xpt, xsz, xpd, xpa, xct, xqu, xco, xse, xpe, xgv, xan, xal, xng, xrs) t := by
  have R0 := R
  obtain ⟨rfl, rfl, r3, r4⟩ := R
  have il : vp_in (nI l) 4 := vp_in_nI (by omega) (by omega)
  have el : xpa (nI l).toNatClampNeg = nI (pa l) := by rw [nI_clamp (by omega)]; exact r3 l h1 (Nat.le_refl _)
  have keep : qc_X (4, l, o, pa, ct) (nI l) (nI o) xpa xct := R0
  have k5 : qc_X (5, l, o, pa, ct) (nI l) (nI o) xpa xct := ⟨rfl, rfl, r3, fun j j1 j2 j3 => r4 j j1 j2 (by omega)⟩
  have k7 : qc_X (7, l, o, pa, ct) (nI l) (nI o) xpa xct := ⟨rfl, rfl, r3, fun j j1 j2 j3 => r4 j j1 j2 (by omega)⟩
  by_cases g7 : t = 7
  · subst g7; exact br_f (by decide) (br_f (by decide) (br_f (by decide) (br_f (by decide) (br_f (by decide) (br_f (by decide) (br_t (by decide) (h _ _ _ _ (fun _ => keep))))))))
  · by_cases g3 : t = 3
    · subst g3
      refine br_f (by decide) (br_f (by decide) (br_t (by decide) ?_))
      rw [show qc_op l o pa ct 3 = (if o < 4 then (4, l, o + 1, qc_put pa l (pa l + 1), ct) else (0, l, o, pa, ct)) from rfl] at h
      refine pk_lt o 4 (fun g => ?_) (fun g => ?_)
      · rw [if_pos g] at h
        refine nm_r (nI_1 o) ⟨il, il, fun a ea => ?_⟩
        rw [el, nI_clamp (by omega), nI_1] at ea
        refine h (nI l) (nI (o + 1)) a xct (fun _ => ⟨rfl, rfl, fun j j1 j2 => ?_, fun j j1 j2 j3 => r4 j j1 j2 (by omega)⟩)
        rw [ea]
        by_cases e : j = l
        · rw [e, pk_us, qc_put_s]
        · rw [pk_un e, qc_put_n e]; exact r3 j j1 j2
      · rw [if_neg (by omega)] at h; exact h _ _ _ _ (fun z => absurd rfl z)
    · by_cases g8 : t = 8
      · subst g8; exact br_f (by decide) (br_f (by decide) (br_f (by decide) (br_f (by decide) (br_f (by decide) (br_f (by decide) (br_f (by decide) (br_t (by decide) (h _ _ _ _ (fun _ => k5)))))))))
      · by_cases g10 : t = 10
        · subst g10; exact br_f (by decide) (br_f (by decide) (br_f (by decide) (br_f (by decide) (br_f (by decide) (br_f (by decide) (br_f (by decide) (br_f (by decide) (br_f (by decide) (br_t (by decide) (h _ _ _ _ (fun _ => k5)))))))))))
        · by_cases g9 : t = 9
          · subst g9; exact br_f (by decide) (br_f (by decide) (br_f (by decide) (br_f (by decide) (br_f (by decide) (br_f (by decide) (br_f (by decide) (br_f (by decide) (br_t (by decide) (h _ _ _ _ (fun _ => k7))))))))))
          · by_cases g11 : t = 11
            · subst g11
              rw [show qc_op l o pa ct 11 = (1, l, o, pa, qc_put ct l true) from rfl] at h
              refine br_f (by decide) (br_f (by decide) (br_f (by decide) (br_f (by decide) (br_f (by decide) (br_f (by decide) (br_f (by decide) (br_f (by decide) (br_f (by decide) (br_f (by decide) (br_t (by decide) ⟨il, fun a ea => ?_⟩))))))))))
              rw [nI_clamp (by omega)] at ea
              refine h _ _ _ _ (fun _ => ⟨rfl, rfl, r3, fun j j1 j2 j3 => ?_⟩)
              rw [ea]
              by_cases e : j = l
              · rw [e, pk_us, qc_put_s]; rfl
              · rw [pk_un e, qc_put_n e]; exact r4 j j1 j2 (by omega)
            · have c := qc_xop76 R0 h2 g7 g3 g8 g10 g9 g11 h
              exact br_c (fun _ => c) (fun _ => br_c (fun _ => c) (fun _ => br_f g3 (br_c (fun _ => c) (fun _ => br_c (fun _ => c) (fun _ => br_c (fun _ => c) (fun _ => br_f g7 (br_f g8 (br_f g9 (br_f g10 (br_f g11 trivial))))))))))
theorem qc_xnx {s l o : Nat} {pa : Nat → Nat} {ct : Nat → Bool} {t : Int32} {post : Int32 → SX → Prop} (R : qc_X (s, l, o, pa, ct) xlv xop xpa xct) (W : qc_W (s, l, o, pa, ct))
    (h : ∀ lv op pa' ct', ((qc_nx (s, l, o, pa, ct) t).1 ≠ 0 → qc_X (qc_nx (s, l, o, pa, ct) t) lv op pa' ct') → post (nI (qc_nx (s, l, o, pa, ct) t).1) (xlim, xn, xpc, lv, op, xql, xrc, xrt, xod, xpo, xnm, xvl, xmv, xrk, xpt, xsz, xpd, pa', ct', xqu, xco, xse, xpe, xgv, xan, xal, xng, xrs)) : wpX_stateAfter post (xlim, xn, xpc, xlv, xop, xql, xrc, xrt, xod, xpo, xnm, xvl, xmv, xrk, xpt, xsz, xpd, xpa, xct, xqu, xco, xse, xpe, xgv, xan, xal, xng, xrs) (nI s) t := by
  obtain ⟨w1, w2, w3, w4, w5, w6⟩ := W
  have R0 := R
  obtain ⟨r1, r2, r3, r4⟩ := R
  have hs : s = 1 ∨ s = 2 ∨ s = 3 ∨ s = 4 ∨ s = 5 ∨ s = 6 ∨ s = 7 := by omega
  unfold wpX_stateAfter
  dsimp only
  rcases hs with rfl | rfl | rfl | rfl | rfl | rfl | rfl
  · rw [qc_nx_1] at h
    refine br_f (by decide) (br_f (by decide) (br_t (by decide) (qc_xax (qa_br (fun g => ?_) (fun g => ?_)))))
    · rw [if_neg (by rw [g]; decide)] at h; exact h _ _ _ _ (fun z => absurd rfl z)
    · rw [if_pos g] at h; exact h _ _ _ _ (fun _ => ⟨r1, r2, r3, fun j j1 j2 j3 => r4 j j1 j2 (by omega)⟩)
  · rw [qc_nx_2] at h
    refine br_f (by decide) (br_f (by decide) (br_f (by decide) (br_t (by decide) (qc_xnm (qa_br (fun g => ?_) (fun g => ?_))))))
    · rw [if_neg (by rw [g]; decide)] at h; exact h _ _ _ _ (fun z => absurd rfl z)
    · rw [if_pos g] at h; exact h _ _ _ _ (fun _ => ⟨r1, r2, r3, fun j j1 j2 j3 => r4 j j1 j2 (by omega)⟩)
  · rw [qc_nx_3] at h
    exact br_f (by decide) (br_f (by decide) (br_f (by decide) (br_f (by decide) (br_t (by decide) (qc_xsp R0 w3 w4 w5 h)))))
  · rw [qc_nx_4] at h
    exact br_f (by decide) (br_f (by decide) (br_f (by decide) (br_f (by decide) (br_f (by decide) (br_t (by decide) (qc_xop R0 (w6 (by omega)) w3 w4 h))))))
  · rw [qc_nx_5] at h
    refine br_f (by decide) (br_f (by decide) (br_f (by decide) (br_f (by decide) (br_f (by decide) (br_f (by decide) (br_t (by decide) (qc_xcp (qa_br (fun g => ?_) (fun g => ?_)))))))))
    · rw [if_neg (by rw [g]; decide)] at h; exact h _ _ _ _ (fun z => absurd rfl z)
    · rw [if_pos g] at h; exact h _ _ _ _ (fun _ => ⟨r1, r2, r3, fun j j1 j2 j3 => r4 j j1 j2 (by omega)⟩)
  · rw [qc_nx_6] at h
    refine br_f (by decide) (br_f (by decide) (br_f (by decide) (br_f (by decide) (br_f (by decide) (br_f (by decide) (br_f (by decide) (br_t (by decide) (qc_xnu (qa_br (fun g => ?_) (fun g => ?_))))))))))
    · rw [if_neg (by rw [g]; decide)] at h; exact h _ _ _ _ (fun z => absurd rfl z)
    · rw [if_pos g] at h; exact h _ _ _ _ (fun _ => ⟨r1, r2, r3, fun j j1 j2 j3 => r4 j j1 j2 (by omega)⟩)
  · rw [qc_nx_7] at h
    exact br_f (by decide) (br_f (by decide) (br_f (by decide) (br_f (by decide) (br_f (by decide) (br_f (by decide) (br_f (by decide) (br_f (by decide) (br_t (by decide) (qc_xaf R0 (w6 (by omega)) w3 w4 w5 h)))))))))
end
section
variable {xlim : Int32} {xn : Int32} {xpc : Int32} {xlv : Int32} {xop : Int32} {xql : Int32} {xrc : Int32} {xrt : Int64} {xod : (Nat → Int32)} {xpo : (Nat → Int32)} {xnm : (Nat → Int32)} {xvl : (Nat → Int32)} {xmv : (Nat → Int32)} {xrk : (Nat → Int32)} {xpt : (Nat → Int32)} {xsz : (Nat → Int32)} {xpd : (Nat → Int32)} {xpa : (Nat → Int32)} {xct : (Nat → Int32)} {xqu : (Nat → Int32)} {xco : (Nat → Int32)} {xse : (Nat → Int32)} {xpe : (Nat → Int32)} {xgv : (Nat → Int64)} {xan : (Nat → Int64)} {xal : (Nat → Int64)} {xng : (Nat → Int32)} {xrs : (Nat → Int32)}
theorem qc_xwp {w : Nat} {post : Int32 → SX → Prop} (hw : w ≤ 40) (h : ∀ lv op pa ct, post (nI (qc_wp xpd w 0)) (xlim, xn, nI w, lv, op, xql, xrc, xrt, xod, xpo, xnm, xvl, xmv, xrk, xpt, xsz, xpd, pa, ct, xqu, xco, xse, xpe, xgv, xan, xal, xng, xrs)) : wpX_wrongPlace post (xlim, xn, nI w, xlv, xop, xql, xrc, xrt, xod, xpo, xnm, xvl, xmv, xrk, xpt, xsz, xpd, xpa, xct, xqu, xco, xse, xpe, xgv, xan, xal, xng, xrs) := by
  have key : ∀ k i lv op pa ct, i + k = w → qc_W (qc_tr xpd i) → qc_X (qc_tr xpd i) lv op pa ct → (∀ lv op pa ct, post (nI (qc_wp xpd k i)) (xlim, xn, nI w, lv, op, xql, xrc, xrt, xod, xpo, xnm, xvl, xmv, xrk, xpt, xsz, xpd, pa, ct, xqu, xco, xse, xpe, xgv, xan, xal, xng, xrs)) → wX_wrongPlace_14 post (k + 1) (nI (qc_tr xpd i).1) (nI i) xlim xn (nI w) lv op xql xrc xrt xod xpo xnm xvl xmv xrk xpt xsz xpd pa ct xqu xco xse xpe xgv xan xal xng xrs := by
    intro k
    induction k with
    | zero =>
      intro i lv op pa ct e W R h
      simp only [qc_wp] at h
      refine br_t (nI_le (by omega) (by omega)) ?_
      have hl : lv = nI (qc_tr xpd i).2.1 := R.1
      have w2 : (qc_tr xpd i).1 ≤ 7 := W.2.1
      have w3 : (qc_tr xpd i).2.1 ≤ 3 := W.2.2.1
      have ew : w = i := by omega
      subst ew
      refine pk_eq (qc_tr xpd w).1 3 (fun g => ?_) (fun g => ?_)
      · rw [hl]
        refine pk_eq (qc_tr xpd w).2.1 0 (fun g2 => ?_) (fun g2 => ?_)
        · rw [if_pos ⟨g, g2⟩] at h; exact h _ _ _ _
        · rw [if_neg (fun z => g2 z.2)] at h; rw [nI_1]; exact h _ _ _ _
      · rw [if_neg (fun z => g z.1)] at h; rw [nI_1]; exact h _ _ _ _
    | succ k ih =>
      intro i lv op pa ct e W R h
      simp only [qc_wp] at h
      refine br_f (nI_ge (by omega) (by omega)) ⟨vp_in_nI (by omega) (by omega), ?_⟩
      rw [nI_clamp (by omega)]
      refine qc_xnx (s := (qc_tr xpd i).1) R W (fun lv' op' pa' ct' R' => ?_)
      have en : qc_nx (qc_tr xpd i) (xpd i) = qc_tr xpd (i + 1) := rfl
      rw [show ((qc_tr xpd i).1, (qc_tr xpd i).2.1, (qc_tr xpd i).2.2.1, (qc_tr xpd i).2.2.2.1, (qc_tr xpd i).2.2.2.2) = qc_tr xpd i from rfl, en] at R' ⊢
      by_cases g : (qc_tr xpd (i + 1)).1 = 0
      · rw [if_pos g] at h
        refine br_t (by rw [g]; decide) ?_
        rw [nI_1]; exact h _ _ _ _
      · rw [if_neg g] at h
        have W' : qc_W (qc_tr xpd (i + 1)) := qc_W_nx W g
        have w2 : (qc_tr xpd (i + 1)).1 ≤ 7 := W'.2.1
        exact br_f (nI_ne0 (by omega) (by omega)) (nm_r (nI_1 i) (ih (i + 1) _ _ _ _ (by omega) W' (R' g) h))
  exact Exists.intro _ (key w 0 0 0 xpa xct (by omega) qc_W_0 ⟨rfl, rfl, fun j j1 j2 => by omega, fun j j1 j2 => by omega⟩ h)
end
