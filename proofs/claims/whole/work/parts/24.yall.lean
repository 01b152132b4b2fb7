/-! Y: paths -/
theorem qs_any_c {C D : Nat → Bool} (h : ∀ x, C x = D x) (n : Nat) : qs_any C n = qs_any D n := by rw [show C = D from funext h]
theorem qs_any_b {C D : Nat → Bool} {n m : Nat} (h : (∃ x, x < n ∧ C x = true) ↔ (∃ x, x < m ∧ D x = true)) : qs_any C n = qs_any D m := by
  rw [Bool.eq_iff_iff, qs_any_iff, qs_any_iff]; exact h
section
variable {ymo : Int32} {yn : Int32} {yw : Int32} {yle : Int32} {yfo : Int32} {yli : Int32} {yat : Int32} {ysu : Int64} {yid : (Nat → Int32)} {ydp : (Nat → Int32)} {ynm : (Nat → Int32)} {yvl : (Nat → Int32)} {yci : (Nat → Int32)} {ycd : (Nat → Int32)} {ypd : (Nat → Int32)} {yqu : (Nat → Int32)} {ygv : (Nat → Int64)} {yls : (Nat → Int32)} {yrs : (Nat → Int32)} {yor : (Nat → Int32)} {yan : (Nat → Int32)} {yno : (Nat → Int32)} {yow : (Nat → Int32)} {ypa : (Nat → Int32)}
variable {n len : Nat} {i d : Nat → Nat} {po q : Nat → Int32} {g : Nat → Int64}
theorem qs_y37 {k : Nat} {set : Int64} {post : Int64 → SY → Prop} {J : Int64 → Int32 → Int32 → Int32 → Int32 → Int32 → Int32 → Int32 → Int32 → Int64 → (Nat → Int32) → (Nat → Int32) → (Nat → Int32) → (Nat → Int32) → (Nat → Int32) → (Nat → Int32) → (Nat → Int32) → (Nat → Int32) → (Nat → Int64) → (Nat → Int32) → (Nat → Int32) → (Nat → Int32) → (Nat → Int32) → (Nat → Int32) → (Nat → Int32) → (Nat → Int32) → Prop} (H : qs_HY n i d yid ydp po len q yqu) (hk : k < len) (ha : qc_ax (q k) = true)
    (Y : qs_YG q len n g ygv ((qc_tr q k).2.1 + 1)) (hg : ∀ t, t < len → qc_ax (q t) = true → ∀ c, c < n → ∀ y, qb (g (t * 40 + c)) y = true → y < n)
    (h : ∀ w li at' ls or' an' no', (∀ y, qb w y = qs_any (fun x => qb set x && qs_SG n d i ynm yvl q len g k x y) n) → J w (nI (qe_se q len k)) ymo (nI n) yw (nI len) yfo li at' ysu yid ydp ynm yvl yci ycd ypd yqu ygv ls yrs or' an' no' yow ypa) :
    ∀ f j w li at' ls or' an' no', j + f = n → (∀ y, qb w y = qs_any (fun x => qb set x && qs_SG n d i ynm yvl q len g k x y) j) →
    wY_path_37 post J (nI k) set (f + 1) w (nI j) ymo (nI n) yw (nI len) yfo li at' ysu yid ydp ynm yvl yci ycd ypd yqu ygv ls yrs or' an' no' yow ypa := by
  have hn := H.1.1.2
  intro f
  induction f with
  | zero =>
    intro j w li at' ls or' an' no' e hw
    have e : j = n := by omega
    subst e
    exact br_t (nI_le (by omega) (by omega)) (qs_yse H hk ha (h w li at' ls or' an' no' hw))
  | succ f ih =>
    intro j w li at' ls or' an' no' e hw
    refine br_f (nI_ge (by omega) (by omega)) (qb_br (by omega) (fun z => ?_) (fun z => ?_))
    · refine nm_r (nI_1 j) (ih (j + 1) w li at' ls or' an' no' (by omega) (fun y => ?_))
      simp only [qs_any]
      rw [hw y, z, Bool.false_and, Bool.or_false]
    · refine qs_yst H hk ha (by omega) Y hg (fun w2 li2 at2 ls2 or2 an2 no2 hw2 => nm_e (nm_r (nI_1 j) ?_))
      refine ih (j + 1) _ li2 at2 ls2 or2 an2 no2 (by omega) (fun y => ?_)
      simp only [qs_any]
      rw [qb_or, hw y, z, hw2 y, Bool.true_and]
theorem qs_ypa {t c : Nat} {post : Int64 → SY → Prop} (H : qs_HY n i d yid ydp po len q yqu) (ht : t < len) (ha : qc_ax (q t) = true) (hc : c < n)
    (Y : qs_YG q len n g ygv ((qc_tr q t).2.1 + 1)) (LC : qs_LC n d i ynm yvl q len g 0) (hg : ∀ t, t < len → qc_ax (q t) = true → ∀ c, c < n → ∀ y, qb (g (t * 40 + c)) y = true → y < n)
    (h : ∀ li at' ls or' an' no', post (g (t * 40 + c)) (ymo, nI n, yw, nI len, yfo, li, at', ysu, yid, ydp, ynm, yvl, yci, ycd, ypd, yqu, ygv, ls, yrs, or', an', no', yow, ypa)) : wpY_path post (ymo, nI n, yw, nI len, yfo, yli, yat, ysu, yid, ydp, ynm, yvl, yci, ycd, ypd, yqu, ygv, yls, yrs, yor, yan, yno, yow, ypa) (nI t) (nI c) := by
  obtain ⟨B, hl, G, hq, hy⟩ := id H
  have hn := B.1.2
  have done : ∀ k w li at' ls or' an' no', ¬ (k < len ∧ qc_ax (q k) = true) → (∀ y, (if k < len ∧ qc_ax (q k) = true then qs_any (fun x => qb w x && qb (g (k * 40 + x)) y) n else qb w y) = qb (g (t * 40 + c)) y) → post w (ymo, nI n, yw, nI len, yfo, li, at', ysu, yid, ydp, ynm, yvl, yci, ycd, ypd, yqu, ygv, ls, yrs, or', an', no', yow, ypa) := by
    intro k w li at' ls or' an' no' hk hw
    have e : w = g (t * 40 + c) := qb_ext (fun y _ => by have := hw y; rw [if_neg hk] at this; exact this)
    rw [e]; exact h _ _ _ _ _ _
  have key : ∀ f k w li at' ls or' an' no', len - k ≤ f → k ≤ len → (qc_tr q k).2.1 = (qc_tr q t).2.1 →
      (∀ y, (if k < len ∧ qc_ax (q k) = true then qs_any (fun x => qb w x && qb (g (k * 40 + x)) y) n else qb w y) = qb (g (t * 40 + c)) y) →
      wY_path_7 post (f + 1) w (nI k) ymo (nI n) yw (nI len) yfo li at' ysu yid ydp ynm yvl yci ycd ypd yqu ygv ls yrs or' an' no' yow ypa := by
    intro f
    induction f with
    | zero =>
      intro k w li at' ls or' an' no' hf hk hlv hw
      exact br_t (nI_le (by omega) (by omega)) (done k w _ _ _ _ _ _ (by omega) hw)
    | succ f ih =>
      intro k w li at' ls or' an' no' hf hk hlv hw
      refine pk_le len k (fun z => done k w _ _ _ _ _ _ (by omega) hw) (fun z => ⟨vp_in_nI (by omega) (by omega), ?_⟩)
      rw [nI_clamp (n := k) (by omega), hy k z]
      refine qc_yax (qa_br (fun ga => ?_) (fun ga => ?_))
      · exact done k w _ _ _ _ _ _ (fun y => by rw [ga] at y; exact absurd y.2 (by decide)) hw
      · obtain ⟨t1, t2, t3, t4, t5, t6⟩ := qe_se_spec G z ga
        obtain ⟨x1, x2, x3, x4, x5, x6⟩ := qe_axt G z ga
        have b := qe_se_ge q len k
        refine Exists.intro (n + 1) (qs_y37 (set := w) H z ga (by rw [hlv]; exact Y) hg (fun w2 li2 at2 ls2 or2 an2 no2 hw2 => ?_) n 0 0 li at' ls or' an' no' (by omega) (fun y => by rw [qb_0]; rfl))
        refine ih (qe_se q len k) w2 li2 at2 ls2 or2 an2 no2 (by omega) t4 (by rw [t5.2.1, x2]; exact hlv) (fun y => ?_)
        have hwy := hw y
        rw [if_pos ⟨z, ga⟩] at hwy
        rw [← hwy]
        by_cases gs : qc_ax (q (qe_se q len k)) = true
        · have hlt : qe_se q len k < len := by
            refine Nat.lt_of_not_le (fun y => ?_)
            rw [hq _ y (by omega)] at gs
            exact absurd gs (by decide)
          rw [if_pos ⟨hlt, gs⟩]
          refine qs_any_b ?_
          constructor
          · rintro ⟨x, hx, hb⟩
            rw [Bool.and_eq_true, hw2 x, qs_any_iff] at hb
            obtain ⟨⟨v, hv, hb1⟩, hb2⟩ := hb
            rw [Bool.and_eq_true] at hb1
            refine ⟨v, hv, ?_⟩
            rw [Bool.and_eq_true, LC k (by omega) z ga v hv y]
            refine ⟨hb1.1, ?_⟩
            unfold qs_PT
            rw [if_pos gs, qs_any_iff]
            exact ⟨x, hx, by rw [Bool.and_eq_true]; exact ⟨hb1.2, hb2⟩⟩
          · rintro ⟨v, hv, hb⟩
            rw [Bool.and_eq_true, LC k (by omega) z ga v hv y] at hb
            unfold qs_PT at hb
            rw [if_pos gs, qs_any_iff] at hb
            obtain ⟨hb1, x, hx, hb2⟩ := hb
            rw [Bool.and_eq_true] at hb2
            refine ⟨x, hx, ?_⟩
            rw [Bool.and_eq_true, hw2 x, qs_any_iff]
            exact ⟨⟨v, hv, by rw [Bool.and_eq_true]; exact ⟨hb1, hb2.1⟩⟩, hb2.2⟩
        · rw [if_neg (fun y => gs y.2), hw2 y]
          refine qs_any_b ?_
          constructor
          · rintro ⟨v, hv, hb⟩
            rw [Bool.and_eq_true] at hb
            refine ⟨v, hv, ?_⟩
            rw [Bool.and_eq_true, LC k (by omega) z ga v hv y]
            unfold qs_PT
            rw [if_neg gs]
            exact hb
          · rintro ⟨v, hv, hb⟩
            rw [Bool.and_eq_true, LC k (by omega) z ga v hv y] at hb
            unfold qs_PT at hb
            rw [if_neg gs] at hb
            refine ⟨v, hv, ?_⟩
            rw [Bool.and_eq_true]
            exact hb
  refine nm_e (Exists.intro (len - t + 1) (key (len - t) t _ _ _ _ _ _ _ (Nat.le_refl _) (by omega) rfl (fun y => ?_)))
  rw [if_pos ⟨ht, ha⟩, Bool.eq_iff_iff, qs_any_iff]
  constructor
  · rintro ⟨x, hx, hb⟩
    rw [Bool.and_eq_true, qb_shl _ (by omega)] at hb
    have := of_decide_eq_true hb.1
    subst this
    exact hb.2
  · intro hb
    refine ⟨c, hc, ?_⟩
    rw [Bool.and_eq_true, qb_shl _ (by omega)]
    exact ⟨decide_eq_true rfl, hb⟩
/-! Y: inner paths -/
theorem qs_prev {S : qc_St} {t : Int32} (W : qc_W S) (h : (qc_nx S t).1 = 1 ∨ (qc_nx S t).1 = 4) : t = 1 ∨ t = 3 ∨ t = 5 ∨ t = 6 ∨ t = 7 ∨ t = 11 := by
  obtain ⟨s, l, o, pa, ct⟩ := S
  obtain ⟨w1, w2, w3, w4, w5, w6⟩ := W
  have af : (qc_af l o pa ct t).1 = 1 ∨ (qc_af l o pa ct t).1 = 4 → t = 1 ∨ t = 3 ∨ t = 5 ∨ t = 6 ∨ t = 7 ∨ t = 11 := by
    intro h
    unfold qc_af at h
    by_cases g1 : t = 5 ∨ t = 6
    · rcases g1 with z | z
      · exact Or.inr (Or.inr (Or.inl z))
      · exact Or.inr (Or.inr (Or.inr (Or.inl z)))
    · rw [if_neg g1] at h
      by_cases g2 : t = 4 ∧ 0 < pa l
      · rw [if_pos g2] at h; rcases h with h | h <;> exact absurd h (by show ¬ (7 = _); omega)
      · rw [if_neg g2] at h
        by_cases g3 : t = 2 ∧ pa l = 0
        · rw [if_pos g3] at h; rcases h with h | h <;> exact absurd h (by show ¬ (3 = _); omega)
        · rw [if_neg g3] at h; rcases h with h | h <;> exact absurd h (by show ¬ (0 = _); omega)
  have hs : s = 1 ∨ s = 2 ∨ s = 3 ∨ s = 4 ∨ s = 5 ∨ s = 6 ∨ s = 7 := by omega
  rcases hs with rfl | rfl | rfl | rfl | rfl | rfl | rfl
  · rw [qc_nx_1] at h
    by_cases g : qc_ax t = true
    · rw [if_pos g] at h; rcases h with h | h <;> exact absurd h (by show ¬ (2 = _); omega)
    · rw [if_neg g] at h; rcases h with h | h <;> exact absurd h (by show ¬ (0 = _); omega)
  · rw [qc_nx_2] at h
    by_cases g : qc_nm t = true
    · rw [if_pos g] at h; rcases h with h | h <;> exact absurd h (by show ¬ (3 = _); omega)
    · rw [if_neg g] at h; rcases h with h | h <;> exact absurd h (by show ¬ (0 = _); omega)
  · rw [qc_nx_3] at h
    unfold qc_sp at h
    by_cases g : qc_ax t = true
    · rw [if_pos g] at h; rcases h with h | h <;> exact absurd h (by show ¬ (2 = _); omega)
    · rw [if_neg g] at h
      by_cases g1 : t = 1
      · exact Or.inl g1
      · rw [if_neg g1] at h
        by_cases g2 : l = 0
        · rw [if_pos g2] at h; rcases h with h | h <;> exact absurd h (by show ¬ (0 = _); omega)
        · rw [if_neg g2] at h
          by_cases g3 : ct l = true
          · rw [if_pos g3] at h
            by_cases g4 : qc_cp t = true
            · rw [if_pos g4] at h; rcases h with h | h <;> exact absurd h (by show ¬ (6 = _); omega)
            · rw [if_neg g4] at h; rcases h with h | h <;> exact absurd h (by show ¬ (0 = _); omega)
          · rw [if_neg g3] at h; exact af h
  · rw [qc_nx_4] at h
    unfold qc_op at h
    by_cases g1 : t = 7
    · exact Or.inr (Or.inr (Or.inr (Or.inr (Or.inl g1))))
    · rw [if_neg g1] at h
      by_cases g2 : t = 3
      · exact Or.inr (Or.inl g2)
      · rw [if_neg g2] at h
        by_cases g3 : t = 8 ∨ t = 10
        · rw [if_pos g3] at h; rcases h with h | h <;> exact absurd h (by show ¬ (5 = _); omega)
        · rw [if_neg g3] at h
          by_cases g4 : t = 9
          · rw [if_pos g4] at h; rcases h with h | h <;> exact absurd h (by show ¬ (7 = _); omega)
          · rw [if_neg g4] at h
            by_cases g5 : t = 11
            · exact Or.inr (Or.inr (Or.inr (Or.inr (Or.inr g5))))
            · rw [if_neg g5] at h
              by_cases g6 : qc_ax t = true
              · rw [if_pos g6] at h; rcases h with h | h <;> exact absurd h (by show ¬ (2 = _); omega)
              · rw [if_neg g6] at h; rcases h with h | h <;> exact absurd h (by show ¬ (0 = _); omega)
  · rw [qc_nx_5] at h
    by_cases g : qc_cp t = true
    · rw [if_pos g] at h; rcases h with h | h <;> exact absurd h (by show ¬ (6 = _); omega)
    · rw [if_neg g] at h; rcases h with h | h <;> exact absurd h (by show ¬ (0 = _); omega)
  · rw [qc_nx_6] at h
    by_cases g : qc_nu t = true
    · rw [if_pos g] at h; rcases h with h | h <;> exact absurd h (by show ¬ (7 = _); omega)
    · rw [if_neg g] at h; rcases h with h | h <;> exact absurd h (by show ¬ (0 = _); omega)
  · rw [qc_nx_7] at h; exact af h
theorem qs_y95 {t D : Nat} {x1 x2 : Int32} {post : SY → Prop} {J : Int32 → Int32 → Int32 → Int32 → Int32 → Int32 → Int32 → Int32 → Int32 → Int64 → (Nat → Int32) → (Nat → Int32) → (Nat → Int32) → (Nat → Int32) → (Nat → Int32) → (Nat → Int32) → (Nat → Int32) → (Nat → Int32) → (Nat → Int64) → (Nat → Int32) → (Nat → Int32) → (Nat → Int32) → (Nat → Int32) → (Nat → Int32) → (Nat → Int32) → (Nat → Int32) → Prop} (H : qs_HY n i d yid ydp po len q yqu) (ht : t < len) (ha : qc_ax (q t) = true) (hD : (qc_tr q t).2.1 = D)
    (LC : qs_LC n d i ynm yvl q len g 0) (hg : ∀ t, t < len → qc_ax (q t) = true → ∀ c, c < n → ∀ y, qb (g (t * 40 + c)) y = true → y < n) (A : Nat → Prop)
    (h : ∀ li at' gv ls or' an' no', (∀ j, A j → gv j = g j) → (∀ c, c < n → gv (t * 40 + c) = g (t * 40 + c)) → qs_YG q len n g gv (D + 1) → J x2 (nI (t + 1)) ymo (nI n) yw (nI len) yfo li at' ysu yid ydp ynm yvl yci ycd ypd yqu gv ls yrs or' an' no' yow ypa) :
    ∀ f c li at' gv ls or' an' no', c + f = n → (∀ j, A j → gv j = g j) → (∀ c', c' < c → gv (t * 40 + c') = g (t * 40 + c')) → qs_YG q len n g gv (D + 1) →
    wY_inner_95 post J x1 x2 (nI t) (f + 1) (nI c) ymo (nI n) yw (nI len) yfo li at' ysu yid ydp ynm yvl yci ycd ypd yqu gv ls yrs or' an' no' yow ypa := by
  have hn := H.1.1.2
  have hl := H.2.1
  intro f
  induction f with
  | zero =>
    intro c li at' gv ls or' an' no' e hA hr Y
    have e : c = n := by omega
    subst e
    exact br_t (nI_le (by omega) (by omega)) (nm_r (nI_1 t) (h _ _ _ _ _ _ _ hA hr Y))
  | succ f ih =>
    intro c li at' gv ls or' an' no' e hA hr Y
    refine br_f (nI_ge (by omega) (by omega)) (qs_ypa H ht ha (by omega) (by rw [hD]; exact Y) LC hg (fun li2 at2 ls2 or2 an2 no2 => ?_))
    rw [qs_ix]
    refine ⟨vp_in_nI (by omega) (by omega), fun a ea => nm_r (nI_1 c) ?_⟩
    rw [nI_clamp (by omega)] at ea
    have keep : ∀ j, gv j = g j → a j = g j := by
      intro j hj
      rw [ea]
      by_cases e2 : j = t * 40 + c
      · rw [e2, pk_uLs]
      · rw [pk_uLn e2]; exact hj
    refine ih (c + 1) li2 at2 a ls2 or2 an2 no2 (by omega) (fun j hj => keep j (hA j hj)) (fun c' hc' => ?_) (fun t' h1 h2 h3 h4 c' hc' => keep _ (Y t' h1 h2 h3 h4 c' hc'))
    by_cases e2 : c' = c
    · rw [ea, e2, pk_uLs]
    · exact keep _ (hr c' (by omega))
end
