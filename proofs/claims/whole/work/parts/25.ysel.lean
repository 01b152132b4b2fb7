section
variable {ymo : Int32} {yn : Int32} {yw : Int32} {yle : Int32} {yfo : Int32} {yli : Int32} {yat : Int32} {ysu : Int64} {yid : (Nat → Int32)} {ydp : (Nat → Int32)} {ynm : (Nat → Int32)} {yvl : (Nat → Int32)} {yci : (Nat → Int32)} {ycd : (Nat → Int32)} {ypd : (Nat → Int32)} {yqu : (Nat → Int32)} {ygv : (Nat → Int64)} {yls : (Nat → Int32)} {yrs : (Nat → Int32)} {yor : (Nat → Int32)} {yan : (Nat → Int32)} {yno : (Nat → Int32)} {yow : (Nat → Int32)} {ypa : (Nat → Int32)}
variable {n len : Nat} {i d : Nat → Nat} {po q : Nat → Int32} {g : Nat → Int64}
theorem qs_yin {D : Nat} {post : SY → Prop} (H : qs_HY n i d yid ydp po len q yqu) (h0 : 0 < len) (hD0 : 1 ≤ D) (hD : D ≤ 3) (LC : qs_LC n d i ynm yvl q len g 0) (hg : ∀ t, t < len → qc_ax (q t) = true → ∀ c, c < n → ∀ y, qb (g (t * 40 + c)) y = true → y < n)
    (Y : qs_YG q len n g ygv (D + 1)) (h : ∀ li at' gv ls or' an' no', qs_YG q len n g gv D → post (ymo, nI n, yw, nI len, yfo, li, at', ysu, yid, ydp, ynm, yvl, yci, ycd, ypd, yqu, gv, ls, yrs, or', an', no', yow, ypa)) :
    wpY_inner post (ymo, nI n, yw, nI len, yfo, yli, yat, ysu, yid, ydp, ynm, yvl, yci, ycd, ypd, yqu, ygv, yls, yrs, yor, yan, yno, yow, ypa) (nI D) := by
  obtain ⟨B, hl, G, hq, hy⟩ := id H
  have hn := B.1.2
  have key : ∀ f t li at' gv ls or' an' no', t + f = len → 1 ≤ t → qs_YG q len n g gv (D + 1) → (∀ t', t' < t → qc_ax (q t') = true → ((qc_tr q t').1 = 1 ∨ (qc_tr q t').1 = 4) → (qc_tr q t').2.1 = D → ∀ c, c < n → gv (t' * 40 + c) = g (t' * 40 + c)) →
      wY_inner_4 post (nI D) (f + 1) (nI (qc_tr q t).2.1) (nI t) ymo (nI n) yw (nI len) yfo li at' ysu yid ydp ynm yvl yci ycd ypd yqu gv ls yrs or' an' no' yow ypa := by
    intro f
    induction f with
    | zero =>
      intro t li at' gv ls or' an' no' e ht Y hr
      refine br_t (nI_le (by omega) (by omega)) (h _ _ _ _ _ _ _ (fun t' h1 h2 h3 h4 c hc => ?_))
      by_cases e2 : (qc_tr q t').2.1 = D
      · exact hr t' (by omega) h2 h3 e2 c hc
      · exact Y t' h1 h2 h3 (by omega) c hc
    | succ f ih =>
      intro t li at' gv ls or' an' no' e ht Y hr
      have it : vp_in (nI t) 40 := vp_in_nI (by omega) (by omega)
      have et : yqu (nI t).toNatClampNeg = q t := by rw [nI_clamp (by omega)]; exact hy t (by omega)
      have st := qe_st G (show t < len by omega)
      have W := qe_W (k := t) G (by omega)
      have W' := qe_W (k := t + 1) G (by omega)
      have w3 : (qc_tr q t).2.1 ≤ 3 := W.2.2.1
      have w3' : (qc_tr q (t + 1)).2.1 ≤ 3 := W'.2.2.1
      have em : nI t - 1 = nI (t - 1) := pk_sub (a := t) (b := 1) ht
      have im : vp_in (nI t - 1) 40 := by rw [em]; exact vp_in_nI (by omega) (by omega)
      have eqm : yqu (nI t - 1).toNatClampNeg = q (t - 1) := by rw [em, nI_clamp (by omega)]; exact hy (t - 1) (by omega)
      have skip : (¬ (qc_ax (q t) = true ∧ ((qc_tr q t).1 = 1 ∨ (qc_tr q t).1 = 4) ∧ (qc_tr q t).2.1 = D)) → wY_inner_4 post (nI D) (f + 1) (nI (qc_tr q (t + 1)).2.1) (nI (t + 1)) ymo (nI n) yw (nI len) yfo li at' ysu yid ydp ynm yvl yci ycd ypd yqu gv ls yrs or' an' no' yow ypa := by
        intro z
        refine ih (t + 1) _ _ _ _ _ _ _ (by omega) (by omega) Y (fun t' h1 h2 h3 h4 => ?_)
        by_cases e2 : t' = t
        · subst e2; exact absurd ⟨h2, h3, h4⟩ z
        · exact hr t' (by omega) h2 h3 h4
      have prev : ((qc_tr q t).1 = 1 ∨ (qc_tr q t).1 = 4) → ¬ (40 : Int32) ≤ q (t - 1) ∧ q (t - 1) ≠ 2 := by
        intro z
        have ez : qc_tr q t = qc_nx (qc_tr q (t - 1)) (q (t - 1)) := by
          obtain ⟨u, rfl⟩ : ∃ u, t = u + 1 := ⟨t - 1, by omega⟩
          rfl
        rw [ez] at z
        rcases qs_prev (qe_W (k := t - 1) G (by omega)) z with y | y | y | y | y | y <;> (rw [y]; decide)
      have p38 : wY_inner_38 post (wY_inner_4 post (nI D) (f + 1)) (nI D) (nI (qc_tr q (t + 1)).2.1) (nI t) ymo (nI n) yw (nI len) yfo li at' ysu yid ydp ynm yvl yci ycd ypd yqu gv ls yrs or' an' no' yow ypa := by
        refine And.intro it ?_
        rw [et]
        refine qc_yax (qa_br (fun ga => ?_) (fun ga => ?_))
        · exact br_t rfl (nm_r (nI_1 t) (skip (fun z => by rw [ga] at z; exact absurd z.1 (by decide))))
        · obtain ⟨x1, x2, x3, x4, x5, x6⟩ := qe_axt G (show t < len by omega) ga
          refine ⟨im, ?_⟩
          rw [eqm]
          by_cases g40 : (40 : Int32) ≤ q (t - 1)
          · exact br_t g40 (br_t rfl (nm_r (nI_1 t) (skip (fun z => (prev z.2.1).1 g40))))
          · refine br_f g40 ⟨im, ?_⟩
            by_cases g2 : q (t - 1) = 2
            · exact br_t g2 (br_t rfl (nm_r (nI_1 t) (skip (fun z => (prev z.2.1).2 g2))))
            · refine br_f g2 (br_f (by decide) ?_)
              refine pk_eq (qc_tr q (t + 1)).2.1 D (fun gd => ?_) (fun gd => ?_)
              · refine Exists.intro (n + 1) (qs_y95 H (show t < len by omega) ga (by omega) LC hg (fun j => gv j = g j) (fun li2 at2 gv2 ls2 or2 an2 no2 hA hrow Y2 => ?_) n 0 li at' gv ls or' an' no' (by omega) (fun j hj => hj) (fun c' hc' => by omega) Y)
                refine ih (t + 1) _ _ _ _ _ _ _ (by omega) (by omega) Y2 (fun t' h1 h2 h3 h4 c hc => ?_)
                by_cases e2 : t' = t
                · rw [e2]; exact hrow c hc
                · exact hA _ (hr t' (by omega) h2 h3 h4 c hc)
              · exact nm_r (nI_1 t) (skip (fun z => gd (by omega)))
      refine br_f (nI_ge (by omega) (by omega)) ⟨it, ?_⟩
      rw [et]
      by_cases g1 : q t = 1
      · have s := st.1 g1
        refine br_t g1 (nm_r (e' := nI (qc_tr q (t + 1)).2.1) (by rw [nI_1, s.2.2.1]) ⟨it, ?_⟩)
        rw [et]
        exact br_f (by rw [g1]; decide) p38
      · refine br_f g1 ⟨it, ?_⟩
        rw [et]
        by_cases g2 : q t = 2
        · have s := st.2.1 g2
          refine br_t g2 (nm_r (e' := nI (qc_tr q (t + 1)).2.1) ?_ p38)
          rw [sb_m1 (p := (qc_tr q t).2.1) (by omega)]
          congr 1
          omega
        · have s := st.2.2.1 g1 g2
          rw [s] at p38
          exact br_f g2 p38
  have l1 : (qc_tr q 1).2.1 = 0 := by
    have W := qe_nz (k := 1) G (by omega)
    have e : qc_tr q 1 = qc_nx (1, 0, 0, (fun _ => 0), (fun _ => false)) (q 0) := rfl
    rw [e, qc_nx_1]
    split <;> rfl
  have c := key (len - 1) 1 yli yat ygv yls yor yan yno (by omega) (Nat.le_refl _) Y (fun t' h1 h2 h3 h4 => by
    have : t' = 0 := by omega
    subst this
    have : (qc_tr q 0).2.1 = 0 := rfl
    omega)
  rw [l1] at c
  exact Exists.intro _ c
theorem qs_y56 {w : Int64} {post : Int32 → SY → Prop} (hn : n ≤ 40) (hi : ∀ r, r < n → yid r = nI (i r) ∧ i r < 40)
    (h : post (nI (qs_K yid yvl w yrs n).1) (ymo, nI n, yw, yle, nI (qs_K yid yvl w yrs n).1, yli, yat, (qs_K yid yvl w yrs n).2.1, yid, ydp, ynm, yvl, yci, ycd, ypd, yqu, ygv, yls, (qs_K yid yvl w yrs n).2.2, yor, yan, yno, yow, ypa)) : ∃ f, wY_select_56 post w ymo (nI n) yw yle yli yat f 0 0 0 yid ydp ynm yvl yci ycd ypd yqu ygv yls yrs yor yan yno yow ypa := by
  have key : ∀ f j, j + f = n → wY_select_56 post w ymo (nI n) yw yle yli yat (f + 1) (nI j) (nI (qs_K yid yvl w yrs j).1) (qs_K yid yvl w yrs j).2.1 yid ydp ynm yvl yci ycd ypd yqu ygv yls ((qs_K yid yvl w yrs j).2.2) yor yan yno yow ypa := by
    intro f
    induction f with
    | zero =>
      intro j e
      have e : j = n := by omega
      subst e
      exact br_t (nI_le (by omega) (by omega)) h
    | succ f ih =>
      intro j e
      have c := ih (j + 1) (by omega)
      have hle := qs_K_le yid yvl w yrs j
      have hij := hi j (by omega)
      have ej : (nI j).toNatClampNeg = j := nI_clamp (by omega)
      simp only [qs_K] at c
      refine br_f (nI_ge (by omega) (by omega)) (qb_br (by omega) (fun z => ?_) (fun z => ?_))
      · rw [z] at c
        exact nm_r (nI_1 j) c
      · rw [z, if_pos rfl] at c
        refine nm_r (nI_1 _) ⟨vp_in_nI (by omega) (by omega), vp_in_nI (by omega) (by omega), fun a ea => ⟨vp_in_nI (by omega) (by omega), by rw [ej, hij.1]; exact vp_in_nI hij.2 (by omega), fun b eb => nm_r (nI_1 j) ?_⟩⟩
        rw [ej, nI_clamp (by omega)] at ea
        rw [ej] at eb
        subst ea; subst eb
        exact c
  exact ⟨_, key n 0 (by omega)⟩
theorem qs_ysl {r : Nat} {post : Int32 → SY → Prop} (H : qs_HY n i d yid ydp po len q yqu) (hr : r < n) (h0 : 0 < len) (LC : qs_LC n d i ynm yvl q len g 0)
    (h : ∀ li at' gv ls or' an' no', post (nI (qs_K yid yvl (g r) yrs n).1) (ymo, nI n, yw, nI len, nI (qs_K yid yvl (g r) yrs n).1, li, at', (qs_K yid yvl (g r) yrs n).2.1, yid, ydp, ynm, yvl, yci, ycd, ypd, yqu, gv, ls, (qs_K yid yvl (g r) yrs n).2.2, or', an', no', yow, ypa)) :
    wpY_select post (ymo, nI n, yw, nI len, yfo, yli, yat, ysu, yid, ydp, ynm, yvl, yci, ycd, ypd, yqu, ygv, yls, yrs, yor, yan, yno, yow, ypa) (nI (i r)) := by
  obtain ⟨B, hl, G, hq, hy⟩ := id H
  have hn := B.1.2
  have hg : ∀ t, t < len → qc_ax (q t) = true → ∀ c, c < n → ∀ y, qb (g (t * 40 + c)) y = true → y < n := fun t ht ha => qs_LC_lt G LC hq hl _ t (Nat.le_refl _) (by omega) ht ha
  have a0 : qc_ax (q 0) = true := by
    have W := qe_nz (k := 1) G (by omega)
    have e : qc_tr q 1 = qc_nx (1, 0, 0, (fun _ => 0), (fun _ => false)) (q 0) := rfl
    rw [e, qc_nx_1] at W
    by_cases z : qc_ax (q 0) = true
    · exact z
    · rw [if_neg z] at W; exact absurd rfl W
  have key : ∀ k li at' gv ls or' an' no', k ≤ 3 → qs_YG q len n g gv (k + 1) → wY_select_21 post (nI r) (k + 1) (nI k) ymo (nI n) yw (nI len) yfo li at' ysu yid ydp ynm yvl yci ycd ypd yqu gv ls yrs or' an' no' yow ypa := by
    intro k
    induction k with
    | zero =>
      intro li at' gv ls or' an' no' _ Y
      refine br_t (by decide) (qs_ypa (t := 0) (c := r) H h0 a0 hr Y LC hg (fun li2 at2 ls2 or2 an2 no2 => ?_))
      rw [show 0 * 40 + r = r by omega]
      exact qs_y56 hn B.2.1 (h _ _ _ _ _ _ _)
    | succ k ih =>
      intro li at' gv ls or' an' no' hk Y
      refine br_f (nI_nle (by omega) (by omega)) (qs_yin (D := k + 1) H h0 (by omega) hk LC hg Y (fun li2 at2 gv2 ls2 or2 an2 no2 Y2 => nm_r (pk_m1 k) ?_))
      exact ih li2 at2 gv2 ls2 or2 an2 no2 (by omega) Y2
  unfold wpY_select
  dsimp only
  refine qr_hY B hr (br_f (nI_pos (by omega)) (br_f (nI_ne0 h0 (by omega)) (Exists.intro 4 ?_)))
  refine key 3 yli yat ygv yls yor yan yno (Nat.le_refl _) (fun t h1 h2 h3 h4 => ?_)
  have W := qe_W (k := t) G (by omega)
  have w3 : (qc_tr q t).2.1 ≤ 3 := W.2.2.1
  omega
end
