/-! Y: a step, a path, all inner paths, the result -/
theorem qs_48 {v : Int32} : v - 40 = 8 ↔ v = 48 := by
  constructor
  · intro h
    have := congrArg (· + 40) h
    simp only [Int32.sub_add_cancel] at this
    rw [this]; decide
  · intro h; rw [h]; decide
section
variable {ymo : Int32} {yn : Int32} {yw : Int32} {yle : Int32} {yfo : Int32} {yli : Int32} {yat : Int32} {ysu : Int64} {yid : (Nat → Int32)} {ydp : (Nat → Int32)} {ynm : (Nat → Int32)} {yvl : (Nat → Int32)} {yci : (Nat → Int32)} {ycd : (Nat → Int32)} {ypd : (Nat → Int32)} {yqu : (Nat → Int32)} {ygv : (Nat → Int64)} {yls : (Nat → Int32)} {yrs : (Nat → Int32)} {yor : (Nat → Int32)} {yan : (Nat → Int32)} {yno : (Nat → Int32)} {yow : (Nat → Int32)} {ypa : (Nat → Int32)}
variable {n len : Nat} {i d : Nat → Nat} {po q : Nat → Int32} {g : Nat → Int64}
theorem qs_y203 {rv : Bool} {S : Nat → Bool} {post : Int64 → SY → Prop} (hn : n ≤ 40) (hS : ∀ y, S y = true → y < n) (L : qs_LS n rv S yls)
    (h : ∀ w, (∀ y, qb w y = S y) → post w (ymo, nI n, yw, nI len, yfo, nI (qt_cn S n), yat, ysu, yid, ydp, ynm, yvl, yci, ycd, ypd, yqu, ygv, yls, yrs, yor, yan, yno, yow, ypa)) : ∃ f, wY_step_203 post ymo (nI n) yw (nI len) yfo (nI (qt_cn S n)) yat ysu yid ydp ynm yvl yci ycd ypd yqu ygv yls yrs yor yan yno yow ypa f 0 0 := by
  have hm := qt_cn_le S n
  have hcard := qs_card n rv S
  have key : ∀ f k w, k + f = n → (∀ y, qb w y = (decide (y < n ∧ qs_rho n rv y < k) && S y)) →
      wY_step_203 post ymo (nI n) yw (nI len) yfo (nI (qt_cn S n)) yat ysu yid ydp ynm yvl yci ycd ypd yqu ygv yls yrs yor yan yno yow ypa (qt_cn S n - qt_cn (fun k => S (qs_rho n rv k)) k + 1) w (nI (qt_cn (fun k => S (qs_rho n rv k)) k)) := by
    intro f
    induction f with
    | zero =>
      intro k w e hw
      have e : k = n := by omega
      subst e
      rw [hcard]
      refine br_t (nI_le (Nat.le_refl _) (by omega)) (h w (fun y => ?_))
      rw [hw y]
      by_cases gy : S y = true
      · have := hS y gy
        rw [decide_eq_true ⟨this, qs_rho_lt this⟩, Bool.true_and]
      · rw [show S y = false from by rw [← Bool.not_eq_true]; exact gy, Bool.and_false]
    | succ f ih =>
      intro k w e hw
      have hr := qs_rho_lt (n := n) (rv := rv) (k := k) (by omega)
      have hr2 := qs_rho_2 (n := n) (rv := rv) (k := k) (by omega)
      have csT : qt_cn (fun k => S (qs_rho n rv k)) (k + 1) = qt_cn (fun k => S (qs_rho n rv k)) k + if S (qs_rho n rv k) then 1 else 0 := rfl
      have mT := qt_cn_mono (fun k => S (qs_rho n rv k)) (k + 1) n (by omega)
      rw [hcard] at mT
      have st : ∀ y, y ≠ qs_rho n rv k → decide (y < n ∧ qs_rho n rv y < k) = decide (y < n ∧ qs_rho n rv y < k + 1) := by
        intro y hy
        rw [decide_eq_decide]
        constructor
        · intro z; omega
        · intro z
          refine ⟨z.1, ?_⟩
          have : qs_rho n rv y ≠ k := fun e => hy (by rw [← e, qs_rho_2 z.1])
          omega
      by_cases gT : S (qs_rho n rv k) = true
      · rw [gT, if_pos rfl] at csT
        have efu : qt_cn S n - qt_cn (fun k => S (qs_rho n rv k)) k + 1 = (qt_cn S n - qt_cn (fun k => S (qs_rho n rv k)) (k + 1) + 1) + 1 := by omega
        rw [efu]
        refine br_f (nI_ge (by omega) (by omega)) ⟨vp_in_nI (by omega) (by omega), ?_⟩
        rw [nI_clamp (by omega), L k (by omega) gT]
        refine nm_e (nm_r (nI_1 _) ?_)
        have c := ih (k + 1) (w ||| ((1 : Int64) <<< ((nI (qs_rho n rv k)).toInt64 &&& 63))) (by omega) (fun y => ?_)
        · rw [csT] at c
          rw [csT]
          exact c
        · rw [qb_or, hw y, qb_shl _ (by omega)]
          by_cases g2 : y = qs_rho n rv k
          · rw [g2, gT, hr2, decide_eq_true (show qs_rho n rv k = qs_rho n rv k from rfl), Bool.or_true, decide_eq_true (show qs_rho n rv k < n ∧ k < k + 1 from ⟨hr, Nat.lt_succ_self _⟩)]; rfl
          · rw [st y g2, decide_eq_false g2, Bool.or_false]
      · have fT : S (qs_rho n rv k) = false := by rw [← Bool.not_eq_true]; exact gT
        have csT' : qt_cn (fun k => S (qs_rho n rv k)) (k + 1) = qt_cn (fun k => S (qs_rho n rv k)) k := by rw [csT, fT]; rfl
        have c := ih (k + 1) w (by omega) (fun y => ?_)
        · rw [csT'] at c; exact c
        · rw [hw y]
          by_cases g2 : y = qs_rho n rv k
          · rw [g2, fT, Bool.and_false, Bool.and_false]
          · rw [st y g2]
  refine ⟨_, key n 0 0 (by omega) (fun y => ?_)⟩
  rw [qb_0, decide_eq_false (by omega), Bool.false_and]
end
section
variable {ymo : Int32} {yn : Int32} {yw : Int32} {yle : Int32} {yfo : Int32} {yli : Int32} {yat : Int32} {ysu : Int64} {yid : (Nat → Int32)} {ydp : (Nat → Int32)} {ynm : (Nat → Int32)} {yvl : (Nat → Int32)} {yci : (Nat → Int32)} {ycd : (Nat → Int32)} {ypd : (Nat → Int32)} {yqu : (Nat → Int32)} {ygv : (Nat → Int64)} {yls : (Nat → Int32)} {yrs : (Nat → Int32)} {yor : (Nat → Int32)} {yan : (Nat → Int32)} {yno : (Nat → Int32)} {yow : (Nat → Int32)} {ypa : (Nat → Int32)}
variable {n len : Nat} {i d : Nat → Nat} {po q : Nat → Int32} {g : Nat → Int64}
theorem qs_y160 {t : Nat} {rv : Bool} {post : Int64 → SY → Prop} {Z : Nat → Bool} (H : qs_HY n i d yid ydp po len q yqu)
    (Y : qs_YG q len n g ygv ((qc_tr q t).2.1 + 1)) (hg : ∀ t, t < len → qc_ax (q t) = true → ∀ c, c < n → ∀ y, qb (g (t * 40 + c)) y = true → y < n)
    (h : ∀ w li at' ls or' an' no', (∀ y, qb w y = Z y) → post w (ymo, nI n, yw, nI len, yfo, li, at', ysu, yid, ydp, ynm, yvl, yci, ycd, ypd, yqu, ygv, ls, yrs, or', an', no', yow, ypa)) :
    ∀ f K F S at' ls or' an' no', len - K ≤ f → K ≤ len → len - K ≤ F → (qc_tr q K).2.1 = (qc_tr q t).2.1 → (∀ y, S y = true → y < n) → qs_LS n rv S ls → qs_FS q len i yvl g n rv F K S = Z →
    wY_step_160 post (f + 1) (nI K) ymo (nI n) yw (nI len) yfo (nI (qt_cn S n)) at' ysu yid ydp ynm yvl yci ycd ypd yqu ygv ls yrs or' an' no' yow ypa := by
  obtain ⟨B, hl, G, hq, hy⟩ := id H
  have hn := B.1.2
  have fin : ∀ K F S at' ls or' an' no', ¬ (K < len ∧ q K = 1) → (∀ y, S y = true → y < n) → qs_LS n rv S ls → qs_FS q len i yvl g n rv F K S = Z → ∃ f, wY_step_203 post ymo (nI n) yw (nI len) yfo (nI (qt_cn S n)) at' ysu yid ydp ynm yvl yci ycd ypd yqu ygv ls yrs or' an' no' yow ypa f 0 0 := by
    intro K F S at' ls or' an' no' hK hS L hZ
    have e : S = Z := by
      rw [← hZ]
      cases F with
      | zero => rfl
      | succ F => simp only [qs_FS]; rw [if_neg hK]
    exact qs_y203 hn hS L (fun w hw => h w _ _ _ _ _ _ (fun y => by rw [hw y, e]))
  intro f
  induction f with
  | zero =>
    intro K F S at' ls or' an' no' hf hK hF hlv hS L hZ
    exact br_t (nI_le (by omega) (by omega)) (fin K F S _ _ _ _ _ (by omega) hS L hZ)
  | succ f ih =>
    intro K F S at' ls or' an' no' hf hK hF hlv hS L hZ
    refine pk_le len K (fun z => fin K F S _ _ _ _ _ (by omega) hS L hZ) (fun z => ⟨vp_in_nI (by omega) (by omega), ?_⟩)
    rw [nI_clamp (n := K) (by omega), hy K z]
    by_cases g1 : q K = 1
    · have cs := qe_cl_spec G z g1
      have c1 := cs.1
      have c2 := cs.2.1
      have sm := qe_cl_same G z g1
      obtain ⟨F', rfl⟩ : ∃ F', F = F' + 1 := ⟨F - 1, by omega⟩
      simp only [qs_FS] at hZ
      rw [if_pos ⟨z, g1⟩] at hZ
      refine br_t g1 (qs_ykp H z g1 (by rw [hlv]; exact Y) hg L (fun at2 ls2 or2 an2 no2 L2 => ?_))
      refine qs_ycl H z g1 ?_
      refine ih (qe_cl q len K + 1) F' (qs_FL q len i yvl g n rv K S) at2 ls2 or2 an2 no2 (by omega) (by omega) (by omega) (by rw [sm.2.1]; exact hlv) (fun y hy2 => ?_) L2 hZ
      have hy2 : (S y && qs_PV q len i yvl g K y (qs_pos n rv S y) (qt_cn S n)) = true := hy2
      rw [Bool.and_eq_true] at hy2
      exact hS y hy2.1
    · exact br_f g1 (fin K F S _ _ _ _ _ (fun y => g1 y.2) hS L hZ)
theorem qs_yst {t c : Nat} {post : Int64 → SY → Prop} (H : qs_HY n i d yid ydp po len q yqu) (ht : t < len) (ha : qc_ax (q t) = true) (hc : c < n)
    (Y : qs_YG q len n g ygv ((qc_tr q t).2.1 + 1)) (hg : ∀ t, t < len → qc_ax (q t) = true → ∀ c, c < n → ∀ y, qb (g (t * 40 + c)) y = true → y < n)
    (h : ∀ w li at' ls or' an' no', (∀ y, qb w y = qs_SG n d i ynm yvl q len g t c y) → post w (ymo, nI n, yw, nI len, yfo, li, at', ysu, yid, ydp, ynm, yvl, yci, ycd, ypd, yqu, ygv, ls, yrs, or', an', no', yow, ypa)) : wpY_step post (ymo, nI n, yw, nI len, yfo, yli, yat, ysu, yid, ydp, ynm, yvl, yci, ycd, ypd, yqu, ygv, yls, yrs, yor, yan, yno, yow, ypa) (nI t) (nI c) := by
  obtain ⟨B, hl, G, hq, hy⟩ := id H
  have hn := B.1.2
  obtain ⟨s1, s2⟩ := qs_a_spec ha
  obtain ⟨t1, t2, t3, t4, t5, t6⟩ := qe_se_spec G ht ha
  obtain ⟨x1, x2, x3, x4, x5, x6⟩ := qe_axt G ht ha
  have b := qe_nmt G t1 x1
  have lv2 : (qc_tr q (t + 2)).2.1 = (qc_tr q t).2.1 := by rw [show t + 2 = t + 1 + 1 from rfl, b.2.2, x2]
  have key : ∀ f k ls, k + f = n → (∀ x, x < k → qs_L0 n d i ynm q t c (qs_rho n (qs_rv (qs_a (q t))) x) = true → ls (qt_cn (fun k => qs_L0 n d i ynm q t c (qs_rho n (qs_rv (qs_a (q t))) k)) x) = nI (qs_rho n (qs_rv (qs_a (q t))) x)) →
      wY_step_66 post (nI t) (nI c) (nI (qs_a (q t))) (q (t + 1) - 40) (qa_b (qs_rv (qs_a (q t)))) ymo (nI n) yw (nI len) yfo yat ysu (f + 1) (nI k) (nI (qt_cn (fun k => qs_L0 n d i ynm q t c (qs_rho n (qs_rv (qs_a (q t))) k)) k)) yid ydp ynm yvl yci ycd ypd yqu ygv ls yrs yor yan yno yow ypa := by
    intro f
    induction f with
    | zero =>
      intro k ls e L
      have e : k = n := by omega
      subst e
      rw [qs_card]
      refine br_t (nI_le (by omega) (by omega)) (nm_r (nI_add t 2) (Exists.intro (len - (t + 2) + 1) ?_))
      refine qs_y160 (t := t) (rv := qs_rv (qs_a (q t))) H Y hg h _ (t + 2) len (qs_L0 k d i ynm q t c) yat ls yor yan yno (Nat.le_refl _) (by omega) (by omega) lv2 (fun y hy2 => ?_) L rfl
      unfold qs_L0 at hy2
      rw [Bool.and_eq_true] at hy2
      exact of_decide_eq_true hy2.1
    | succ f ih =>
      intro k ls e L
      have hr := qs_rho_lt (n := n) (rv := qs_rv (qs_a (q t))) (k := k) (by omega)
      have hir := B.2.1 _ hr
      have hcl := qt_cn_le (fun k => qs_L0 n d i ynm q t c (qs_rho n (qs_rv (qs_a (q t))) k)) k
      have cs : qt_cn (fun k => qs_L0 n d i ynm q t c (qs_rho n (qs_rv (qs_a (q t))) k)) (k + 1) = qt_cn (fun k => qs_L0 n d i ynm q t c (qs_rho n (qs_rv (qs_a (q t))) k)) k + if qs_L0 n d i ynm q t c (qs_rho n (qs_rv (qs_a (q t))) k) then 1 else 0 := rfl
      have skip : qs_L0 n d i ynm q t c (qs_rho n (qs_rv (qs_a (q t))) k) = false → wY_step_66 post (nI t) (nI c) (nI (qs_a (q t))) (q (t + 1) - 40) (qa_b (qs_rv (qs_a (q t)))) ymo (nI n) yw (nI len) yfo yat ysu (f + 1) (nI (k + 1)) (nI (qt_cn (fun k => qs_L0 n d i ynm q t c (qs_rho n (qs_rv (qs_a (q t))) k)) k)) yid ydp ynm yvl yci ycd ypd yqu ygv ls yrs yor yan yno yow ypa := by
        intro z
        have c := ih (k + 1) ls (by omega) (fun x hx hs => ?_)
        · rw [cs, z] at c; exact c
        · by_cases e2 : x = k
          · rw [e2, z] at hs; exact absurd hs (by decide)
          · exact L x (by omega) hs
      have nmd : (q (t + 1) = 48 ∨ q (t + 1) - 40 = ynm (i (qs_rho n (qs_rv (qs_a (q t))) k))) → wY_step_120 post (wY_step_66 post (nI t) (nI c) (nI (qs_a (q t))) (q (t + 1) - 40) (qa_b (qs_rv (qs_a (q t)))) ymo (nI n) yw (nI len) yfo yat ysu (f + 1)) (nI t) (nI c) (nI (qs_a (q t))) (q (t + 1) - 40) (qa_b (qs_rv (qs_a (q t)))) (nI k) (nI (qs_rho n (qs_rv (qs_a (q t))) k)) ymo (nI n) yw (nI len) yfo (nI (qt_cn (fun k => qs_L0 n d i ynm q t c (qs_rho n (qs_rv (qs_a (q t))) k)) k)) yat ysu yid ydp ynm yvl yci ycd ypd yqu ygv ls yrs yor yan yno yow ypa := by
        intro hnm
        have e0 : qs_L0 n d i ynm q t c (qs_rho n (qs_rv (qs_a (q t))) k) = qs_ax n d (qs_a (q t)) c (qs_rho n (qs_rv (qs_a (q t))) k) := by
          unfold qs_L0
          rw [decide_eq_true hr, decide_eq_true hnm, Bool.true_and, Bool.true_and]
        refine qs_yoa hn B.2.2.2.2.1 B.2.2.2.2.2.1 s2 hc hr (qa_br (fun z => ?_) (fun z => ?_))
        · exact nm_r (nI_1 k) (skip (by rw [e0]; exact z))
        · refine nm_r (nI_1 _) ⟨vp_in_nI (by omega) (by omega), fun a ea => nm_r (nI_1 k) ?_⟩
          rw [nI_clamp (by omega)] at ea
          have c := ih (k + 1) a (by omega) (fun x hx hs => ?_)
          · rw [cs, e0, z, if_pos rfl] at c; exact c
          · rw [ea]
            by_cases e2 : x = k
            · rw [e2, pk_us]
            · have := qt_cn_lt (C := fun k => qs_L0 n d i ynm q t c (qs_rho n (qs_rv (qs_a (q t))) k)) (show x < k by omega) hs
              rw [pk_un (by omega)]
              exact L x (by omega) hs
      have main : wY_step_94 post (wY_step_66 post (nI t) (nI c) (nI (qs_a (q t))) (q (t + 1) - 40) (qa_b (qs_rv (qs_a (q t)))) ymo (nI n) yw (nI len) yfo yat ysu (f + 1)) (nI t) (nI c) (nI (qs_a (q t))) (q (t + 1) - 40) (qa_b (qs_rv (qs_a (q t)))) (nI k) (nI (qs_rho n (qs_rv (qs_a (q t))) k)) ymo (nI n) yw (nI len) yfo (nI (qt_cn (fun k => qs_L0 n d i ynm q t c (qs_rho n (qs_rv (qs_a (q t))) k)) k)) yat ysu yid ydp ynm yvl yci ycd ypd yqu ygv ls yrs yor yan yno yow ypa := by
        refine br_c (fun z => nmd (Or.inl (qs_48.mp z))) (fun z => ?_)
        have e1 : yid (nI (qs_rho n (qs_rv (qs_a (q t))) k)).toNatClampNeg = nI (i (qs_rho n (qs_rv (qs_a (q t))) k)) := by rw [nI_clamp (by omega)]; exact hir.1
        refine ⟨vp_in_nI (by omega) (by omega), by rw [e1]; exact vp_in_nI hir.2 (by omega), ?_⟩
        rw [e1, nI_clamp (n := i _) (by omega)]
        refine br_c (fun y => nmd (Or.inr y.symm)) (fun y => nm_r (nI_1 k) (skip ?_))
        unfold qs_L0
        rw [decide_eq_false (show ¬ (q (t + 1) = 48 ∨ q (t + 1) - 40 = ynm (i (qs_rho n (qs_rv (qs_a (q t))) k))) by rintro (w | w); exact z (qs_48.mpr w); exact y w.symm), Bool.false_and, Bool.and_false]
      refine br_f (nI_ge (by omega) (by omega)) ?_
      cases hrv : qs_rv (qs_a (q t))
      · rw [hrv] at main
        exact br_t (by decide) main
      · rw [hrv] at main
        refine br_f (by decide) ?_
        have e2 : (nI n - 1) - nI k = nI (qs_rho n true k) := by
          unfold qs_rho
          rw [if_pos rfl, show nI n - 1 = nI (n - 1) from pk_sub (a := n) (b := 1) (by omega), pk_sub (by omega)]
        rw [e2]
        exact main
  have start := key n 0 yls (by omega) (fun x hx => by omega)
  refine And.intro (vp_in_nI (by omega) (by omega)) (nm_r (e' := nI (qs_a (q t))) (by rw [nI_clamp (by omega), hy t ht]; exact s1) ⟨by rw [nI_1]; exact vp_in_nI (by omega) (by omega), nm_r (e' := q (t + 1) - 40) (by rw [nI_1, nI_clamp (by omega), hy (t + 1) t1]) ?_⟩)
  clear key
  generalize qs_a (q t) = a at s1 s2 start
  have hcase : a = 0 ∨ a = 1 ∨ a = 2 ∨ a = 3 ∨ a = 4 ∨ a = 5 ∨ a = 6 ∨ a = 7 ∨ a = 8 ∨ a = 9 ∨ a = 10 := by omega
  rcases hcase with rfl | rfl | rfl | rfl | rfl | rfl | rfl | rfl | rfl | rfl | rfl
  · exact br_f (by decide) (br_f (by decide) (br_f (by decide) (br_f (by decide) (br_f (by decide) (Exists.intro _ start)))))
  · exact br_f (by decide) (br_f (by decide) (br_f (by decide) (br_f (by decide) (br_f (by decide) (Exists.intro _ start)))))
  · exact br_t (by decide) (Exists.intro _ start)
  · exact br_f (by decide) (br_f (by decide) (br_f (by decide) (br_f (by decide) (br_f (by decide) (Exists.intro _ start)))))
  · exact br_f (by decide) (br_t (by decide) (Exists.intro _ start))
  · exact br_f (by decide) (br_f (by decide) (br_f (by decide) (br_f (by decide) (br_f (by decide) (Exists.intro _ start)))))
  · exact br_f (by decide) (br_f (by decide) (br_t (by decide) (Exists.intro _ start)))
  · exact br_f (by decide) (br_f (by decide) (br_f (by decide) (br_f (by decide) (br_f (by decide) (Exists.intro _ start)))))
  · exact br_f (by decide) (br_f (by decide) (br_f (by decide) (br_t (by decide) (Exists.intro _ start))))
  · exact br_f (by decide) (br_f (by decide) (br_f (by decide) (br_f (by decide) (br_f (by decide) (Exists.intro _ start)))))
  · exact br_f (by decide) (br_f (by decide) (br_f (by decide) (br_f (by decide) (br_t (by decide) (Exists.intro _ start)))))
end
