/-! the axes -/
def qs_ax (n : Nat) (d : Nat → Nat) (a c x : Nat) : Bool :=
  if a = 0 then decide (x = c) else if a = 1 then qt_ch n d c x else if a = 2 then qt_ch n d x c else if a = 3 then qt_ab n d c x else if a = 4 then qt_ab n d x c
  else if a = 5 then (decide (x = c) || qt_ab n d c x) else if a = 6 then (decide (x = c) || qt_ab n d x c) else if a = 7 then decide (c < x ∧ 0 < c ∧ qt_pr d c = qt_pr d x)
  else if a = 8 then decide (x < c ∧ 0 < x ∧ qt_pr d c = qt_pr d x) else if a = 9 then (decide (c < x) && !qt_ab n d c x) else (decide (x < c) && !qt_ab n d x c)
def qs_rv (a : Nat) : Bool := decide (a = 2 ∨ a = 4 ∨ a = 6 ∨ a = 8 ∨ a = 10)
theorem qs_pif {c : Prop} {b : Bool} {post : Int32 → Prop} (e : c ↔ b = true) (h : post (qa_b b)) : (c → post 1) ∧ (¬ c → post 0) := by
  cases b
  · exact ⟨fun z => absurd (e.mp z) (by decide), fun _ => h⟩
  · exact ⟨fun _ => h, fun z => absurd (e.mpr rfl) z⟩
theorem qs_pif' {c : Prop} {b : Bool} {post : Int32 → Prop} (e : c ↔ b = false) (h : post (qa_b b)) : (c → post 0) ∧ (¬ c → post 1) := by
  cases b
  · exact ⟨fun _ => h, fun z => absurd (e.mpr rfl) z⟩
  · exact ⟨fun z => absurd (e.mp z) (by decide), fun _ => h⟩
section
variable {xlim : Int32} {xn : Int32} {xpc : Int32} {xlv : Int32} {xop : Int32} {xql : Int32} {xrc : Int32} {xrt : Int64} {xod : (Nat → Int32)} {xpo : (Nat → Int32)} {xnm : (Nat → Int32)} {xvl : (Nat → Int32)} {xmv : (Nat → Int32)} {xrk : (Nat → Int32)} {xpt : (Nat → Int32)} {xsz : (Nat → Int32)} {xpd : (Nat → Int32)} {xpa : (Nat → Int32)} {xct : (Nat → Int32)} {xqu : (Nat → Int32)} {xco : (Nat → Int32)} {xse : (Nat → Int32)} {xpe : (Nat → Int32)} {xgv : (Nat → Int64)} {xan : (Nat → Int64)} {xal : (Nat → Int64)} {xng : (Nat → Int32)} {xrs : (Nat → Int32)}
variable {n : Nat} {i d : Nat → Nat} {od dp po rk pt sz : Nat → Int32}
theorem qs_x46 {a c x : Nat} {post : Int32 → Prop} (hn : n ≤ 40) (D : qt_D n d) (N : qr_N n i d rk pt sz) (ha : a ≤ 10) (hc : c < n) (hx : x < n) (h : post (qa_b (qs_ax n d a c x))) :
    wX_isOnAxis_46 post (nI a) (nI c) (nI x) (qa_b (decide (c ≤ x ∧ x < qt_en n d c))) (qa_b (decide (x ≤ c ∧ c < qt_en n d x))) xlim (nI n) xpc xlv xop xql xrc xrt od po xnm xvl xmv rk pt sz xpd xpa xct xqu xco xse xpe xgv xan xal xng xrs := by
  have ic : vp_in (nI c) 40 := vp_in_nI (by omega) (by omega)
  have ix : vp_in (nI x) 40 := vp_in_nI (by omega) (by omega)
  have ec : (nI c).toNatClampNeg = c := nI_clamp (by omega)
  have ex : (nI x).toNatClampNeg = x := nI_clamp (by omega)
  have eqc : nI x = nI c ↔ x = c := nI_eq (by omega) (by omega)
  obtain ⟨n1, n2, n3, n4, n5⟩ := N
  have m1 : ∀ r, r < 40 → ¬ nI r = -1 := by
    intro r hr e
    have h1 : (nI r).toInt = -1 := by rw [e]; decide
    rw [nI_toInt (by omega)] at h1; omega
  have cc := qt_en_spec (n := n) (d := d) hc
  have cx := qt_en_spec (n := n) (d := d) hx
  have cc1 := cc.1
  have cx1 := cx.1
  have par : ∀ u w, u < n → w < n → (pt u = nI w ↔ qt_ch n d w u = true) := by
    intro u w hu hw
    by_cases e : u = 0
    · subst e
      rw [n3]
      exact ⟨fun z => absurd z.symm (m1 w (by omega)), fun z => by have := of_decide_eq_true z; omega⟩
    · rw [n4 u (by omega) hu]
      have hp := qt_pr_spec D (by omega) hu
      have hl := hp.1
      rw [nI_eq (by omega) (by omega)]
      constructor
      · intro z
        rw [z, qt_child D hw hu] at hp
        exact decide_eq_true (by omega)
      · intro z
        have z := of_decide_eq_true z
        exact qt_pr_eq ((qt_child D hw hu).mpr (by omega))
  have sib : ∀ u w, u < n → w < n → u < w → (pt w = pt u ↔ (0 < u ∧ qt_pr d u = qt_pr d w)) := by
    intro u w hu hw huw
    rw [n4 w (by omega) hw]
    have hl := qt_pr_lt D (by omega) hw
    by_cases e : u = 0
    · subst e
      rw [n3]
      exact ⟨fun z => absurd z (m1 _ (by omega)), fun z => by omega⟩
    · rw [n4 u (by omega) hu]
      have hl2 := qt_pr_lt D (by omega) hu
      rw [nI_eq (by omega) (by omega)]
      exact ⟨fun z => ⟨by omega, z.symm⟩, fun z => z.2.symm⟩
  have hcase : a = 0 ∨ a = 1 ∨ a = 2 ∨ a = 3 ∨ a = 4 ∨ a = 5 ∨ a = 6 ∨ a = 7 ∨ a = 8 ∨ a = 9 ∨ a = 10 := by omega
  refine br_f (nI_pos (by omega)) (br_f (nI_nlt (a := 10) (by omega) (by omega)) ?_)
  rcases hcase with rfl | rfl | rfl | rfl | rfl | rfl | rfl | rfl | rfl | rfl | rfl
  · refine br_t (by decide) (qs_pif ?_ h)
    rw [eqc]; exact ⟨fun z => decide_eq_true z, fun z => of_decide_eq_true z⟩
  · refine br_f (by decide) (br_t (by decide) ⟨ix, ?_⟩)
    rw [ex]
    exact qs_pif (par x c hx hc) h
  · refine br_f (by decide) (br_f (by decide) (br_t (by decide) ⟨ic, ?_⟩))
    rw [ec]
    exact qs_pif (par c x hc hx) h
  · refine br_f (by decide) (br_f (by decide) (br_f (by decide) (br_t (by decide) (qa_br (fun g => ?_) (fun g => ?_)))))
    · have g := of_decide_eq_false g
      rw [show qs_ax n d 3 c x = false from decide_eq_false (by omega)] at h; exact h
    · have g := of_decide_eq_true g
      refine qs_pif' ?_ h
      rw [eqc]
      exact ⟨fun z => decide_eq_false (by omega), fun z => by have := of_decide_eq_false z; omega⟩
  · refine br_f (by decide) (br_f (by decide) (br_f (by decide) (br_f (by decide) (br_t (by decide) (qa_br (fun g => ?_) (fun g => ?_))))))
    · have g := of_decide_eq_false g
      rw [show qs_ax n d 4 c x = false from decide_eq_false (by omega)] at h; exact h
    · have g := of_decide_eq_true g
      refine qs_pif' ?_ h
      rw [eqc]
      exact ⟨fun z => decide_eq_false (by omega), fun z => by have := of_decide_eq_false z; omega⟩
  · refine br_f (by decide) (br_f (by decide) (br_f (by decide) (br_f (by decide) (br_f (by decide) (br_t (by decide) ⟨qa_bn _, ?_⟩)))))
    have e : qs_ax n d 5 c x = decide (c ≤ x ∧ x < qt_en n d c) := by
      show (decide (x = c) || decide (c < x ∧ x < qt_en n d c)) = _
      rw [← Bool.decide_or, decide_eq_decide]; omega
    rw [e] at h; exact h
  · refine br_f (by decide) (br_f (by decide) (br_f (by decide) (br_f (by decide) (br_f (by decide) (br_f (by decide) (br_t (by decide) ⟨qa_bn _, ?_⟩))))))
    have e : qs_ax n d 6 c x = decide (x ≤ c ∧ c < qt_en n d x) := by
      show (decide (x = c) || decide (x < c ∧ c < qt_en n d x)) = _
      rw [← Bool.decide_or, decide_eq_decide]; omega
    rw [e] at h; exact h
  · refine br_f (by decide) (br_f (by decide) (br_f (by decide) (br_f (by decide) (br_f (by decide) (br_f (by decide) (br_f (by decide) (br_t (by decide) ?_)))))))
    refine pk_le x c (fun g => ?_) (fun g => ⟨ix, ic, ?_⟩)
    · rw [show qs_ax n d 7 c x = false from decide_eq_false (by omega)] at h; exact h
    · rw [ex, ec]
      refine qs_pif ?_ h
      rw [sib c x hc hx g]
      exact ⟨fun z => decide_eq_true ⟨g, z⟩, fun z => (of_decide_eq_true z).2⟩
  · refine br_f (by decide) (br_f (by decide) (br_f (by decide) (br_f (by decide) (br_f (by decide) (br_f (by decide) (br_f (by decide) (br_f (by decide) (br_t (by decide) ?_))))))))
    refine pk_le c x (fun g => ?_) (fun g => ⟨ix, ic, ?_⟩)
    · rw [show qs_ax n d 8 c x = false from decide_eq_false (by omega)] at h; exact h
    · rw [ex, ec]
      refine qs_pif ?_ h
      have s := sib x c hx hc g
      constructor
      · intro z
        have := s.mp z.symm
        exact decide_eq_true ⟨g, this.1, this.2.symm⟩
      · intro z
        have z := of_decide_eq_true z
        exact (s.mpr ⟨z.2.1, z.2.2.symm⟩).symm
  · refine br_f (by decide) (br_f (by decide) (br_f (by decide) (br_f (by decide) (br_f (by decide) (br_f (by decide) (br_f (by decide) (br_f (by decide) (br_f (by decide) (br_t (by decide) ?_)))))))))
    have e : qs_ax n d 9 c x = (decide (c < x) && !decide (c < x ∧ x < qt_en n d c)) := rfl
    rw [e] at h
    refine pk_le x c (fun g => ?_) (fun g => qa_br (fun g2 => ?_) (fun g2 => ?_))
    · rw [decide_eq_false (show ¬ c < x by omega)] at h; exact h
    · have g2 := of_decide_eq_false g2
      rw [decide_eq_true g, decide_eq_false (by omega)] at h; exact h
    · have g2 := of_decide_eq_true g2
      rw [decide_eq_true g, decide_eq_true (by omega)] at h; exact h
  · refine br_f (by decide) (br_f (by decide) (br_f (by decide) (br_f (by decide) (br_f (by decide) (br_f (by decide) (br_f (by decide) (br_f (by decide) (br_f (by decide) (br_f (by decide) (br_t (by decide) ?_))))))))))
    have e : qs_ax n d 10 c x = (decide (x < c) && !decide (x < c ∧ c < qt_en n d x)) := rfl
    rw [e] at h
    refine pk_le c x (fun g => ?_) (fun g => qa_br (fun g2 => ?_) (fun g2 => ?_))
    · rw [decide_eq_false (show ¬ x < c by omega)] at h; exact h
    · have g2 := of_decide_eq_false g2
      rw [decide_eq_true g, decide_eq_false (by omega)] at h; exact h
    · have g2 := of_decide_eq_true g2
      rw [decide_eq_true g, decide_eq_true (by omega)] at h; exact h
theorem qs_x22 {a c x : Nat} {z : Bool} {post : Int32 → Prop} (hn : n ≤ 40) (N : qr_N n i d rk pt sz) (hc : c < n) (hx : x < n)
    (h : wX_isOnAxis_46 post (nI a) (nI c) (nI x) (qa_b z) (qa_b (decide (x ≤ c ∧ c < qt_en n d x))) xlim (nI n) xpc xlv xop xql xrc xrt od po xnm xvl xmv rk pt sz xpd xpa xct xqu xco xse xpe xgv xan xal xng xrs) :
    wX_isOnAxis_22 post (nI a) (nI c) (nI x) (qa_b z) xlim (nI n) xpc xlv xop xql xrc xrt od po xnm xvl xmv rk pt sz xpd xpa xct xqu xco xse xpe xgv xan xal xng xrs := by
  have cx := qt_en_spec (n := n) (d := d) hx
  have cx1 := cx.1
  have cx2 := cx.2.1
  refine pk_lt c x (fun g => ?_) (fun g => ⟨vp_in_nI (by omega) (by omega), ?_⟩)
  · rw [decide_eq_false (by omega)] at h; exact h
  · rw [nI_clamp (n := x) (by omega), N.2.2.2.2 x hx, nI_add, show x + (qt_en n d x - x) = qt_en n d x by omega]
    refine pk_le (qt_en n d x) c (fun g2 => ?_) (fun g2 => ?_)
    · rw [decide_eq_false (by omega)] at h; exact h
    · rw [decide_eq_true (by omega)] at h; exact h
theorem qs_xoa {a c x : Nat} {post : Int32 → Prop} (hn : n ≤ 40) (D : qt_D n d) (N : qr_N n i d rk pt sz) (ha : a ≤ 10) (hc : c < n) (hx : x < n) (h : post (qa_b (qs_ax n d a c x))) :
    wpX_isOnAxis post (xlim, nI n, xpc, xlv, xop, xql, xrc, xrt, od, po, xnm, xvl, xmv, rk, pt, sz, xpd, xpa, xct, xqu, xco, xse, xpe, xgv, xan, xal, xng, xrs) (nI a) (nI c) (nI x) := by
  have c46 := qs_x46 (xlim := xlim) (xpc := xpc) (xlv := xlv) (xop := xop) (xql := xql) (xrc := xrc) (xrt := xrt) (xnm := xnm) (xvl := xvl) (xmv := xmv) (xpd := xpd) (xpa := xpa) (xct := xct) (xqu := xqu) (xco := xco) (xse := xse) (xpe := xpe) (xgv := xgv) (xan := xan) (xal := xal) (xng := xng) (xrs := xrs) (od := od) (po := po) hn D N ha hc hx h
  have cc := qt_en_spec (n := n) (d := d) hc
  have cc1 := cc.1
  have cc2 := cc.2.1
  refine pk_lt x c (fun g => ?_) (fun g => ⟨vp_in_nI (by omega) (by omega), ?_⟩)
  · rw [decide_eq_false (show ¬ (c ≤ x ∧ x < qt_en n d c) by omega)] at c46
    exact qs_x22 (z := false) hn N hc hx c46
  · rw [nI_clamp (n := c) (by omega), N.2.2.2.2 c hc, nI_add, show c + (qt_en n d c - c) = qt_en n d c by omega]
    refine pk_le (qt_en n d c) x (fun g2 => ?_) (fun g2 => ?_)
    · rw [decide_eq_false (show ¬ (c ≤ x ∧ x < qt_en n d c) by omega)] at c46
      exact qs_x22 (z := false) hn N hc hx c46
    · rw [decide_eq_true (show (c ≤ x ∧ x < qt_en n d c) by omega)] at c46
      exact qs_x22 (z := true) hn N hc hx c46
theorem qs_xrv {a : Nat} {post : Int32 → Prop} (ha : a ≤ 10) (h : post (qa_b (qs_rv a))) : wpX_isReverse post (xlim, xn, xpc, xlv, xop, xql, xrc, xrt, xod, xpo, xnm, xvl, xmv, xrk, xpt, xsz, xpd, xpa, xct, xqu, xco, xse, xpe, xgv, xan, xal, xng, xrs) (nI a) := by
  have hcase : a = 0 ∨ a = 1 ∨ a = 2 ∨ a = 3 ∨ a = 4 ∨ a = 5 ∨ a = 6 ∨ a = 7 ∨ a = 8 ∨ a = 9 ∨ a = 10 := by omega
  rcases hcase with rfl | rfl | rfl | rfl | rfl | rfl | rfl | rfl | rfl | rfl | rfl
  · exact br_f (by decide) (br_f (by decide) (br_f (by decide) (br_f (by decide) (br_f (by decide) h))))
  · exact br_f (by decide) (br_f (by decide) (br_f (by decide) (br_f (by decide) (br_f (by decide) h))))
  · exact br_t (by decide) h
  · exact br_f (by decide) (br_f (by decide) (br_f (by decide) (br_f (by decide) (br_f (by decide) h))))
  · exact br_f (by decide) (br_t (by decide) h)
  · exact br_f (by decide) (br_f (by decide) (br_f (by decide) (br_f (by decide) (br_f (by decide) h))))
  · exact br_f (by decide) (br_f (by decide) (br_t (by decide) h))
  · exact br_f (by decide) (br_f (by decide) (br_f (by decide) (br_f (by decide) (br_f (by decide) h))))
  · exact br_f (by decide) (br_f (by decide) (br_f (by decide) (br_t (by decide) h)))
  · exact br_f (by decide) (br_f (by decide) (br_f (by decide) (br_f (by decide) (br_f (by decide) h))))
  · exact br_f (by decide) (br_f (by decide) (br_f (by decide) (br_f (by decide) (br_t (by decide) h))))
end
section
variable {ymo : Int32} {yn : Int32} {yw : Int32} {yle : Int32} {yfo : Int32} {yli : Int32} {yat : Int32} {ysu : Int64} {yid : (Nat → Int32)} {ydp : (Nat → Int32)} {ynm : (Nat → Int32)} {yvl : (Nat → Int32)} {yci : (Nat → Int32)} {ycd : (Nat → Int32)} {ypd : (Nat → Int32)} {yqu : (Nat → Int32)} {ygv : (Nat → Int64)} {yls : (Nat → Int32)} {yrs : (Nat → Int32)} {yor : (Nat → Int32)} {yan : (Nat → Int32)} {yno : (Nat → Int32)} {yow : (Nat → Int32)} {ypa : (Nat → Int32)}
theorem qs_yoa {n : Nat} {d : Nat → Nat} {a c x : Nat} {post : Int32 → Prop} (hn : n ≤ 40) (D : qt_D n d) (hd : ∀ r, r < n → ydp r = nI (d r) ∧ d r < 40) (ha : a ≤ 10) (hc : c < n) (hx : x < n) (h : post (qa_b (qs_ax n d a c x))) :
    wpY_onAxis post (ymo, nI n, yw, yle, yfo, yli, yat, ysu, yid, ydp, ynm, yvl, yci, ycd, ypd, yqu, ygv, yls, yrs, yor, yan, yno, yow, ypa) (nI a) (nI c) (nI x) := by
  have eqc : nI x = nI c ↔ x = c := nI_eq (by omega) (by omega)
  have hcase : a = 0 ∨ a = 1 ∨ a = 2 ∨ a = 3 ∨ a = 4 ∨ a = 5 ∨ a = 6 ∨ a = 7 ∨ a = 8 ∨ a = 9 ∨ a = 10 := by omega
  unfold wpY_onAxis
  dsimp only
  refine br_f (nI_pos (by omega)) ?_
  rcases hcase with rfl | rfl | rfl | rfl | rfl | rfl | rfl | rfl | rfl | rfl | rfl
  · refine br_f (by decide) (br_t (by decide) (qs_pif ?_ h))
    rw [eqc]; exact ⟨fun z => decide_eq_true z, fun z => of_decide_eq_true z⟩
  · exact br_f (by decide) (br_f (by decide) (br_t (by decide) (qy_ch hn hc hx hd ⟨qa_bn _, h⟩)))
  · exact br_f (by decide) (br_f (by decide) (br_f (by decide) (br_t (by decide) (qy_ch hn hx hc hd ⟨qa_bn _, h⟩))))
  · exact br_f (by decide) (br_f (by decide) (br_f (by decide) (br_f (by decide) (br_t (by decide) (qy_ab hn hc hx hd ⟨qa_bn _, h⟩)))))
  · exact br_f (by decide) (br_f (by decide) (br_f (by decide) (br_f (by decide) (br_f (by decide) (br_t (by decide) (qy_ab hn hx hc hd ⟨qa_bn _, h⟩))))))
  · refine br_f (by decide) (br_f (by decide) (br_f (by decide) (br_f (by decide) (br_f (by decide) (br_f (by decide) (br_t (by decide) ?_))))))
    have e : qs_ax n d 5 c x = (decide (x = c) || qt_ab n d c x) := rfl
    rw [e] at h
    refine br_c (fun g => ?_) (fun g => qy_ab hn hc hx hd (qa_br (fun g2 => ?_) (fun g2 => ?_)))
    · rw [decide_eq_true (eqc.mp g)] at h; exact h
    · rw [decide_eq_false (fun z => g (eqc.mpr z)), g2] at h; exact h
    · rw [decide_eq_false (fun z => g (eqc.mpr z)), g2] at h; exact h
  · refine br_f (by decide) (br_f (by decide) (br_f (by decide) (br_f (by decide) (br_f (by decide) (br_f (by decide) (br_f (by decide) (br_t (by decide) ?_)))))))
    have e : qs_ax n d 6 c x = (decide (x = c) || qt_ab n d x c) := rfl
    rw [e] at h
    refine br_c (fun g => ?_) (fun g => qy_ab hn hx hc hd (qa_br (fun g2 => ?_) (fun g2 => ?_)))
    · rw [decide_eq_true (eqc.mp g)] at h; exact h
    · rw [decide_eq_false (fun z => g (eqc.mpr z)), g2] at h; exact h
    · rw [decide_eq_false (fun z => g (eqc.mpr z)), g2] at h; exact h
  · refine br_f (by decide) (br_f (by decide) (br_f (by decide) (br_f (by decide) (br_f (by decide) (br_f (by decide) (br_f (by decide) (br_f (by decide) (br_t (by decide) ?_))))))))
    refine pk_le x c (fun g => ?_) (fun g => ?_)
    · rw [show qs_ax n d 7 c x = false from decide_eq_false (by omega)] at h; exact h
    · have hlx := qt_pr_lt D (by omega) hx
      by_cases e : c = 0
      · subst e
        refine qy_pp0 (qy_pp hn D (by omega) hx hd (br_f (fun z => ?_) ?_))
        · have h1 : (nI (qt_pr d x)).toInt = -1 := by rw [← z]; decide
          rw [nI_toInt (by omega)] at h1; omega
        · rw [show qs_ax n d 7 0 x = false from decide_eq_false (by omega)] at h; exact h
      · have hlc := qt_pr_lt D (by omega) hc
        refine qy_pp hn D (by omega) hc hd (qy_pp hn D (by omega) hx hd (qs_pif ?_ h))
        rw [nI_eq (by omega) (by omega)]
        exact ⟨fun z => decide_eq_true ⟨g, by omega, z⟩, fun z => (of_decide_eq_true z).2.2⟩
  · refine br_f (by decide) (br_f (by decide) (br_f (by decide) (br_f (by decide) (br_f (by decide) (br_f (by decide) (br_f (by decide) (br_f (by decide) (br_f (by decide) (br_t (by decide) ?_)))))))))
    refine pk_le c x (fun g => ?_) (fun g => br_f (nI_nle (by omega) (by omega)) ?_)
    · rw [show qs_ax n d 8 c x = false from decide_eq_false (by omega)] at h; exact h
    · refine pk_le x 0 (fun g2 => ?_) (fun g2 => ?_)
      · rw [show qs_ax n d 8 c x = false from decide_eq_false (by omega)] at h; exact h
      · have hlx := qt_pr_lt D (by omega) hx
        have hlc := qt_pr_lt D (by omega) hc
        refine qy_pp hn D (by omega) hc hd (qy_pp hn D (by omega) hx hd (qs_pif ?_ h))
        rw [nI_eq (by omega) (by omega)]
        exact ⟨fun z => decide_eq_true ⟨g, by omega, z⟩, fun z => (of_decide_eq_true z).2.2⟩
  · refine br_f (by decide) (br_f (by decide) (br_f (by decide) (br_f (by decide) (br_f (by decide) (br_f (by decide) (br_f (by decide) (br_f (by decide) (br_f (by decide) (br_f (by decide) (br_t (by decide) ?_))))))))))
    have e : qs_ax n d 9 c x = (decide (c < x) && !qt_ab n d c x) := rfl
    rw [e] at h
    refine pk_le x c (fun g => ?_) (fun g => qy_ab hn hc hx hd (qa_br (fun g2 => ?_) (fun g2 => ?_)))
    · rw [decide_eq_false (show ¬ c < x by omega)] at h; exact h
    · rw [decide_eq_true g, g2] at h; exact h
    · rw [decide_eq_true g, g2] at h; exact h
  · refine br_t (by decide) ?_
    have e : qs_ax n d 10 c x = (decide (x < c) && !qt_ab n d x c) := rfl
    rw [e] at h
    refine pk_le c x (fun g => ?_) (fun g => qy_ab hn hx hc hd (qa_br (fun g2 => ?_) (fun g2 => ?_)))
    · rw [decide_eq_false (show ¬ x < c by omega)] at h; exact h
    · rw [decide_eq_true g, g2] at h; exact h
    · rw [decide_eq_true g, g2] at h; exact h
end
