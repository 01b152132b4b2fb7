/-! compile -/
def qe_tk (qu pd : Nat → Int32) (w k : Nat) : Nat → Int32 := fun x => if x < k then (if x < w then pd x else 0) else qu x
theorem qe_tk_0 (qu pd : Nat → Int32) (w : Nat) : qe_tk qu pd w 0 = qu := by funext x; unfold qe_tk; rw [if_neg (by omega)]
theorem qe_tk_s (qu pd : Nat → Int32) (w k : Nat) : upd (qe_tk qu pd w k) k (if k < w then pd k else 0) = qe_tk qu pd w (k + 1) := by
  funext x
  unfold upd qe_tk
  by_cases e : x = k
  · subst e; rw [if_pos rfl, if_pos (show x < x + 1 by omega)]
  · rw [if_neg e]
    by_cases g : x < k
    · rw [if_pos g, if_pos (show x < k + 1 by omega)]
    · rw [if_neg g, if_neg (by omega)]
theorem qe_m1 (k : Nat) : nI k + (-1) = nI k - 1 := by rw [Int32.sub_eq_add_neg]
theorem qe_axt {q : Nat → Int32} {len t : Nat} (G : qe_G q len) (ht : t < len) (ha : qc_ax (q t) = true) : (qc_tr q (t + 1)).1 = 2 ∧ (qc_tr q (t + 1)).2.1 = (qc_tr q t).2.1 ∧ (qc_tr q (t + 1)).2.2.2.1 = (qc_tr q t).2.2.2.1 ∧ ((qc_tr q t).1 ≠ 4 → (qc_tr q (t + 1)).2.2.2.2 = (qc_tr q t).2.2.2.2) ∧ ((qc_tr q t).1 = 1 ∨ (qc_tr q t).1 = 3 ∨ (qc_tr q t).1 = 4) ∧ ((qc_tr q t).1 = 4 → (qc_tr q (t + 1)).2.2.2.2 (qc_tr q t).2.1 = false) := by
  have hz := qe_nz (k := t + 1) G (by omega)
  have W := qe_W (k := t) G (by omega)
  show (qc_nx (qc_tr q t) (q t)).1 = 2 ∧ (qc_nx (qc_tr q t) (q t)).2.1 = _ ∧ (qc_nx (qc_tr q t) (q t)).2.2.2.1 = _ ∧ (_ → (qc_nx (qc_tr q t) (q t)).2.2.2.2 = _) ∧ _ ∧ (_ → (qc_nx (qc_tr q t) (q t)).2.2.2.2 _ = _)
  have hz : (qc_nx (qc_tr q t) (q t)).1 ≠ 0 := hz
  rcases hk : qc_tr q t with ⟨s, l, o, pa, ct⟩
  rw [hk] at W hz
  obtain ⟨w1, w2, w3, w4, w5, w6⟩ := W
  generalize q t = x at ha hz
  have n5 : x ≠ 5 := by rintro rfl; exact absurd ha (by decide)
  have n6 : x ≠ 6 := by rintro rfl; exact absurd ha (by decide)
  have n4 : x ≠ 4 := by rintro rfl; exact absurd ha (by decide)
  have n2 : x ≠ 2 := by rintro rfl; exact absurd ha (by decide)
  have nm : ¬ qc_nm x = true := by
    intro z
    have a := of_decide_eq_true ha
    have b := of_decide_eq_true z
    exact b.1 (Int32.lt_of_le_of_lt (Int32.not_lt.mp a.2) (by decide))
  have nu : ¬ qc_nu x = true := by
    intro z
    have a := of_decide_eq_true ha
    have b := of_decide_eq_true z
    exact b.1 (Int32.lt_of_le_of_lt (Int32.not_lt.mp a.2) (by decide))
  have nc : ¬ qc_cp x = true := by
    intro z
    rcases of_decide_eq_true z with rfl | rfl | rfl <;> exact absurd ha (by decide)
  have af : (qc_af l o pa ct x).1 = 0 := by
    unfold qc_af
    rw [if_neg (by rintro (z | z); exact n5 z; exact n6 z), if_neg (fun z => n4 z.1), if_neg (fun z => n2 z.1)]
  have hs : s = 1 ∨ s = 2 ∨ s = 3 ∨ s = 4 ∨ s = 5 ∨ s = 6 ∨ s = 7 := by omega
  rcases hs with rfl | rfl | rfl | rfl | rfl | rfl | rfl
  · rw [qc_nx_1, if_pos ha]; exact ⟨rfl, rfl, rfl, fun _ => rfl, Or.inl rfl, fun z => absurd z (by show ¬ (1 = 4); omega)⟩
  · rw [qc_nx_2, if_neg nm] at hz; exact absurd rfl hz
  · rw [qc_nx_3]; unfold qc_sp; rw [if_pos ha]; exact ⟨rfl, rfl, rfl, fun _ => rfl, Or.inr (Or.inl rfl), fun z => absurd z (by show ¬ (3 = 4); omega)⟩
  · rw [qc_nx_4]
    unfold qc_op
    rw [if_neg (by rintro rfl; exact absurd ha (by decide)), if_neg (by rintro rfl; exact absurd ha (by decide)), if_neg (by rintro (rfl | rfl) <;> exact absurd ha (by decide)), if_neg (by rintro rfl; exact absurd ha (by decide)), if_neg (by rintro rfl; exact absurd ha (by decide)), if_pos ha]
    exact ⟨rfl, rfl, rfl, fun z => absurd rfl z, Or.inr (Or.inr rfl), fun _ => qc_put_s⟩
  · rw [qc_nx_5, if_neg nc] at hz; exact absurd rfl hz
  · rw [qc_nx_6, if_neg nu] at hz; exact absurd rfl hz
  · rw [qc_nx_7] at hz; exact absurd af hz
theorem qe_nmt {q : Nat → Int32} {len t : Nat} (G : qe_G q len) (ht : t < len) (hs : (qc_tr q t).1 = 2) : qc_nm (q t) = true ∧ (qc_tr q (t + 1)).1 = 3 ∧ (qc_tr q (t + 1)).2 = (qc_tr q t).2 := by
  have hz := qe_nz (k := t + 1) G (by omega)
  show _ ∧ (qc_nx (qc_tr q t) (q t)).1 = 3 ∧ (qc_nx (qc_tr q t) (q t)).2 = _
  have hz : (qc_nx (qc_tr q t) (q t)).1 ≠ 0 := hz
  rcases hk : qc_tr q t with ⟨s, l, o, pa, ct⟩
  rw [hk] at hs hz
  have hs : s = 2 := hs
  subst hs
  rw [qc_nx_2] at hz ⊢
  by_cases g : qc_nm (q t) = true
  · rw [if_pos g]; exact ⟨g, rfl, rfl⟩
  · rw [if_neg g] at hz; exact absurd rfl hz
/-- an axis token begins a step: its name stands behind it, and behind the step it is done -/
theorem qe_se_spec {q : Nat → Int32} {len t : Nat} (G : qe_G q len) (ht : t < len) (ha : qc_ax (q t) = true) :
    t + 1 < len ∧ qc_nm (q (t + 1)) = true ∧ (qc_tr q (t + 2)).1 = 3 ∧ qe_se q len t ≤ len ∧ qe_Sm (qc_tr q (t + 1)) (qc_tr q (qe_se q len t)) ∧ (qe_se q len t < len → q (qe_se q len t) ≠ 1) := by
  obtain ⟨a1, a2, a3, a4, a5⟩ := qe_axt G ht ha
  have h1 : t + 1 < len := by
    by_cases e : t + 1 = len
    · rw [e, G.1] at a1; omega
    · omega
  obtain ⟨b1, b2, b3⟩ := qe_nmt G h1 a1
  obtain ⟨c1, c2, c3⟩ := qe_so_spec G (len - (t + 2)) (t + 2) (Nat.le_refl _) (by omega) b2
  refine ⟨h1, b1, b2, c1, ?_, c3⟩
  have b3 : (qc_tr q (t + 2)).2 = (qc_tr q (t + 1)).2 := b3
  unfold qe_Sm at c2 ⊢
  rw [b3] at c2
  exact c2
section
variable {xlim : Int32} {xn : Int32} {xpc : Int32} {xlv : Int32} {xop : Int32} {xql : Int32} {xrc : Int32} {xrt : Int64} {xod : (Nat → Int32)} {xpo : (Nat → Int32)} {xnm : (Nat → Int32)} {xvl : (Nat → Int32)} {xmv : (Nat → Int32)} {xrk : (Nat → Int32)} {xpt : (Nat → Int32)} {xsz : (Nat → Int32)} {xpd : (Nat → Int32)} {xpa : (Nat → Int32)} {xct : (Nat → Int32)} {xqu : (Nat → Int32)} {xco : (Nat → Int32)} {xse : (Nat → Int32)} {xpe : (Nat → Int32)} {xgv : (Nat → Int64)} {xan : (Nat → Int64)} {xal : (Nat → Int64)} {xng : (Nat → Int32)} {xrs : (Nat → Int32)} {ymo : Int32} {yn : Int32} {yw : Int32} {yle : Int32} {yfo : Int32} {yli : Int32} {yat : Int32} {ysu : Int64} {yid : (Nat → Int32)} {ydp : (Nat → Int32)} {ynm : (Nat → Int32)} {yvl : (Nat → Int32)} {yci : (Nat → Int32)} {ycd : (Nat → Int32)} {ypd : (Nat → Int32)} {yqu : (Nat → Int32)} {ygv : (Nat → Int64)} {yls : (Nat → Int32)} {yrs : (Nat → Int32)} {yor : (Nat → Int32)} {yan : (Nat → Int32)} {yno : (Nat → Int32)} {yow : (Nat → Int32)} {ypa : (Nat → Int32)}
theorem qe_xtk {w : Nat} {post : SX → Prop} (hw : w ≤ 40) (h : post (xlim, xn, nI w, xlv, xop, nI w, xrc, xrt, xod, xpo, xnm, xvl, xmv, xrk, xpt, xsz, xpd, xpa, xct, qe_tk xqu xpd w 41, xco, xse, xpe, xgv, xan, xal, xng, xrs)) : wpX_takePending post (xlim, xn, nI w, xlv, xop, xql, xrc, xrt, xod, xpo, xnm, xvl, xmv, xrk, xpt, xsz, xpd, xpa, xct, xqu, xco, xse, xpe, xgv, xan, xal, xng, xrs) := by
  have key : ∀ k r, r + k = 41 → wX_takePending_10 post xlim xn (nI w) xlv xop (nI w) xrc xrt (k + 1) (nI r) xod xpo xnm xvl xmv xrk xpt xsz xpd xpa xct (qe_tk xqu xpd w r) xco xse xpe xgv xan xal xng xrs := by
    intro k
    induction k with
    | zero =>
      intro r e
      have e : r = 41 := by omega
      subst e
      exact br_t (by decide) h
    | succ k ih =>
      intro r e
      refine br_f (nI_ge (b := 41) (by omega) (by omega)) ?_
      have c := qe_tk_s xqu xpd w r
      refine pk_le w r (fun g => ?_) (fun g => ?_)
      · refine ⟨vp_in_nI (by omega) (by omega), fun a ea y ey => ?_⟩
        rw [nI_clamp (by omega)] at ea
        rw [if_neg (by omega)] at c
        rw [c] at ea
        rw [nI_1] at ey
        subst ea; subst ey
        exact ih (r + 1) (by omega)
      · refine ⟨vp_in_nI (by omega) (by omega), vp_in_nI (by omega) (by omega), fun a ea y ey => ?_⟩
        rw [nI_clamp (by omega)] at ea
        rw [if_pos g] at c
        rw [c] at ea
        rw [nI_1] at ey
        subst ea; subst ey
        exact ih (r + 1) (by omega)
  have c := key 41 0 (by omega)
  rw [qe_tk_0] at c
  exact Exists.intro _ c
theorem qe_ycp {w : Nat} {post : Int32 → SY → Prop} (hw : w ≤ 40) (h : post 0 (ymo, yn, yw, nI w, yfo, yli, yat, ysu, yid, ydp, ynm, yvl, yci, ycd, ypd, qa_bl yqu ypd 0 w, ygv, yls, yrs, yor, yan, yno, yow, ypa)) : ∃ f, wY_compile_24 post (nI w) ymo yn yw yle yfo yli yat ysu f 0 yid ydp ynm yvl yci ycd ypd yqu ygv yls yrs yor yan yno yow ypa := by
  have key : ∀ k r, r + k = w → wY_compile_24 post (nI w) ymo yn yw yle yfo yli yat ysu (k + 1) (nI r) yid ydp ynm yvl yci ycd ypd (qa_bl yqu ypd 0 r) ygv yls yrs yor yan yno yow ypa := by
    intro k
    induction k with
    | zero =>
      intro r e
      have e : r = w := by omega
      subst e
      exact br_t (nI_le (by omega) (by omega)) h
    | succ k ih =>
      intro r e
      have i1 : vp_in (nI r) 40 := vp_in_nI (by omega) (by omega)
      refine br_f (nI_ge (by omega) (by omega)) ⟨i1, i1, fun a ea y ey => ?_⟩
      have c := qa_bl_s yqu ypd 0 r
      rw [Nat.zero_add] at c
      rw [nI_clamp (by omega), c] at ea
      rw [nI_1] at ey
      subst ea; subst ey
      exact ih (r + 1) (by omega)
  have c := key w 0 (by omega)
  rw [qa_bl_0] at c
  exact ⟨_, c⟩
theorem qe_xcb {q : Nat → Int32} {len t : Nat} {post : Int32 → Prop} (hl : len ≤ 40) (ht : t < len) (h1 : q t = 1) (h : post (nI (qe_cl q len t))) : wpX_closingBracket post (xlim, xn, xpc, xlv, xop, nI len, xrc, xrt, xod, xpo, xnm, xvl, xmv, xrk, xpt, xsz, xpd, xpa, xct, q, xco, xse, xpe, xgv, xan, xal, xng, xrs) (nI t) := by
  have key : ∀ f e k, k + f = len → 1 ≤ e → e ≤ k + 1 → post (nI (qe_C q f e k)) → wX_closingBracket_4 post xlim xn xpc xlv xop (nI len) xrc xrt xod xpo xnm xvl xmv xrk xpt xsz xpd xpa xct q xco xse xpe xgv xan xal xng xrs (f + 1) (nI e) (nI k) := by
    intro f
    induction f with
    | zero =>
      intro e k hk _ _ hp
      simp only [qe_C] at hp
      rw [show k = len by omega] at hp ⊢
      exact br_t (nI_le (Nat.le_refl _) (by omega)) hp
    | succ f ih =>
      intro e k hk he he2 hp
      simp only [qe_C] at hp
      have ik : vp_in (nI k) 41 := vp_in_nI (by omega) (by omega)
      have ek : (nI k).toNatClampNeg = k := nI_clamp (by omega)
      refine br_f (nI_ge (by omega) (by omega)) ⟨ik, ?_⟩
      rw [ek]
      by_cases g1 : q k = 1
      · rw [if_pos g1] at hp
        exact br_t g1 (nm_r (nI_1 e) (nm_r (nI_1 k) (ih (e + 1) (k + 1) (by omega) (by omega) (by omega) hp)))
      · rw [if_neg g1] at hp
        refine br_f g1 ⟨ik, ?_⟩
        by_cases g2 : q k = 2
        · rw [if_pos g2] at hp
          refine br_t g2 (nm_r (sb_m1 he) ?_)
          refine pk_eq (e - 1) 0 (fun g3 => ?_) (fun g3 => ?_)
          · rw [if_pos (by omega)] at hp; exact hp
          · rw [if_neg (by omega)] at hp
            exact nm_r (nI_1 k) (ih (e - 1) (k + 1) (by omega) (by omega) (by omega) hp)
        · rw [if_neg g2] at hp
          exact br_f g2 (nm_r (nI_1 k) (ih e (k + 1) (by omega) (by omega) (by omega) hp))
  refine Exists.intro (len - (t + 1) + 1 + 1) (br_f (nI_ge (by omega) (by omega)) ⟨vp_in_nI (by omega) (by omega), br_t (by rw [nI_clamp (by omega)]; exact h1) (nm_r (show (0 : Int32) + 1 = nI 1 by decide) (nm_r (nI_1 t) ?_))⟩)
  exact key (len - (t + 1)) 1 (t + 1) (by omega) (by omega) (by omega) h
theorem qe_xes {q co : Nat → Int32} {len t : Nat} {post : Int32 → Prop} (hl : len ≤ 40) (ht : t + 2 ≤ len) (hc : ∀ x, t < x → x < len → q x = 1 → co x = nI (qe_cl q len x) ∧ qe_cl q len x < len) (h : post (nI (qe_se q len t))) : wpX_endOfStep post (xlim, xn, xpc, xlv, xop, nI len, xrc, xrt, xod, xpo, xnm, xvl, xmv, xrk, xpt, xsz, xpd, xpa, xct, q, co, xse, xpe, xgv, xan, xal, xng, xrs) (nI t) := by
  have key : ∀ f k E, k + f = len → t < k → E ≤ len → (E < k → post (nI E)) → (k ≤ E → post (nI (qe_so q len E))) → wX_endOfStep_8 post xlim xn xpc xlv xop (nI len) xrc xrt xod xpo xnm xvl xmv xrk xpt xsz xpd xpa xct q co xse xpe xgv xan xal xng xrs (f + 1) (nI E) (nI k) := by
    intro f
    induction f with
    | zero =>
      intro k E hk htk hE h1 h2
      refine br_t (nI_le (by omega) (by omega)) ?_
      by_cases e : E < k
      · exact h1 e
      · have := h2 (by omega)
        rw [qe_so_eq, if_neg (by omega)] at this; exact this
    | succ f ih =>
      intro k E hk htk hE h1 h2
      refine br_f (nI_ge (by omega) (by omega)) ?_
      refine pk_eq k E (fun g => ⟨vp_in_nI (by omega) (by omega), ?_⟩) (fun g => ?_)
      · subst g
        rw [nI_clamp (by omega)]
        have h2 := h2 (Nat.le_refl _)
        rw [qe_so_eq] at h2
        by_cases g1 : q k = 1
        · rw [if_pos ⟨by omega, g1⟩] at h2
          have c := hc k htk (by omega) g1
          have cg := qe_cl_ge q len k
          refine br_t g1 ⟨vp_in_nI (by omega) (by omega), nm_r (e' := nI (qe_cl q len k + 1)) (by rw [c.1, nI_1]) (nm_r (nI_1 k) (ih (k + 1) _ (by omega) (by omega) (by omega) (fun z => by omega) (fun _ => h2)))⟩
        · rw [if_neg (fun z => g1 z.2)] at h2
          exact br_f g1 (nm_r (nI_1 k) (ih (k + 1) k (by omega) (by omega) (by omega) (fun _ => h2) (fun z => by omega)))
      · exact nm_r (nI_1 k) (ih (k + 1) E (by omega) (by omega) hE (fun z => h1 (by omega)) (fun z => h2 (by omega)))
  exact nm_r (nI_add t 2) (nm_r (nI_add t 2) (Exists.intro _ (key (len - (t + 2)) (t + 2) (t + 2) (by omega) (by omega) ht (fun z => by omega) (fun _ => h))))
/-- what noteEnds has noted of the tokens from t on -/
def qe_N (q : Nat → Int32) (len t : Nat) (co se pe : Nat → Int32) : Prop :=
  (∀ x, t ≤ x → x < len → q x = 1 → co x = nI (qe_cl q len x)) ∧ (∀ x, t ≤ x → x < len → qc_ax (q x) = true → se x = nI (qe_se q len x) ∧ pe x = nI (qe_pe q len x))
theorem qe_pe_le {q : Nat → Int32} {len : Nat} (G : qe_G q len) : ∀ f k, len - k ≤ f → k ≤ len → k ≤ qe_pe q len k ∧ qe_pe q len k ≤ len := by
  intro f
  induction f with
  | zero => intro k h hk; rw [qe_pe_eq, if_neg (by omega)]; omega
  | succ f ih =>
    intro k h hk
    rw [qe_pe_eq]
    by_cases g : k < len ∧ qc_ax (q k) = true
    · rw [if_pos g]
      have a := qe_se_spec G g.1 g.2
      have a4 := a.2.2.2.1
      have b := qe_se_ge q len k
      have := ih (qe_se q len k) (by omega) a4
      omega
    · rw [if_neg g]; omega
theorem qe_xn32 {q : Nat → Int32} {len t : Nat} {post : SX → Prop} {J : Int32 → (Nat → Int32) → (Nat → Int32) → (Nat → Int32) → (Nat → Int32) → (Nat → Int32) → (Nat → Int32) → (Nat → Int32) → (Nat → Int32) → (Nat → Int32) → (Nat → Int32) → (Nat → Int32) → (Nat → Int32) → (Nat → Int32) → (Nat → Int32) → (Nat → Int32) → (Nat → Int64) → (Nat → Int64) → (Nat → Int64) → (Nat → Int32) → (Nat → Int32) → Prop} (G : qe_G q len) (hl : len ≤ 40) (hq : ∀ x, len ≤ x → x < 41 → q x = 0) (ht : t < len)
    (N : qe_N q len (t + 1) xco xse xpe) (hc : q t = 1 → xco t = nI (qe_cl q len t))
    (h : ∀ se pe, qe_N q len t xco se pe → J (nI t - 1) xod xpo xnm xvl xmv xrk xpt xsz xpd xpa xct q xco se pe xgv xan xal xng xrs) : wX_noteEnds_32 post J (nI t) xlim xn xpc xlv xop (nI len) xrc xrt xod xpo xnm xvl xmv xrk xpt xsz xpd xpa xct q xco xse xpe xgv xan xal xng xrs := by
  have et : (nI t).toNatClampNeg = t := nI_clamp (by omega)
  have it : vp_in (nI t) 40 := vp_in_nI (by omega) (by omega)
  have nc : ∀ x, t ≤ x → x < len → q x = 1 → xco x = nI (qe_cl q len x) := by
    intro x h1 h2 h3
    by_cases e : x = t
    · rw [e] at h3 ⊢; exact hc h3
    · exact N.1 x (by omega) h2 h3
  refine And.intro (vp_in_nI (by omega) (by omega)) ?_
  rw [et]
  refine qc_xax (qa_br (fun g => ?_) (fun g => ?_))
  · refine nm_r (qe_m1 t) (h _ _ ⟨nc, fun x h1 h2 h3 => ?_⟩)
    by_cases e : x = t
    · rw [e, g] at h3; exact absurd h3 (by decide)
    · exact N.2 x (by omega) h2 h3
  · obtain ⟨a1, a2, a3, a4, a5, a6⟩ := qe_se_spec G ht g
    have b := qe_se_ge q len t
    refine qe_xes hl (by omega) (fun x h1 h2 h3 => ⟨N.1 x (by omega) h2 h3, (qe_cl_spec G h2 h3).2.1⟩) ⟨it, fun a ea => ⟨vp_in_nI (by omega) (by omega), ?_⟩⟩
    rw [nI_clamp (n := qe_se q len t) (by omega)]
    have pe := qe_pe_eq q len t
    rw [if_pos ⟨ht, g⟩] at pe
    refine qc_xax (qa_br (fun g2 => ⟨it, fun b eb => ?_⟩) (fun g2 => ?_))
    · refine nm_r (qe_m1 t) (h _ _ ⟨nc, fun x h1 h2 h3 => ?_⟩)
      by_cases e : x = t
      · rw [e, ea, eb]
        refine ⟨pk_us, ?_⟩
        rw [pk_us, pe, qe_pe_eq, if_neg (fun z => by rw [g2] at z; exact absurd z.2 (by decide))]
      · rw [ea, eb, pk_un e, pk_un e]; exact N.2 x (by omega) h2 h3
    · have hlt : qe_se q len t < len := by
        refine Nat.lt_of_not_le (fun z => ?_)
        rw [hq _ z (by omega)] at g2
        exact absurd g2 (by decide)
      refine ⟨vp_in_nI (by omega) (by omega), it, fun b eb => ?_⟩
      rw [(N.2 (qe_se q len t) (by omega) hlt g2).2, ← pe] at eb
      refine nm_r (qe_m1 t) (h _ _ ⟨nc, fun x h1 h2 h3 => ?_⟩)
      by_cases e : x = t
      · rw [e, ea, eb]; exact ⟨pk_us, pk_us⟩
      · rw [ea, eb, pk_un e, pk_un e]; exact N.2 x (by omega) h2 h3
theorem qe_xne {q : Nat → Int32} {len : Nat} {post : SX → Prop} (G : qe_G q len) (hl : len ≤ 40) (hq : ∀ x, len ≤ x → x < 41 → q x = 0)
    (h : ∀ co se pe, qe_N q len 0 co se pe → post (xlim, xn, xpc, xlv, xop, nI len, xrc, xrt, xod, xpo, xnm, xvl, xmv, xrk, xpt, xsz, xpd, xpa, xct, q, co, se, pe, xgv, xan, xal, xng, xrs)) : wpX_noteEnds post (xlim, xn, xpc, xlv, xop, nI len, xrc, xrt, xod, xpo, xnm, xvl, xmv, xrk, xpt, xsz, xpd, xpa, xct, q, xco, xse, xpe, xgv, xan, xal, xng, xrs) := by
  have key : ∀ k co se pe, k ≤ len → qe_N q len k co se pe → wX_noteEnds_7 post xlim xn xpc xlv xop (nI len) xrc xrt (k + 1) (nI k - 1) xod xpo xnm xvl xmv xrk xpt xsz xpd xpa xct q co se pe xgv xan xal xng xrs := by
    intro k
    induction k with
    | zero => intro co se pe _ N; exact br_t (by decide) (h co se pe N)
    | succ k ih =>
      intro co se pe hk N
      rw [nI_pred]
      refine br_f (nI_pos (by omega)) ⟨vp_in_nI (by omega) (by omega), ?_⟩
      rw [nI_clamp (n := k) (by omega)]
      refine br_c (fun g => ?_) (fun g => ?_)
      · refine qe_xcb hl (by omega) g ⟨vp_in_nI (by omega) (by omega), fun a ea => ?_⟩
        have N' : qe_N q len (k + 1) a se pe := by
          refine ⟨fun x h1 h2 h3 => ?_, N.2⟩
          rw [ea, pk_un (by omega)]; exact N.1 x h1 h2 h3
        exact qe_xn32 G hl hq (by omega) N' (fun _ => by rw [ea]; exact pk_us) (fun se' pe' N'' => ih a se' pe' (by omega) N'')
      · exact qe_xn32 G hl hq (by omega) N (fun z => absurd z g) (fun se' pe' N'' => ih co se' pe' (by omega) N'')
  exact nm_e (Exists.intro _ (key len xco xse xpe (Nat.le_refl _) ⟨fun x h1 h2 => by omega, fun x h1 h2 => by omega⟩))
end
theorem i_vc_compile {k : Nat} {u : SX} {v : SY} (I : i_Rel k u v) (hk : k + 5 ≤ 2561) : wpX_compile (fun r u' => wpY_compile (fun r' v' => r' = r ∧ i_Rel (k + 5) u' v') v) u := by
  have I0 := I
  obtain ⟨L, n, w, len, fd, i, d, xlv, xop, sm, id, po, nm, vl, mv, rk, pt, sz, pd, xpa, xct, qx, co, se, pe, xgv, xan, xal, xng, rs, yli, yat, dp, yci, ycd, qy, ygv, yls, yor, yan, yno, yow, ypa, rfl, rfl, hL, hw, hf, B, N, Q⟩ := I
  unfold wpX_compile wpY_compile
  dsimp only
  have hle := qc_wp_le pd w 0
  refine qc_xwp hw (fun lv op pa ct => ?_)
  refine pk_eq (qc_wp pd w 0) 0 (fun g => ?_) (fun g => ?_)
  · have T := qc_wp_0 pd w 0 g
    rw [Nat.zero_add] at T
    have eq : ∀ x, x < w → qe_tk qx pd w 41 x = pd x := by
      intro x hx
      unfold qe_tk
      rw [if_pos (by omega), if_pos hx]
    have G : qe_G (qe_tk qx pd w 41) w := by
      unfold qe_G
      rw [qc_tr_c w eq]; exact T
    have hq : ∀ x, w ≤ x → x < 41 → qe_tk qx pd w 41 x = 0 := by
      intro x h1 h2
      unfold qe_tk
      rw [if_pos h2, if_neg (by omega)]
    refine qe_xtk hw (qe_xne G hw hq (fun co' se' pe' N' => ?_))
    refine qc_ywp hw (fun ow pa' => ?_)
    have Q' : qr_Q w (qe_tk qx pd w 41) (qa_bl qy pd 0 w) co' se' pe' := by
      refine ⟨hw, fun t ht => ?_, hq, fun _ => G, fun t ht => N'.1 t (by omega) ht, fun t ht => N'.2 t (by omega) ht⟩
      rw [eq t ht]
      unfold qa_bl
      rw [if_pos ht, Nat.zero_add]
    exact br_t (by rw [g]; decide) (qe_ycp hw ⟨by rw [g]; rfl, qr_mk (w := 0) hL (by omega) hf B N Q'⟩)
  · refine qc_ywp hw (fun ow pa' => br_f (nI_ne0 (by omega) (by omega)) ⟨rfl, ?_⟩)
    exact qr_mk (w := 0) hL (by omega) hf B N Q
