/-! move -/
section
variable {xlim : Int32} {xn : Int32} {xpc : Int32} {xlv : Int32} {xop : Int32} {xql : Int32} {xrc : Int32} {xrt : Int64} {xod : (Nat → Int32)} {xpo : (Nat → Int32)} {xnm : (Nat → Int32)} {xvl : (Nat → Int32)} {xmv : (Nat → Int32)} {xrk : (Nat → Int32)} {xpt : (Nat → Int32)} {xsz : (Nat → Int32)} {xpd : (Nat → Int32)} {xpa : (Nat → Int32)} {xct : (Nat → Int32)} {xqu : (Nat → Int32)} {xco : (Nat → Int32)} {xse : (Nat → Int32)} {xpe : (Nat → Int32)} {xgv : (Nat → Int64)} {xan : (Nat → Int64)} {xal : (Nat → Int64)} {xng : (Nat → Int32)} {xrs : (Nat → Int32)}
theorem qx_m96 {n s w : Nat} {x1 x2 : Int32} {j : Nat} {post : Int32 → SX → Prop} (hw : s + w ≤ 40) (hx : x1 = nI j) (hj : j < 40) (h : wpX_noteShape (fun u => match u with | (xlim, xn, xpc, xlv, xop, xql, xrc, xrt, xod, xpo, xnm, xvl, xmv, xrk, xpt, xsz, xpd, xpa, xct, xqu, xco, xse, xpe, xgv, xan, xal, xng, xrs) => post (nI s) (xlim, xn, xpc, xlv, xop, xql, xrc, xrt, xod, xpo, xnm, xvl, xmv, xrk, xpt, xsz, xpd, xpa, xct, xqu, xco, xse, xpe, xgv, xan, xal, xng, xrs)) (xlim, xn, xpc, xlv, xop, xql, xrc, xrt, qa_pu xod s xmv w, upd xpo j x2, xnm, xvl, xmv, xrk, xpt, xsz, xpd, xpa, xct, xqu, xco, xse, xpe, xgv, xan, xal, xng, xrs)) : ∃ f, wX_move_96 post x1 x2 (nI w) (nI s) xlim xn xpc xlv xop xql xrc xrt f 0 xod xpo xnm xvl xmv xrk xpt xsz xpd xpa xct xqu xco xse xpe xgv xan xal xng xrs := by
  subst hx
  have key : ∀ k r, r + k = w → wX_move_96 post (nI j) x2 (nI w) (nI s) xlim xn xpc xlv xop xql xrc xrt (k + 1) (nI r) (qa_pu xod s xmv r) xpo xnm xvl xmv xrk xpt xsz xpd xpa xct xqu xco xse xpe xgv xan xal xng xrs := by
    intro k
    induction k with
    | zero =>
      intro r e
      have e : r = w := by omega
      subst e
      refine br_t (nI_le (by omega) (by omega)) ⟨vp_in_nI hj (by omega), fun a ea => ?_⟩
      rw [nI_clamp (by omega)] at ea
      subst ea
      exact h
    | succ k ih =>
      intro r e
      have e1 : nI s + nI r = nI (s + r) := nI_add s r
      have i1 : vp_in (nI s + nI r) 40 := by rw [e1]; exact vp_in_nI (by omega) (by omega)
      have i2 : vp_in (nI r) 40 := vp_in_nI (by omega) (by omega)
      refine br_f (nI_ge (by omega) (by omega)) ⟨i2, i1, fun a ea y ey => ?_⟩
      rw [e1, nI_clamp (by omega), nI_clamp (by omega), qa_pu_s] at ea
      subst ea; subst ey
      rw [nI_1]
      exact ih (r + 1) (by omega)
  have c := key w 0 (by omega)
  rw [qa_pu_0] at c
  exact ⟨_, c⟩
theorem qx_is {n r t : Nat} {i d : Nat → Nat} {od dp po rk pt sz : Nat → Int32} {post : Int32 → Prop} (B : qr_B n i d od dp po) (N : qr_N n i d rk pt sz) (hr : r < n) (ht : t < n) (h : post (qa_b (decide (r ≤ t ∧ t < qt_en n d r)))) : wpX_isInSubtree post (xlim, nI n, xpc, xlv, xop, xql, xrc, xrt, od, po, xnm, xvl, xmv, rk, pt, sz, xpd, xpa, xct, xqu, xco, xse, xpe, xgv, xan, xal, xng, xrs) (nI (i t)) (nI (i r)) := by
  have hn := B.1.2
  have hir := (B.2.1 r hr).2
  have hit := (B.2.1 t ht).2
  obtain ⟨e1, e2, e3, e4⟩ := qt_en_spec (n := n) (d := d) hr
  refine And.intro (vp_in_nI hir (by omega)) (nm_r (e' := nI r) (by rw [nI_clamp (by omega), N.1 r hr]) ⟨vp_in_nI hit (by omega), ?_⟩)
  rw [nI_clamp (n := i t) (by omega), N.1 t ht]
  refine pk_lt t r (fun g => ?_) (fun g => ⟨vp_in_nI hit (by omega), vp_in_nI (by omega) (by omega), ?_⟩)
  · rw [decide_eq_false (by omega)] at h; exact h
  · rw [nI_clamp (n := r) (by omega), N.2.2.2.2 r hr, nI_add, show r + (qt_en n d r - r) = qt_en n d r by omega]
    refine pk_le (qt_en n d r) t (fun g2 => ?_) (fun g2 => ?_)
    · rw [decide_eq_false (by omega)] at h; exact h
    · rw [decide_eq_true (by omega)] at h; exact h
end
theorem qm_dl {a b c : Nat} (h : c ≤ a) : nI a + ((nI b + 1) - nI c) = nI (a + (b + 1) - c) := by
  obtain ⟨e, rfl⟩ : ∃ e, a = c + e := ⟨a - c, by omega⟩
  rw [show c + e + (b + 1) - c = e + (b + 1) by omega, ← nI_add c e, ← nI_add e (b + 1), ← nI_1]
  generalize nI c = x
  generalize nI e = y
  generalize nI b = z
  grind
/-- what is the same on both sides once the move is allowed: the tree without the node, and with it put in again -/
theorem qr_move {n r t w : Nat} {i d : Nat → Nat} {id dp po : Nat → Int32} (B : qr_B n i d id dp po) (hr0 : 0 < r) (hr : r < n) (ht : t < n) (hw : r + w = qt_en n d r) (out : ¬ (r ≤ t ∧ t < qt_en n d r)) :
    ∃ t1, t1 < n - w ∧ qt_cut i r w t1 = i t ∧
    ∀ s, qt_Sp (n - w) (qt_cut d r w) t1 s → ∀ b c : Nat → Int32, (∀ k, k < w → b k = id (r + k)) → (∀ k, k < w → c k = dp (r + k) + ((nI (qt_cut d r w t1) + 1) - nI (d r))) →
      qr_B n (qt_ins (qt_cut i r w) s w (fun k => i (r + k))) (qt_ins (qt_cut d r w) s w (fun k => d (r + k) + (qt_cut d r w t1 + 1) - d r)) (qa_pu (qa_og (qa_cl id r (n - w) w) s (n - w) w) s b w) (qa_pu (qa_og (qa_cl dp r (n - w) w) s (n - w) w) s c w) (upd po (i r) (nI (i t))) := by
  obtain ⟨e1, e2, e3, e4⟩ := qt_en_spec (n := n) (d := d) hr
  have B1 := qr_cut_B B hr0 hr hw
  obtain ⟨⟨n0, n1⟩, hi, hi0, inj, D, hd, po0, hpo⟩ := B
  have hdr : ∀ k, k < w → d r ≤ d (r + k) := by
    intro k hk
    by_cases g : k = 0
    · rw [g]; exact Nat.le_refl _
    · have := e3 (r + k) (by omega) (by omega); omega
  refine ⟨if t < r then t else t - w, by split <;> omega, ?_, ?_⟩
  · by_cases g : t < r
    · rw [if_pos g, qt_cut_lo g]
    · rw [if_neg g, qt_cut_hi (by omega), show t - w + w = t by omega]
  · intro s hs b c hb hc
    have et : qt_cut i r w (if t < r then t else t - w) = i t := by
      by_cases g : t < r
      · rw [if_pos g, qt_cut_lo g]
      · rw [if_neg g, qt_cut_hi (by omega), show t - w + w = t by omega]
    have ht1 : (if t < r then t else t - w) < n - w := by split <;> omega
    generalize (if t < r then t else t - w) = t1 at hs hc et ht1 ⊢
    have ci : ∀ x, x < n - w → ∃ y, y < n ∧ qt_cut i r w x = i y ∧ (y < r ∨ r + w ≤ y) := by
      intro x hx
      by_cases g : x < r
      · exact ⟨x, by omega, qt_cut_lo g, by omega⟩
      · exact ⟨x + w, by omega, qt_cut_hi (by omega), by omega⟩
    have hir := hi r hr
    have c1 := qr_ins_B (w := w) (bi := fun k => i (r + k)) (bd := fun k => d (r + k) + (qt_cut d r w t1 + 1) - d r) (b := b) (c := c) (po' := upd po (i r) (nI (i t))) B1 ht1 hs
      ⟨by omega, by show d (r + 0) + (qt_cut d r w t1 + 1) - d r = _; rw [Nat.add_zero]; omega, fun k h1 h2 => by
        have a1 := e3 (r + k) (by omega) (by omega)
        have a2 := (D.2 (r + k) (by omega) (by omega)).2
        have a3 := hdr (k - 1) (by omega)
        rw [show r + k - 1 = r + (k - 1) by omega] at a2
        exact ⟨by show _ < d (r + k) + (qt_cut d r w t1 + 1) - d r; omega, by show d (r + k) + (qt_cut d r w t1 + 1) - d r ≤ d (r + (k - 1)) + (qt_cut d r w t1 + 1) - d r + 1; omega⟩⟩
      (by omega) (fun k hk => ⟨by rw [hb k hk]; exact (hi _ (by omega)).1, (hi _ (by omega)).2⟩)
      (fun k hk => by rw [hc k hk, (hd _ (show r + k < n by omega)).1]; exact qm_dl (hdr k hk))
      (fun k l hk hl e => by have := inj _ _ (show r + k < n by omega) (show r + l < n by omega) e; omega)
      (fun x k hx hk e => by
        obtain ⟨y, hy, ey, hyr⟩ := ci x hx
        rw [ey] at e
        have := inj _ _ hy (show r + k < n by omega) e
        omega)
      (by rw [pk_un]
          · exact po0
          · intro z
            have := inj 0 r (by omega) hr (by rw [hi0]; exact z)
            omega)
      (fun x hx0 hx => by
        obtain ⟨y, hy, ey, hyr⟩ := ci x hx
        rw [ey, pk_un]
        intro z
        have := inj _ _ hy hr z
        omega)
      (by show upd po (i r) (nI (i t)) (i (r + 0)) = _
          rw [Nat.add_zero, pk_us, et])
      (fun k hk0 hk => by
        have hk2 : r + k < n := by omega
        have pa := qt_pr_spec D (show 0 < r + k by omega) hk2
        have a1 := e3 (r + k) (by omega) (by omega)
        have ge : r ≤ qt_pr d (r + k) := by
          refine Nat.le_of_not_lt (fun g => ?_)
          have := pa.2.2 r g (by omega)
          omega
        obtain ⟨p1, p2, p3⟩ := pa
        refine ⟨qt_pr d (r + k) - r, ⟨by omega, ?_, fun x hx hy => ?_⟩, ?_⟩
        · show d (r + (qt_pr d (r + k) - r)) + (qt_cut d r w t1 + 1) - d r < d (r + k) + (qt_cut d r w t1 + 1) - d r
          rw [show r + (qt_pr d (r + k) - r) = qt_pr d (r + k) by omega]; omega
        · show d (r + k) + (qt_cut d r w t1 + 1) - d r ≤ d (r + x) + (qt_cut d r w t1 + 1) - d r
          have := p3 (r + x) (by omega) (by omega)
          omega
        · show upd po (i r) (nI (i t)) (i (r + k)) = nI (i (r + (qt_pr d (r + k) - r)))
          rw [show r + (qt_pr d (r + k) - r) = qt_pr d (r + k) by omega, pk_un, hpo _ (by omega) hk2]
          intro z
          have := inj _ _ hk2 hr z
          omega)
    rw [show n - w + w = n by omega] at c1
    exact c1
section
variable {xlim : Int32} {xn : Int32} {xpc : Int32} {xlv : Int32} {xop : Int32} {xql : Int32} {xrc : Int32} {xrt : Int64} {xod : (Nat → Int32)} {xpo : (Nat → Int32)} {xnm : (Nat → Int32)} {xvl : (Nat → Int32)} {xmv : (Nat → Int32)} {xrk : (Nat → Int32)} {xpt : (Nat → Int32)} {xsz : (Nat → Int32)} {xpd : (Nat → Int32)} {xpa : (Nat → Int32)} {xct : (Nat → Int32)} {xqu : (Nat → Int32)} {xco : (Nat → Int32)} {xse : (Nat → Int32)} {xpe : (Nat → Int32)} {xgv : (Nat → Int64)} {xan : (Nat → Int64)} {xal : (Nat → Int64)} {xng : (Nat → Int32)} {xrs : (Nat → Int32)} {ymo : Int32} {yn : Int32} {yw : Int32} {yle : Int32} {yfo : Int32} {yli : Int32} {yat : Int32} {ysu : Int64} {yid : (Nat → Int32)} {ydp : (Nat → Int32)} {ynm : (Nat → Int32)} {yvl : (Nat → Int32)} {yci : (Nat → Int32)} {ycd : (Nat → Int32)} {ypd : (Nat → Int32)} {yqu : (Nat → Int32)} {ygv : (Nat → Int64)} {yls : (Nat → Int32)} {yrs : (Nat → Int32)} {yor : (Nat → Int32)} {yan : (Nat → Int32)} {yno : (Nat → Int32)} {yow : (Nat → Int32)} {ypa : (Nat → Int32)}
theorem qm_go {k L n w len fd : Nat} {i d : Nat → Nat} {xlv xop : Int32} {sm : Int64} {id po nm vl mv rk pt sz pd xpa xct qx co se pe : Nat → Int32} {xgv xan xal : Nat → Int64} {xng rs : Nat → Int32} {yli yat : Int32} {dp yci ycd qy : Nat → Int32} {ygv : Nat → Int64} {yls yor yan yno yow ypa : Nat → Int32}
    (hL : 4 ≤ L ∧ L ≤ 40 ∧ n ≤ L) (hw : w ≤ 40) (hf : fd ≤ 40) (B : qr_B n i d id dp po) (N : qr_N n i d rk pt sz) (Q : qr_Q len qx qy co se pe) {r t : Nat} (hr0 : 0 < r) (hr : r < n) (ht : t < n) (out : ¬ (r ≤ t ∧ t < qt_en n d r)) (v3 z c : Int32) (h0 : ¬ v3 < 0) (h02 : (0 : Int32) ≤ v3) {post : Int32 → SX → Prop}
    (hpost : ∀ r' u', wY_move_70 (fun r'' v' => r'' = r' ∧ i_Rel (k + 5) u' v') (nI (i t)) v3 (nI r) z c (nI L) (nI n) (nI w) (nI len) (nI fd) yli yat sm id dp nm vl yci ycd pd qy ygv yls rs yor yan yno yow ypa → post r' u') :
    wX_move_51 post (nI (i r)) (nI (i t)) v3 z c (nI L) (nI n) (nI w) xlv xop (nI len) (nI fd) sm id po nm vl mv rk pt sz pd xpa xct qx co se pe xgv xan xal xng rs := by
  have hn := B.1.2
  have hd := B.2.2.2.2.2.1
  have hir := (B.2.1 r hr).2
  obtain ⟨e1, e2, e3, e4⟩ := qt_en_spec (n := n) (d := d) hr
  obtain ⟨wd, hwd⟩ : ∃ wd, r + wd = qt_en n d r := ⟨qt_en n d r - r, by omega⟩
  have I0 : i_Rel (k + 5) (nI L, nI n, nI w, xlv, xop, nI len, nI fd, sm, id, po, nm, vl, mv, rk, pt, sz, pd, xpa, xct, qx, co, se, pe, xgv, xan, xal, xng, rs) (nI L, nI n, nI w, nI len, nI fd, yli, yat, sm, id, dp, nm, vl, yci, ycd, pd, qy, ygv, yls, rs, yor, yan, yno, yow, ypa) := qr_mk hL hw hf B N Q
  intro x4 ex4
  refine br_f h0 ?_
  by_cases g : v3 ≤ x4
  · refine br_t g ?_
    obtain ⟨m, hm, rfl⟩ := nI_of h0
    obtain ⟨t1, t1n, et1, MV⟩ := qr_move B hr0 hr ht hwd out
    have B1 := qr_cut_B B hr0 hr hwd
    refine qx_to (w := wd) hn (by omega) hr hir (N.1 r hr) (by rw [N.2.2.2.2 r hr, show qt_en n d r - r = wd by omega]) ?_
    refine qx_ns B1 (fun rk1 pt1 sz1 N1 => ?_)
    rw [← et1]
    refine qx_sp B1 N1 t1n hm (fun s hs => ?_)
    have sp := qt_Spot_Sp t1n hs
    have he := (qt_en_spec (n := n - wd) (d := qt_cut d r wd) t1n).2.1
    have s1 := sp.1
    have s2 := sp.2.1
    refine qx_og (by omega) (by omega) (by omega) (by omega) ?_
    rw [show n - wd + wd = n by omega]
    refine qx_m96 (n := n) (by omega) rfl hir ?_
    rw [et1]
    have hb : ∀ (f : Nat → Int32) k, k < wd → qa_bl f id r wd k = id (r + k) := fun f k hk => by unfold qa_bl; rw [if_pos hk]
    have hc : ∀ (f : Nat → Int32) k, k < wd → qa_bl f dp r wd k = dp (r + k) := fun f k hk => by unfold qa_bl; rw [if_pos hk]
    have B2 := MV s sp (qa_bl yci id r wd) (fun k => qa_bl ycd dp r wd k + ((nI (qt_cut d r wd t1) + 1) - nI (d r))) (hb yci) (fun k hk => by rw [← hc ycd k hk])
    rw [qa_pu_c (b' := qa_bl yci id r wd) (fun k hk => by rw [hb _ k hk, hb _ k hk])]
    refine qx_ns B2 (fun rk2 pt2 sz2 N2 => ?_)
    refine hpost _ _ ?_
    have hd1 := B1.2.2.2.2.2.1
    refine nm_r (ex4.symm) (br_t g (qy_bh hn hr hd (nm_r (e' := nI wd) (by rw [pk_sub (by omega), show qt_en n d r - r = wd by omega]) ⟨vp_in_nI (by omega) (by omega), nm_r (e' := nI (d r)) (by rw [nI_clamp (by omega)]; exact (hd r hr).1) ?_⟩)))
    refine qy_cut hn (by omega) ?_
    rw [← et1]
    refine qr_hY B1 t1n (qy_cp (by omega) t1n hm hd1 (fun s' hs' => ⟨vp_in_nI (by omega) (by omega), ?_⟩))
    have := qt_Spot_uniq hs' hs
    subst this
    rw [nI_clamp (n := t1) (by omega), (hd1 t1 t1n).1]
    refine qy_paste (n := n - wd) (by omega) (by omega) (by omega) (by omega) ?_
    rw [show n - wd + wd = n by omega]
    rw [et1] at *
    exact ⟨rfl, qr_mk hL hw hf B2 N2 Q⟩
  · refine br_f g ?_
    refine hpost _ _ ?_
    exact nm_r (ex4.symm) (br_f g ⟨rfl, I0⟩)
end
theorem i_vc_move {k : Nat} {u : SX} {v : SY} (I : i_Rel k u v) (hk : k + 5 ≤ 2561) (v1 : Int32) (v2 : Int32) (v3 : Int32) : wpX_move (fun r u' => wpY_move (fun r' v' => r' = r ∧ i_Rel (k + 5) u' v') v v1 v2 v3) u v1 v2 v3 := by
  have I0 := I
  obtain ⟨L, n, w, len, fd, i, d, xlv, xop, sm, id, po, nm, vl, mv, rk, pt, sz, pd, xpa, xct, qx, co, se, pe, xgv, xan, xal, xng, rs, yli, yat, dp, yci, ycd, qy, ygv, yls, yor, yan, yno, yow, ypa, rfl, rfl, hL, hw, hf, B, N, Q⟩ := I
  have hn := B.1.2
  have hd := B.2.2.2.2.2.1
  unfold wpX_move wpY_move
  dsimp only
  rcases qr_node (n := n) i v1 with ⟨r, hr, rfl⟩ | hm
  · refine qr_hX B N hr (br_f (by decide) ?_)
    have hir := (B.2.1 r hr).2
    obtain ⟨e1, e2, e3, e4⟩ := qt_en_spec (n := n) (d := d) hr
    by_cases e : r = 0
    · refine br_t ((qr_root B hr).mpr e) (qr_hY B hr ?_)
      have h0 : nI r ≤ 0 := by rw [e]; decide
      rcases qr_node (n := n) i v2 with ⟨t, ht, rfl⟩ | hm
      · exact qr_hY B ht (br_t h0 ⟨rfl, I0⟩)
      · exact qr_mY B hm (br_t h0 ⟨rfl, I0⟩)
    · refine br_f (fun z => e ((qr_root B hr).mp z)) ?_
      have h0 : ¬ nI r ≤ 0 := nI_nle (by omega) (by omega)
      rcases qr_node (n := n) i v2 with ⟨t, ht, rfl⟩ | hm
      · refine qr_hX B N ht (br_f (by decide) ?_)
        refine qx_is B N hr ht (qa_br (fun ho => ?_) (fun ho => ?_))
        · have out := of_decide_eq_false ho
          have nab : qt_ab n d r t = false := decide_eq_false (by omega)
          have ntr : ¬ nI t = nI r := fun z => by have := (nI_eq (by omega) (by omega)).mp z; omega
          refine qx_cc B ht ⟨vp_in_nI hir (by omega), ?_⟩
          rw [nI_clamp (n := i r) (by omega)]
          by_cases h3 : v3 < 0
          · have h32 : ¬ (0 : Int32) ≤ v3 := Int32.not_le.mpr h3
            have c : ∀ post : Int32 → SX → Prop, ∀ z c, post (-1) (nI L, nI n, nI w, xlv, xop, nI len, nI fd, sm, id, po, nm, vl, mv, rk, pt, sz, pd, xpa, xct, qx, co, se, pe, xgv, xan, xal, xng, rs) → wX_move_51 post (nI (i r)) (nI (i t)) v3 z c (nI L) (nI n) (nI w) xlv xop (nI len) (nI fd) sm id po nm vl mv rk pt sz pd xpa xct qx co se pe xgv xan xal xng rs := fun post z c hp x ex => br_t h3 hp
            refine br_c (fun _ => c _ _ _ ?_) (fun _ => c _ _ _ ?_)
            · refine qr_hY B hr (qr_hY B ht (br_f h0 (br_f (nI_pos (by omega)) (br_f ntr (qy_ab hn hr ht hd ?_)))))
              rw [nab]; exact br_t (by decide) (br_f h32 ⟨rfl, I0⟩)
            · refine qr_hY B hr (qr_hY B ht (br_f h0 (br_f (nI_pos (by omega)) (br_f ntr (qy_ab hn hr ht hd ?_)))))
              rw [nab]; exact br_t (by decide) (br_f h32 ⟨rfl, I0⟩)
          · have h32 : (0 : Int32) ≤ v3 := Int32.not_lt.mp h3
            refine br_c (fun z => ?_) (fun z => ?_)
            · have z := (qr_ch B ht hr).mp z
              refine qm_go (k := k) (yli := yli) (yat := yat) (yci := yci) (ycd := ycd) (ygv := ygv) (yls := yls) (yor := yor) (yan := yan) (yno := yno) (yow := yow) (ypa := ypa) hL hw hf B N Q (by omega) hr ht out v3 1 (nI (qt_cn (qt_ch n d t) n)) h3 h32 (fun r' u' h => ?_)
              refine qr_hY B hr (qr_hY B ht (br_f h0 (br_f (nI_pos (by omega)) (br_f ntr (qy_ab hn hr ht hd ?_)))))
              rw [nab]
              refine br_t (by decide) (br_t h32 (qy_cc hn ht hd (qy_ch hn ht hr hd ?_)))
              rw [z]
              exact br_f (by decide) h
            · have z : qt_ch n d t r = false := by rw [← Bool.not_eq_true]; exact fun g => z ((qr_ch B ht hr).mpr g)
              refine qm_go (k := k) (yli := yli) (yat := yat) (yci := yci) (ycd := ycd) (ygv := ygv) (yls := yls) (yor := yor) (yan := yan) (yno := yno) (yow := yow) (ypa := ypa) hL hw hf B N Q (by omega) hr ht out v3 0 (nI (qt_cn (qt_ch n d t) n)) h3 h32 (fun r' u' h => ?_)
              refine qr_hY B hr (qr_hY B ht (br_f h0 (br_f (nI_pos (by omega)) (br_f ntr (qy_ab hn hr ht hd ?_)))))
              rw [nab]
              refine br_t (by decide) (br_t h32 (qy_cc hn ht hd (qy_ch hn ht hr hd ?_)))
              rw [z]
              exact br_t (by decide) h
        · have ins := of_decide_eq_true ho
          refine qr_hY B hr (qr_hY B ht (br_f h0 (br_f (nI_pos (by omega)) ?_)))
          refine pk_eq t r (fun g => ⟨rfl, I0⟩) (fun g => ?_)
          refine qy_ab hn hr ht hd ?_
          rw [show qt_ab n d r t = true from decide_eq_true (by omega)]
          exact br_f (by decide) ⟨rfl, I0⟩
      · exact qr_mX N hm (br_t (by decide) (qr_hY B hr (qr_mY B hm (br_f h0 (br_t (by decide) ⟨rfl, I0⟩)))))
  · refine qr_mX N hm (br_t (by decide) (qr_mY B hm ?_))
    rcases qr_node (n := n) i v2 with ⟨t, ht, rfl⟩ | hm
    · exact qr_hY B ht (br_t (by decide) ⟨rfl, I0⟩)
    · exact qr_mY B hm (br_t (by decide) ⟨rfl, I0⟩)
