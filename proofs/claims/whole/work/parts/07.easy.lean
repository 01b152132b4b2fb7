theorem i_vc0 (k0 : Int32) : wpX_init (fun u => wpY_init (fun v => i_Rel 1 u v) k0) k0 := by
  by_cases h4 : (4 : Int32) ≤ k0
  · by_cases h40 : k0 ≤ 40
    · have h0 : ¬ k0 < 0 := Int32.not_lt.mpr (Int32.le_trans (by decide) h4)
      obtain ⟨L, hL, rfl⟩ := nI_of h0
      have e4 : (4 : Int32) = nI 4 := by decide
      have e40 : (40 : Int32) = nI 40 := by decide
      have l1 : 4 ≤ L := by rw [e4, nI_leI (by omega) hL] at h4; exact h4
      have l2 : L ≤ 40 := by rw [e40, nI_leI hL (by omega)] at h40; exact h40
      refine br_t h40 (br_t h4 ?_)
      have c := qr_init l1 l2
      unfold wX_init_219 at c ⊢
      intro a ea
      have c := c a ea
      subst ea
      refine qx_ns (n := 1) qr_init_B (fun rk pt sz N => ?_)
      exact br_t h4 (br_t h40 (qr_mk (w := 0) (fd := 0) (len := 0) ⟨l1, l2, by omega⟩ (by omega) (by omega) qr_init_B N qr_init_Q))
    · refine br_f h40 (br_t (by decide) ?_)
      intro a ea
      subst ea
      refine qx_ns (n := 1) qr_init_B (fun rk pt sz N => ?_)
      exact br_t h4 (br_f h40 (qr_mk (L := 40) (w := 0) (fd := 0) (len := 0) ⟨by omega, by omega, by omega⟩ (by omega) (by omega) qr_init_B N qr_init_Q))
  · have h40 : k0 ≤ 40 := Int32.le_trans (Int32.le_of_lt (Int32.not_le.mp h4)) (by decide)
    refine br_t h40 (br_f h4 ?_)
    intro a ea
    subst ea
    refine qx_ns (n := 1) qr_init_B (fun rk pt sz N => ?_)
    exact br_f h4 (qr_mk (L := 4) (w := 0) (fd := 0) (len := 0) ⟨by omega, by omega, by omega⟩ (by omega) (by omega) qr_init_B N qr_init_Q)
theorem i_vc_parent {k : Nat} {u : SX} {v : SY} (I : i_Rel k u v) (hk : k + 5 ≤ 2561) (v1 : Int32) : wpX_parent (fun r => wpY_parent (fun r' => r' = r ∧ i_Rel (k + 5) u v) v v1) u v1 := by
  have I0 := I
  obtain ⟨L, n, w, len, fd, i, d, xlv, xop, sm, id, po, nm, vl, mv, rk, pt, sz, pd, xpa, xct, qx, co, se, pe, xgv, xan, xal, xng, rs, yli, yat, dp, yci, ycd, qy, ygv, yls, yor, yan, yno, yow, ypa, rfl, rfl, hL, hw, hf, B, N, Q⟩ := I
  have hn := B.1.2
  unfold wpX_parent wpY_parent
  dsimp only
  rcases qr_node (n := n) i v1 with ⟨r, hr, rfl⟩ | hm
  · refine qr_hX B N hr (br_f (by decide) ?_)
    by_cases e : r = 0
    · refine br_t ((qr_root B hr).mpr e) (qr_hY B hr (br_f ?_ ⟨rfl, I0⟩))
      rw [e]; decide
    · refine br_f (fun z => e ((qr_root B hr).mp z)) ⟨vp_in_nI (B.2.1 r hr).2 (by omega), qr_hY B hr (br_t (nI_lt (a := 0) (by omega) (by omega)) ?_)⟩
      have D := B.2.2.2.2.1
      have hp := qt_pr_lt D (by omega) hr
      refine qy_pp hn D (by omega) hr B.2.2.2.2.2.1 ⟨vp_in_nI (by omega) (by omega), ?_, I0⟩
      rw [nI_clamp (by omega), nI_clamp (by have := (B.2.1 r hr).2; omega), (B.2.1 _ (show qt_pr d r < n by omega)).1, B.2.2.2.2.2.2.2 r (by omega) hr]
  · exact qr_mX N hm (br_t (by decide) (qr_mY B hm (br_f (by decide) ⟨rfl, I0⟩)))
theorem i_vc_rank {k : Nat} {u : SX} {v : SY} (I : i_Rel k u v) (hk : k + 5 ≤ 2561) (v1 : Int32) : wpX_rank (fun r => wpY_rank (fun r' => r' = r ∧ i_Rel (k + 5) u v) v v1) u v1 := by
  have I0 := I
  obtain ⟨L, n, w, len, fd, i, d, xlv, xop, sm, id, po, nm, vl, mv, rk, pt, sz, pd, xpa, xct, qx, co, se, pe, xgv, xan, xal, xng, rs, yli, yat, dp, yci, ycd, qy, ygv, yls, yor, yan, yno, yow, ypa, rfl, rfl, hL, hw, hf, B, N, Q⟩ := I
  have hn := B.1.2
  unfold wpX_rank wpY_rank
  dsimp only
  rcases qr_node (n := n) i v1 with ⟨r, hr, rfl⟩ | hm
  · refine qr_hX B N hr (br_f (by decide) ⟨vp_in_nI (B.2.1 r hr).2 (by omega), qr_hY B hr ⟨?_, I0⟩⟩)
    rw [nI_clamp (by have := (B.2.1 r hr).2; omega), N.1 r hr]
  · exact qr_mX N hm (br_t (by decide) (qr_mY B hm ⟨rfl, I0⟩))
theorem i_vc_size {k : Nat} {u : SX} {v : SY} (I : i_Rel k u v) (hk : k + 5 ≤ 2561) (v1 : Int32) : wpX_size (fun r => wpY_size (fun r' => r' = r ∧ i_Rel (k + 5) u v) v v1) u v1 := by
  have I0 := I
  obtain ⟨L, n, w, len, fd, i, d, xlv, xop, sm, id, po, nm, vl, mv, rk, pt, sz, pd, xpa, xct, qx, co, se, pe, xgv, xan, xal, xng, rs, yli, yat, dp, yci, ycd, qy, ygv, yls, yor, yan, yno, yow, ypa, rfl, rfl, hL, hw, hf, B, N, Q⟩ := I
  have hn := B.1.2
  unfold wpX_size wpY_size
  dsimp only
  rcases qr_node (n := n) i v1 with ⟨r, hr, rfl⟩ | hm
  · have e1 : rk (nI (i r)).toNatClampNeg = nI r := by rw [nI_clamp (by have := (B.2.1 r hr).2; omega), N.1 r hr]
    have he := (qt_en_spec (n := n) (d := d) hr).1
    refine qr_hX B N hr (br_f (by decide) ⟨vp_in_nI (B.2.1 r hr).2 (by omega), by rw [e1]; exact vp_in_nI (by omega) (by omega), qr_hY B hr (br_t (nI_pos' (by omega)) (qy_bh hn hr B.2.2.2.2.2.1 ⟨?_, I0⟩))⟩)
    rw [e1, nI_clamp (by omega), N.2.2.2.2 r hr, pk_sub (by omega)]
  · exact qr_mX N hm (br_t (by decide) (qr_mY B hm (br_f (by decide) ⟨rfl, I0⟩)))
theorem i_vc_value {k : Nat} {u : SX} {v : SY} (I : i_Rel k u v) (hk : k + 5 ≤ 2561) (v1 : Int32) : wpX_value (fun r => wpY_value (fun r' => r' = r ∧ i_Rel (k + 5) u v) v v1) u v1 := by
  have I0 := I
  obtain ⟨L, n, w, len, fd, i, d, xlv, xop, sm, id, po, nm, vl, mv, rk, pt, sz, pd, xpa, xct, qx, co, se, pe, xgv, xan, xal, xng, rs, yli, yat, dp, yci, ycd, qy, ygv, yls, yor, yan, yno, yow, ypa, rfl, rfl, hL, hw, hf, B, N, Q⟩ := I
  have hn := B.1.2
  unfold wpX_value wpY_value
  dsimp only
  rcases qr_node (n := n) i v1 with ⟨r, hr, rfl⟩ | hm
  · have hi : vp_in (nI (i r)) 40 := vp_in_nI (B.2.1 r hr).2 (by omega)
    exact qr_hX B N hr (br_f (by decide) ⟨hi, qr_hY B hr (br_t (nI_pos' (by omega)) ⟨hi, rfl, I0⟩)⟩)
  · exact qr_mX N hm (br_t (by decide) (qr_mY B hm (br_f (by decide) ⟨rfl, I0⟩)))
theorem i_vc_child {k : Nat} {u : SX} {v : SY} (I : i_Rel k u v) (hk : k + 5 ≤ 2561) (v1 : Int32) (v2 : Int32) : wpX_child (fun r => wpY_child (fun r' => r' = r ∧ i_Rel (k + 5) u v) v v1 v2) u v1 v2 := by
  have I0 := I
  obtain ⟨L, n, w, len, fd, i, d, xlv, xop, sm, id, po, nm, vl, mv, rk, pt, sz, pd, xpa, xct, qx, co, se, pe, xgv, xan, xal, xng, rs, yli, yat, dp, yci, ycd, qy, ygv, yls, yor, yan, yno, yow, ypa, rfl, rfl, hL, hw, hf, B, N, Q⟩ := I
  have hn := B.1.2
  unfold wpX_child wpY_child
  dsimp only
  rcases qr_node (n := n) i v1 with ⟨r, hr, rfl⟩ | hm
  · refine qr_hX B N hr (br_f (by decide) ?_)
    by_cases h0 : v2 < 0
    · exact br_t h0 (qr_hY B hr (br_f (nI_pos (by omega)) (br_t h0 ⟨rfl, I0⟩)))
    · refine br_f h0 ?_
      obtain ⟨m, hm, rfl⟩ := nI_of h0
      have hc := qt_cn_le (qt_ch n d r) n
      refine qx_cc B hr ?_
      refine pk_lt m (qt_cn (qt_ch n d r) n) (fun g => ?_) (fun g => ?_)
      · refine qx_sp B N hr (by omega) (fun s hs => ?_)
        obtain ⟨x, x1, x2, x3⟩ := qt_cn_ex n g
        have es : s = x := qt_Spot_uniq hs (Or.inl ⟨x1, x2, x3⟩)
        refine ⟨vp_in_nI (by omega) (by omega), qr_hY B hr (br_f (nI_pos (by omega)) (br_f h0 (qy_cc hn hr B.2.2.2.2.2.1 (br_t (nI_lt g (by omega)) (qy_cp hn hr hm B.2.2.2.2.2.1 (fun s' hs' => ?_))))))⟩
        have es' := qt_Spot_uniq hs' hs
        subst es'
        exact ⟨vp_in_nI (by omega) (by omega), rfl, I0⟩
      · exact qr_hY B hr (br_f (nI_pos (by omega)) (br_f h0 (qy_cc hn hr B.2.2.2.2.2.1 (br_f (nI_nlt g (by omega)) ⟨rfl, I0⟩))))
  · exact qr_mX N hm (br_t (by decide) (qr_mY B hm (br_t (by decide) ⟨rfl, I0⟩)))
theorem i_vc_alter {k : Nat} {u : SX} {v : SY} (I : i_Rel k u v) (hk : k + 5 ≤ 2561) (v1 : Int32) (v2 : Int32) (v3 : Int32) : wpX_alter (fun r u' => wpY_alter (fun r' v' => r' = r ∧ i_Rel (k + 5) u' v') v v1 v2 v3) u v1 v2 v3 := by
  have I0 := I
  obtain ⟨L, n, w, len, fd, i, d, xlv, xop, sm, id, po, nm, vl, mv, rk, pt, sz, pd, xpa, xct, qx, co, se, pe, xgv, xan, xal, xng, rs, yli, yat, dp, yci, ycd, qy, ygv, yls, yor, yan, yno, yow, ypa, rfl, rfl, hL, hw, hf, B, N, Q⟩ := I
  have hn := B.1.2
  unfold wpX_alter wpY_alter
  dsimp only
  rcases qr_node (n := n) i v1 with ⟨r, hr, rfl⟩ | hm
  · have hi : vp_in (nI (i r)) 40 := vp_in_nI (B.2.1 r hr).2 (by omega)
    refine qr_hX B N hr (br_f (by decide) ?_)
    refine qx_nm (fun ⟨m, hm, em⟩ => ?_) (fun hm => ?_)
    · subst em
      refine br_f (by decide) ⟨hi, fun x ex => ⟨hi, fun a ea => ⟨hi, fun b eb => ?_⟩⟩⟩
      refine qr_hY B hr (br_f (nI_pos (by omega)) (br_f (nI_pos (by omega)) (br_t (nI_le (b := 7) (by omega) (by omega)) ⟨hi, fun x' ex' => ⟨hi, fun a' ea' => ⟨hi, fun b' eb' => ?_⟩⟩⟩)))
      subst ea; subst eb; subst ea'; subst eb'; subst ex; subst ex'
      exact ⟨rfl, qr_mk hL hw hf B N Q⟩
    · refine br_t (by decide) (qr_hY B hr (br_f (nI_pos (by omega)) ?_))
      refine br_c (fun g => ⟨rfl, I0⟩) (fun g => br_f (fun g2 => hm ?_) ⟨rfl, I0⟩)
      obtain ⟨m, h1, h2⟩ := nI_of2 (n := 7) (by decide) g g2
      exact ⟨m, by omega, h2⟩
  · exact qr_mX N hm (br_t (by decide) (qr_mY B hm (br_t (by decide) ⟨rfl, I0⟩)))
theorem i_vc_picked {k : Nat} {u : SX} {v : SY} (I : i_Rel k u v) (hk : k + 5 ≤ 2561) (v1 : Int32) : wpX_picked (fun r => wpY_picked (fun r' => r' = r ∧ i_Rel (k + 5) u v) v v1) u v1 := by
  have I0 := I
  obtain ⟨L, n, w, len, fd, i, d, xlv, xop, sm, id, po, nm, vl, mv, rk, pt, sz, pd, xpa, xct, qx, co, se, pe, xgv, xan, xal, xng, rs, yli, yat, dp, yci, ycd, qy, ygv, yls, yor, yan, yno, yow, ypa, rfl, rfl, hL, hw, hf, B, N, Q⟩ := I
  by_cases h0 : v1 < 0
  · exact br_t h0 (br_t h0 ⟨rfl, I0⟩)
  · obtain ⟨m, hm, rfl⟩ := nI_of h0
    refine br_f h0 (pk_le fd m (fun g => ?_) (fun g => ?_))
    · exact br_f h0 (br_f (nI_nlt g (by omega)) ⟨rfl, I0⟩)
    · have hi : vp_in (nI m) 40 := vp_in_nI (by omega) (by omega)
      exact ⟨hi, br_f h0 (br_t (nI_lt g (by omega)) ⟨hi, rfl, I0⟩)⟩
theorem i_vc_total {k : Nat} {u : SX} {v : SY} (I : i_Rel k u v) (hk : k + 5 ≤ 2561) : wpX_total (fun r => wpY_total (fun r' => r' = r ∧ i_Rel (k + 5) u v) v) u := by
  have I0 := I
  obtain ⟨L, n, w, len, fd, i, d, xlv, xop, sm, id, po, nm, vl, mv, rk, pt, sz, pd, xpa, xct, qx, co, se, pe, xgv, xan, xal, xng, rs, yli, yat, dp, yci, ycd, qy, ygv, yls, yor, yan, yno, yow, ypa, rfl, rfl, hL, hw, hf, B, N, Q⟩ := I
  exact ⟨rfl, I0⟩
/-! put -/
def qp_1 (x : Int32) : Nat := if x = 0 then 0 else 1
def qp_a (pd : Nat → Int32) (w : Nat) (x : Int32) : Nat → Int32 := if x = 0 then pd else upd pd w x
section
variable {xlim : Int32} {xn : Int32} {xpc : Int32} {xlv : Int32} {xop : Int32} {xql : Int32} {xrc : Int32} {xrt : Int64} {xod : (Nat → Int32)} {xpo : (Nat → Int32)} {xnm : (Nat → Int32)} {xvl : (Nat → Int32)} {xmv : (Nat → Int32)} {xrk : (Nat → Int32)} {xpt : (Nat → Int32)} {xsz : (Nat → Int32)} {xpd : (Nat → Int32)} {xpa : (Nat → Int32)} {xct : (Nat → Int32)} {xqu : (Nat → Int32)} {xco : (Nat → Int32)} {xse : (Nat → Int32)} {xpe : (Nat → Int32)} {xgv : (Nat → Int64)} {xan : (Nat → Int64)} {xal : (Nat → Int64)} {xng : (Nat → Int32)} {xrs : (Nat → Int32)} {ymo : Int32} {yn : Int32} {yw : Int32} {yle : Int32} {yfo : Int32} {yli : Int32} {yat : Int32} {ysu : Int64} {yid : (Nat → Int32)} {ydp : (Nat → Int32)} {ynm : (Nat → Int32)} {yvl : (Nat → Int32)} {yci : (Nat → Int32)} {ycd : (Nat → Int32)} {ypd : (Nat → Int32)} {yqu : (Nat → Int32)} {ygv : (Nat → Int64)} {yls : (Nat → Int32)} {yrs : (Nat → Int32)} {yor : (Nat → Int32)} {yan : (Nat → Int32)} {yno : (Nat → Int32)} {yow : (Nat → Int32)} {ypa : (Nat → Int32)}
theorem qp_X {w : Nat} {x : Int32} {post : SX → Prop} (hw : w + qp_1 x ≤ 40) (h : post (xlim, xn, nI (w + qp_1 x), xlv, xop, xql, xrc, xrt, xod, xpo, xnm, xvl, xmv, xrk, xpt, xsz, qp_a xpd w x, xpa, xct, xqu, xco, xse, xpe, xgv, xan, xal, xng, xrs)) : wpX_addPending post (xlim, xn, nI w, xlv, xop, xql, xrc, xrt, xod, xpo, xnm, xvl, xmv, xrk, xpt, xsz, xpd, xpa, xct, xqu, xco, xse, xpe, xgv, xan, xal, xng, xrs) x := by
  unfold qp_1 at hw h
  unfold qp_a at h
  by_cases e : x = 0
  · rw [if_pos e, if_pos e] at h; exact br_t e h
  · rw [if_neg e] at hw
    rw [if_neg e, if_neg e] at h
    refine br_f e ⟨vp_in_nI (by omega) (by omega), fun a ea => nm_r (nI_1 w) ?_⟩
    rw [nI_clamp (by omega)] at ea
    subst ea; exact h
theorem qp_Y {w : Nat} {x : Int32} {post : SY → Prop} (hw : w + qp_1 x ≤ 40) (h : post (ymo, yn, nI (w + qp_1 x), yle, yfo, yli, yat, ysu, yid, ydp, ynm, yvl, yci, ycd, qp_a ypd w x, yqu, ygv, yls, yrs, yor, yan, yno, yow, ypa)) : wpY_add post (ymo, yn, nI w, yle, yfo, yli, yat, ysu, yid, ydp, ynm, yvl, yci, ycd, ypd, yqu, ygv, yls, yrs, yor, yan, yno, yow, ypa) x := by
  unfold qp_1 at hw h
  unfold qp_a at h
  by_cases e : x = 0
  · rw [if_pos e, if_pos e] at h; exact br_t e h
  · rw [if_neg e] at hw
    rw [if_neg e, if_neg e] at h
    refine br_f e (nm_r (nI_1 w) ⟨vp_in_nI (by omega) (by omega), fun a ea => ?_⟩)
    rw [nI_clamp (by omega)] at ea
    subst ea; exact h
theorem qp_X3 {w : Nat} {a b c : Int32} {post : Int32 → SX → Prop} (h : w + (qp_1 a + qp_1 b + qp_1 c) ≤ 40 → post (nI (w + qp_1 a + qp_1 b + qp_1 c)) (xlim, xn, nI (w + qp_1 a + qp_1 b + qp_1 c), xlv, xop, xql, xrc, xrt, xod, xpo, xnm, xvl, xmv, xrk, xpt, xsz, qp_a (qp_a (qp_a xpd w a) (w + qp_1 a) b) (w + qp_1 a + qp_1 b) c, xpa, xct, xqu, xco, xse, xpe, xgv, xan, xal, xng, xrs)) (hw : w ≤ 40) (h' : ¬ w + (qp_1 a + qp_1 b + qp_1 c) ≤ 40 → post (-2) (xlim, xn, nI w, xlv, xop, xql, xrc, xrt, xod, xpo, xnm, xvl, xmv, xrk, xpt, xsz, xpd, xpa, xct, xqu, xco, xse, xpe, xgv, xan, xal, xng, xrs)) : wX_put_28 post a b c (nI (qp_1 c)) (nI (qp_1 a) + nI (qp_1 b)) xlim xn (nI w) xlv xop xql xrc xrt xod xpo xnm xvl xmv xrk xpt xsz xpd xpa xct xqu xco xse xpe xgv xan xal xng xrs := by
  have u1 : qp_1 a ≤ 1 := by unfold qp_1; split <;> omega
  have u2 : qp_1 b ≤ 1 := by unfold qp_1; split <;> omega
  have u3 : qp_1 c ≤ 1 := by unfold qp_1; split <;> omega
  refine nm_r (e' := nI (qp_1 a + qp_1 b + qp_1 c)) (by rw [nI_add, nI_add]) ?_
  refine pk_le (w + (qp_1 a + qp_1 b + qp_1 c)) 40 (fun g => ?_) (fun g => h' (by omega)) (nI_add _ _) rfl
  refine qp_X (by omega) (qp_X (by omega) (qp_X (by omega) (h g)))
theorem qp_Y3 {w : Nat} {a b c : Int32} {post : Int32 → SY → Prop} (h : w + (qp_1 a + qp_1 b + qp_1 c) ≤ 40 → post (nI (w + qp_1 a + qp_1 b + qp_1 c)) (ymo, yn, nI (w + qp_1 a + qp_1 b + qp_1 c), yle, yfo, yli, yat, ysu, yid, ydp, ynm, yvl, yci, ycd, qp_a (qp_a (qp_a ypd w a) (w + qp_1 a) b) (w + qp_1 a + qp_1 b) c, yqu, ygv, yls, yrs, yor, yan, yno, yow, ypa)) (hw : w ≤ 40) (h' : ¬ w + (qp_1 a + qp_1 b + qp_1 c) ≤ 40 → post (-2) (ymo, yn, nI w, yle, yfo, yli, yat, ysu, yid, ydp, ynm, yvl, yci, ycd, ypd, yqu, ygv, yls, yrs, yor, yan, yno, yow, ypa)) : wY_put_28 post a b c (nI (qp_1 c)) (nI (qp_1 a) + nI (qp_1 b)) ymo yn (nI w) yle yfo yli yat ysu yid ydp ynm yvl yci ycd ypd yqu ygv yls yrs yor yan yno yow ypa := by
  have u1 : qp_1 a ≤ 1 := by unfold qp_1; split <;> omega
  have u2 : qp_1 b ≤ 1 := by unfold qp_1; split <;> omega
  have u3 : qp_1 c ≤ 1 := by unfold qp_1; split <;> omega
  refine nm_r (e' := nI (qp_1 a + qp_1 b + qp_1 c)) (by rw [nI_add, nI_add]) ?_
  refine pk_le (w + (qp_1 a + qp_1 b + qp_1 c)) 40 (fun g => ?_) (fun g => h' (by omega)) (nI_add _ _) rfl
  refine qp_Y (by omega) (qp_Y (by omega) (qp_Y (by omega) (h g)))
theorem qp_b {x : Int32} {A : Int32 → Prop} (h : A (nI (qp_1 x))) : (x = 0 → A 0) ∧ (¬ x = 0 → A 1) := by
  unfold qp_1 at h
  by_cases e : x = 0
  · rw [if_pos e] at h; exact br_t e h
  · rw [if_neg e] at h; exact br_f e h
end
theorem i_vc_put {k : Nat} {u : SX} {v : SY} (I : i_Rel k u v) (hk : k + 5 ≤ 2561) (v1 : Int32) (v2 : Int32) (v3 : Int32) : wpX_put (fun r u' => wpY_put (fun r' v' => r' = r ∧ i_Rel (k + 5) u' v') v v1 v2 v3) u v1 v2 v3 := by
  have I0 := I
  obtain ⟨L, n, w, len, fd, i, d, xlv, xop, sm, id, po, nm, vl, mv, rk, pt, sz, pd, xpa, xct, qx, co, se, pe, xgv, xan, xal, xng, rs, yli, yat, dp, yci, ycd, qy, ygv, yls, yor, yan, yno, yow, ypa, rfl, rfl, hL, hw, hf, B, N, Q⟩ := I
  refine qp_b (A := fun z => wX_put_9 _ v1 v2 v3 z _ _ _ _ _ _ _ _ _ _ _ _ _ _ _ _ _ _ _ _ _ _ _ _ _ _ _ _) ?_
  refine qp_b (A := fun z => wX_put_18 _ v1 v2 v3 z _ _ _ _ _ _ _ _ _ _ _ _ _ _ _ _ _ _ _ _ _ _ _ _ _ _ _ _ _) ?_
  refine qp_b (A := fun z => wX_put_28 _ v1 v2 v3 z _ _ _ _ _ _ _ _ _ _ _ _ _ _ _ _ _ _ _ _ _ _ _ _ _ _ _ _ _) ?_
  refine qp_X3 (fun g => ?_) hw (fun g => ?_)
  · refine qp_b (A := fun z => wY_put_9 _ v1 v2 v3 z _ _ _ _ _ _ _ _ _ _ _ _ _ _ _ _ _ _ _ _ _ _ _ _) ?_
    refine qp_b (A := fun z => wY_put_18 _ v1 v2 v3 z _ _ _ _ _ _ _ _ _ _ _ _ _ _ _ _ _ _ _ _ _ _ _ _ _) ?_
    refine qp_b (A := fun z => wY_put_28 _ v1 v2 v3 z _ _ _ _ _ _ _ _ _ _ _ _ _ _ _ _ _ _ _ _ _ _ _ _ _) ?_
    exact qp_Y3 (fun g => ⟨rfl, qr_mk hL (by omega) hf B N Q⟩) hw (fun g' => absurd g g')
  · refine qp_b (A := fun z => wY_put_9 _ v1 v2 v3 z _ _ _ _ _ _ _ _ _ _ _ _ _ _ _ _ _ _ _ _ _ _ _ _) ?_
    refine qp_b (A := fun z => wY_put_18 _ v1 v2 v3 z _ _ _ _ _ _ _ _ _ _ _ _ _ _ _ _ _ _ _ _ _ _ _ _ _) ?_
    refine qp_b (A := fun z => wY_put_28 _ v1 v2 v3 z _ _ _ _ _ _ _ _ _ _ _ _ _ _ _ _ _ _ _ _ _ _ _ _ _) ?_
    exact qp_Y3 (fun g' => absurd g' g) hw (fun g => ⟨rfl, I0⟩)
