/-! X: select -/
def qs_H (n : Nat) (i d : Nat → Nat) (od dp po rk pt sz : Nat → Int32) (len : Nat) (q co se pe : Nat → Int32) : Prop :=
  qr_B n i d od dp po ∧ qr_N n i d rk pt sz ∧ len ≤ 40 ∧ qe_G q len ∧ (∀ x, len ≤ x → x < 41 → q x = 0) ∧ (∀ t, t < len → q t = 1 → co t = nI (qe_cl q len t)) ∧ (∀ t, t < len → qc_ax (q t) = true → se t = nI (qe_se q len t) ∧ pe t = nI (qe_pe q len t))
def qs_RX (list : Int64) (lv : Nat) (an al : Nat → Int64) (ng : Nat → Int32) (O A : Nat → Nat → Bool) (Ng : Nat → Bool) : Prop := ∀ j, j ≤ lv → ng j = qa_b (Ng j) ∧ ∀ x, qb (an j) x = (qb list x && O x j) ∧ qb (al j) x = (qb list x && A x j)
theorem qs_bool1 (l a o g : Bool) : ((l && a) && (if g = true then l && !(l && o) else (l && o))) = (l && (a && (o != g))) := by cases l <;> cases a <;> cases o <;> cases g <;> rfl
section
variable {xlim : Int32} {xn : Int32} {xpc : Int32} {xlv : Int32} {xop : Int32} {xql : Int32} {xrc : Int32} {xrt : Int64} {xod : (Nat → Int32)} {xpo : (Nat → Int32)} {xnm : (Nat → Int32)} {xvl : (Nat → Int32)} {xmv : (Nat → Int32)} {xrk : (Nat → Int32)} {xpt : (Nat → Int32)} {xsz : (Nat → Int32)} {xpd : (Nat → Int32)} {xpa : (Nat → Int32)} {xct : (Nat → Int32)} {xqu : (Nat → Int32)} {xco : (Nat → Int32)} {xse : (Nat → Int32)} {xpe : (Nat → Int32)} {xgv : (Nat → Int64)} {xan : (Nat → Int64)} {xal : (Nat → Int64)} {xng : (Nat → Int32)} {xrs : (Nat → Int32)}
variable {n len : Nat} {i d : Nat → Nat} {dp : Nat → Int32}
theorem qs_xcm {t : Nat} {v : Int32} {post : Int32 → Prop} (ht : t + 1 < 41) (h : post (qa_b (qs_cmp xqu t v))) : wpX_compares post (xlim, xn, xpc, xlv, xop, xql, xrc, xrt, xod, xpo, xnm, xvl, xmv, xrk, xpt, xsz, xpd, xpa, xct, xqu, xco, xse, xpe, xgv, xan, xal, xng, xrs) v (nI t) := by
  refine And.intro (by rw [nI_1]; exact vp_in_nI ht (by omega)) (nm_r (e' := xqu (t + 1) - 2000) (by rw [nI_1, nI_clamp (by omega)]) ⟨vp_in_nI (by omega) (by omega), nm_r (e' := xqu t) (by rw [nI_clamp (by omega)]) ?_⟩)
  unfold qs_cmp at h
  by_cases g : xqu t = 12
  · rw [if_pos g] at h
    refine br_t g (qs_pif' ?_ h)
    exact ⟨fun z => decide_eq_false (fun y => y z), fun z => Classical.byContradiction (fun y => absurd y (of_decide_eq_false z))⟩
  · rw [if_neg g] at h
    refine br_f g ?_
    by_cases g2 : xqu t = 13
    · rw [if_pos g2] at h
      refine br_t g2 (qs_pif ?_ h)
      exact ⟨fun z => decide_eq_true z, fun z => of_decide_eq_true z⟩
    · rw [if_neg g2] at h
      refine br_f g2 (qs_pif' ?_ h)
      exact ⟨fun z => decide_eq_false (fun y => y z), fun z => Classical.byContradiction (fun y => absurd y (of_decide_eq_false z))⟩
theorem qs_tok {x : Int32} (h : qc_ax x = true) : ¬ x < 8 ∧ 11 < x ∧ x ≠ 8 ∧ x ≠ 9 ∧ x ≠ 10 ∧ x ≠ 11 := by
  have a := (of_decide_eq_true h).1
  have b : (20 : Int32) ≤ x := Int32.not_lt.mp a
  refine ⟨fun z => a (Int32.lt_trans z (by decide)), Int32.lt_of_lt_of_le (by decide) b, ?_, ?_, ?_, ?_⟩ <;> (rintro rfl; exact absurd h (by decide))
theorem qs_ix {k x : Nat} : nI k * 40 + nI x = nI (k * 40 + x) := by
  rw [show (40 : Int32) = nI 40 from rfl, pk_mul, nI_add]
theorem qs_xah {o k x p m : Nat} {post : Int32 → Prop} (H : qs_H n i d xod dp xpo xrk xpt xsz len xqu xco xse xpe) (T : qw_AT xqu len o k) (hx : x < n) (hp : p < 2 ^ 31) (hm : m < 2 ^ 31)
    (h : post (qa_b (qs_AV xqu len i xvl xgv k x p m))) : wpX_atomHolds post (xlim, nI n, xpc, xlv, xop, nI len, xrc, xrt, xod, xpo, xnm, xvl, xmv, xrk, xpt, xsz, xpd, xpa, xct, xqu, xco, xse, xpe, xgv, xan, xal, xng, xrs) (nI k) (nI x) (nI p) (nI m) := by
  obtain ⟨B, N, hl, G, hq, hco, hse⟩ := H
  obtain ⟨t1, t2, t3, t4, t5⟩ := T
  have hn := B.1.2
  refine And.intro (vp_in_nI (by omega) (by omega)) (nm_r (e' := xqu k) (by rw [nI_clamp (by omega)]) ?_)
  unfold qs_AV at h
  rcases t4 with ⟨z | z, zl⟩ | z | ⟨z, z1, z2, z3, z4, z5⟩ | z
  · rw [if_pos z] at h
    refine br_f (by rw [z]; decide) (br_f (by rw [z]; decide) (br_t z ?_))
    rw [nI_1]
    exact qs_xcm (by omega) ⟨qa_bn _, h⟩
  · rw [if_neg (by rw [z]; decide), if_neg (by rw [z]; decide), if_pos z] at h
    have hix := B.2.1 x hx
    refine br_f (by rw [z]; decide) (br_f (by rw [z]; decide) (br_f (by rw [z]; decide) (br_f (by rw [z]; decide) (br_t z ⟨vp_in_nI (by omega) (by omega), ?_⟩))))
    rw [nI_clamp (n := x) (by omega), hix.1]
    refine ⟨vp_in_nI hix.2 (by omega), ?_⟩
    rw [nI_1, nI_clamp (n := i x) (by omega)]
    exact qs_xcm (by omega) ⟨qa_bn _, h⟩
  · rw [if_neg (by rw [z]; decide), if_pos z] at h
    refine br_f (by rw [z]; decide) (br_f (by rw [z]; decide) (br_f (by rw [z]; decide) (br_t z (qs_pif ?_ h))))
    rw [nI_eq hp hm]
    exact ⟨fun y => decide_eq_true y, fun y => of_decide_eq_true y⟩
  · rw [if_neg (by rw [z]; decide), if_neg (by rw [z]; decide), if_neg (by rw [z]; decide), if_pos z] at h
    refine br_f (by rw [z]; decide) (br_f (by rw [z]; decide) (br_f (by rw [z]; decide) (br_f (by rw [z]; decide) (br_f (by rw [z]; decide) (br_t z ?_)))))
    have e : (nI k + 1) * 40 + nI x = nI ((k + 1) * 40 + x) := by rw [nI_1]; exact qs_ix
    rw [e]
    refine ⟨vp_in_nI (by omega) (by omega), ?_⟩
    rw [nI_clamp (by omega)]
    refine qs_xbc ⟨by rw [nI_1]; exact vp_in_nI (by omega) (by omega), ?_⟩
    rw [nI_1, nI_clamp (n := k + 1) (by omega), (hse (k + 1) z1 z2).2]
    exact qs_xcm (by omega) ⟨qa_bn _, h⟩
  · obtain ⟨y1, y2, y3, y4, y5, y6⟩ := qs_tok z
    rw [if_neg y3, if_neg y4, if_neg y5, if_neg y6] at h
    refine br_f y1 (br_t y2 ?_)
    rw [qs_ix]
    refine ⟨vp_in_nI (by omega) (by omega), ?_⟩
    rw [nI_clamp (by omega)]
    refine qs_pif' ?_ h
    exact ⟨fun y => decide_eq_false (fun w => w y), fun y => Classical.byContradiction (fun w => absurd w (of_decide_eq_false y))⟩
theorem qs_xae {o k : Nat} {post : Int32 → Prop} (H : qs_H n i d xod dp xpo xrk xpt xsz len xqu xco xse xpe) (T : qw_AT xqu len o k) (h : post (nI (qs_AE xqu len k))) : wpX_atomEnd post (xlim, nI n, xpc, xlv, xop, nI len, xrc, xrt, xod, xpo, xnm, xvl, xmv, xrk, xpt, xsz, xpd, xpa, xct, xqu, xco, xse, xpe, xgv, xan, xal, xng, xrs) (nI k) := by
  obtain ⟨B, N, hl, G, hq, hco, hse⟩ := H
  obtain ⟨t1, t2, t3, t4, t5⟩ := T
  refine And.intro (vp_in_nI (by omega) (by omega)) (nm_r (e' := xqu k) (by rw [nI_clamp (by omega)]) ?_)
  unfold qs_AE at h
  rcases t4 with ⟨z | z, zl⟩ | z | ⟨z, z1, z2, z3, z4, z5⟩ | z
  · rw [if_pos z] at h
    refine br_f (by rw [z]; decide) (br_f (by rw [z]; decide) (br_t z ?_))
    rw [show nI k + 3 = nI (k + 3) from nI_add k 3]; exact h
  · rw [if_neg (by rw [z]; decide), if_neg (by rw [z]; decide), if_pos z] at h
    refine br_f (by rw [z]; decide) (br_f (by rw [z]; decide) (br_f (by rw [z]; decide) (br_f (by rw [z]; decide) (br_t z ?_))))
    rw [show nI k + 3 = nI (k + 3) from nI_add k 3]; exact h
  · rw [if_neg (by rw [z]; decide), if_pos z] at h
    refine br_f (by rw [z]; decide) (br_f (by rw [z]; decide) (br_f (by rw [z]; decide) (br_t z ?_)))
    rw [nI_1]; exact h
  · rw [if_neg (by rw [z]; decide), if_neg (by rw [z]; decide), if_neg (by rw [z]; decide), if_pos z] at h
    refine br_f (by rw [z]; decide) (br_f (by rw [z]; decide) (br_f (by rw [z]; decide) (br_f (by rw [z]; decide) (br_f (by rw [z]; decide) (br_t z ⟨by rw [nI_1]; exact vp_in_nI (by omega) (by omega), ?_⟩)))))
    rw [nI_1, nI_clamp (n := k + 1) (by omega), (hse (k + 1) z1 z2).2, show nI (qe_pe xqu len (k + 1)) + 2 = nI (qe_pe xqu len (k + 1) + 2) from nI_add _ 2]
    exact h
  · obtain ⟨y1, y2, y3, y4, y5, y6⟩ := qs_tok z
    rw [if_neg y3, if_neg y4, if_neg y5, if_neg y6] at h
    refine br_f y1 (br_t y2 ⟨vp_in_nI (by omega) (by omega), ?_⟩)
    rw [nI_clamp (n := k) (by omega), (hse k t1 z).2]; exact h
theorem qs_xan {o k : Nat} {list : Int64} {rv : Bool} {post : Int64 → Prop} (H : qs_H n i d xod dp xpo xrk xpt xsz len xqu xco xse xpe) (T : qw_AT xqu len o k) (hls : ∀ y, qb list y = true → y < n)
    (h : ∀ w, (∀ y, qb w y = (qb list y && qs_AV xqu len i xvl xgv k y (qs_pos n rv (qb list) y) (qt_cn (qb list) n))) → post w) : wpX_atomNodes post (xlim, nI n, xpc, xlv, xop, nI len, xrc, xrt, xod, xpo, xnm, xvl, xmv, xrk, xpt, xsz, xpd, xpa, xct, xqu, xco, xse, xpe, xgv, xan, xal, xng, xrs) (nI k) list (qa_b rv) := by
  have hn := H.1.1.2
  refine qs_xbc ?_
  have ec : qt_cn (qb list) 40 = qt_cn (qb list) n := by
    refine qt_cn_hi n 40 hn (fun y h1 h2 => ?_)
    rw [← Bool.not_eq_true]
    exact fun z => by have := hls y z; omega
  rw [ec]
  have hm := qt_cn_le (qb list) n
  have key : ∀ f j w, j + f = n → (∀ y, qb w y = (decide (y < n ∧ qs_rho n rv y < j) && (qb list y && qs_AV xqu len i xvl xgv k y (qs_pos n rv (qb list) y) (qt_cn (qb list) n)))) →
      wX_atomNodes_16 post (nI k) list (qa_b rv) (nI (qt_cn (qb list) n)) xlim (nI n) xpc xlv xop (nI len) xrc xrt xod xpo xnm xvl xmv xrk xpt xsz xpd xpa xct xqu xco xse xpe xgv xan xal xng xrs (f + 1) (nI (qt_cn (fun k => qb list (qs_rho n rv k)) j)) w (nI j) := by
    intro f
    induction f with
    | zero =>
      intro j w e hw
      refine br_t (nI_le (by omega) (by omega)) (h w (fun y => ?_))
      rw [hw y]
      by_cases g : y < n
      · rw [decide_eq_true ⟨g, by have := qs_rho_lt (rv := rv) g; omega⟩, Bool.true_and]
      · have : qb list y = false := by rw [← Bool.not_eq_true]; exact fun z => g (hls y z)
        rw [this, Bool.false_and, Bool.and_false]
    | succ f ih =>
      intro j w e hw
      have hr := qs_rho_lt (n := n) (rv := rv) (k := j) (by omega)
      have hr2 := qs_rho_2 (n := n) (rv := rv) (k := j) (by omega)
      have hcl := qt_cn_le (fun k => qb list (qs_rho n rv k)) (j + 1)
      have hcs : qt_cn (fun k => qb list (qs_rho n rv k)) (j + 1) = qt_cn (fun k => qb list (qs_rho n rv k)) j + if qb list (qs_rho n rv j) then 1 else 0 := rfl
      have main : wX_atomNodes_44 post (wX_atomNodes_16 post (nI k) list (qa_b rv) (nI (qt_cn (qb list) n)) xlim (nI n) xpc xlv xop (nI len) xrc xrt xod xpo xnm xvl xmv xrk xpt xsz xpd xpa xct xqu xco xse xpe xgv xan xal xng xrs (f + 1)) (nI k) list (qa_b rv) (nI (qt_cn (qb list) n)) (nI (qt_cn (fun k => qb list (qs_rho n rv k)) j)) w (nI j) (nI (qs_rho n rv j)) xlim (nI n) xpc xlv xop (nI len) xrc xrt xod xpo xnm xvl xmv xrk xpt xsz xpd xpa xct xqu xco xse xpe xgv xan xal xng xrs := by
        have step : ∀ y, y ≠ qs_rho n rv j → decide (y < n ∧ qs_rho n rv y < j) = decide (y < n ∧ qs_rho n rv y < j + 1) := by
          intro y hy
          rw [decide_eq_decide]
          constructor
          · intro z; omega
          · intro z
            refine ⟨z.1, ?_⟩
            have : qs_rho n rv y ≠ j := fun e => hy (by rw [← e, qs_rho_2 z.1])
            omega
        refine qs_xhas (by omega) (qa_br (fun z => ?_) (fun z => ?_))
        · refine nm_r (nI_1 j) ?_
          have c := ih (j + 1) w (by omega) (fun y => ?_)
          · rw [hcs, z] at c; exact c
          · rw [hw y]
            by_cases g : y = qs_rho n rv j
            · rw [g, z, Bool.false_and, Bool.and_false, Bool.and_false]
            · rw [step y g]
        · have ep : nI (qt_cn (fun k => qb list (qs_rho n rv k)) j) + 1 = nI (qs_pos n rv (qb list) (qs_rho n rv j)) := by
            unfold qs_pos
            rw [hr2, hcs, z, nI_1]; rfl
          refine nm_r ep (qs_xah H T hr (by unfold qs_pos; rw [hr2]; omega) (by omega) (qa_br (fun z2 => ?_) (fun z2 => ?_)))
          · refine nm_r (nI_1 j) ?_
            have c := ih (j + 1) w (by omega) (fun y => ?_)
            · rw [hcs, z] at c
              rw [← ep, nI_1]; exact c
            · rw [hw y]
              by_cases g : y = qs_rho n rv j
              · rw [g, z2, Bool.and_false, Bool.and_false, Bool.and_false]
              · rw [step y g]
          · refine nm_e (nm_r (nI_1 j) ?_)
            have c := ih (j + 1) (w ||| ((1 : Int64) <<< ((nI (qs_rho n rv j)).toInt64 &&& 63))) (by omega) (fun y => ?_)
            · rw [hcs, z] at c
              rw [← ep, nI_1]; exact c
            · rw [qb_or, hw y, qb_shl _ (by omega)]
              by_cases g : y = qs_rho n rv j
              · rw [g, z2, z, hr2, decide_eq_true (show qs_rho n rv j = qs_rho n rv j from rfl), Bool.or_true, decide_eq_true (show qs_rho n rv j < n ∧ j < j + 1 from ⟨hr, Nat.lt_succ_self _⟩)]; rfl
              · rw [step y g, decide_eq_false g, Bool.or_false]
      refine br_f (nI_ge (by omega) (by omega)) ?_
      cases rv
      · exact br_t (by decide) main
      · refine br_f (by decide) ?_
        have e2 : (nI n - 1) - nI j = nI (qs_rho n true j) := by
          unfold qs_rho
          rw [if_pos rfl, show nI n - 1 = nI (n - 1) from pk_sub (a := n) (b := 1) (by omega), pk_sub (by omega)]
        rw [e2]
        exact main
  refine Exists.intro _ (key n 0 0 (by omega) (fun y => ?_))
  rw [qb_0, decide_eq_false (by omega), Bool.false_and]
theorem qs_xbg {list : Int64} {lv : Nat} {O A : Nat → Nat → Bool} {Ng : Nat → Bool} {post : SX → Prop} (hlv : lv < 5) (R : ∀ j, j < lv → xng j = qa_b (Ng j) ∧ ∀ x, qb (xan j) x = (qb list x && O x j) ∧ qb (xal j) x = (qb list x && A x j))
    (h : ∀ an al ng, qs_RX list lv an al ng (fun x => qc_put (O x) lv false) (fun x => qc_put (A x) lv true) (qc_put Ng lv false) → post (xlim, xn, xpc, xlv, xop, xql, xrc, xrt, xod, xpo, xnm, xvl, xmv, xrk, xpt, xsz, xpd, xpa, xct, xqu, xco, xse, xpe, xgv, an, al, ng, xrs)) : wpX_beginGroup post (xlim, xn, xpc, xlv, xop, xql, xrc, xrt, xod, xpo, xnm, xvl, xmv, xrk, xpt, xsz, xpd, xpa, xct, xqu, xco, xse, xpe, xgv, xan, xal, xng, xrs) (nI lv) list := by
  have il : vp_in (nI lv) 5 := vp_in_nI hlv (by omega)
  refine And.intro il (fun a ea => ⟨il, fun b eb => ⟨il, fun c ec => h a b c (fun j hj => ?_)⟩⟩)
  rw [nI_clamp (by omega)] at ea eb ec
  rw [ea, eb, ec]
  by_cases e : j = lv
  · subst e
    rw [pk_us, qc_put_s]
    refine ⟨rfl, fun x => ?_⟩
    dsimp only
    rw [pk_uLs, pk_uLs, qc_put_s, qc_put_s, qb_0, Bool.and_false, Bool.and_true]
    exact ⟨rfl, rfl⟩
  · obtain ⟨r1, r2⟩ := R j (by omega)
    rw [pk_un e, qc_put_n e]
    refine ⟨r1, fun x => ?_⟩
    dsimp only
    rw [pk_uLn e, pk_uLn e, qc_put_n e, qc_put_n e]
    exact r2 x
theorem qs_xjo {list w : Int64} {lv j : Nat} {O A : Nat → Nat → Bool} {Ng V : Nat → Bool} {post : SX → Prop} (hlv : lv < 5) (hj : j ≤ lv) (R : qs_RX list lv xan xal xng O A Ng) (hw : ∀ x, qb w x = (qb list x && V x))
    (h : ∀ al ng, qs_RX list lv xan al ng O (fun x => qc_put (A x) j (A x j && (V x != Ng j))) (qc_put Ng j false) → post (xlim, xn, xpc, xlv, xop, xql, xrc, xrt, xod, xpo, xnm, xvl, xmv, xrk, xpt, xsz, xpd, xpa, xct, xqu, xco, xse, xpe, xgv, xan, al, ng, xrs)) : wpX_joinOperand post (xlim, xn, xpc, xlv, xop, xql, xrc, xrt, xod, xpo, xnm, xvl, xmv, xrk, xpt, xsz, xpd, xpa, xct, xqu, xco, xse, xpe, xgv, xan, xal, xng, xrs) (nI j) w list := by
  have il : vp_in (nI j) 5 := vp_in_nI (by omega) (by omega)
  have ej : (nI j).toNatClampNeg = j := nI_clamp (by omega)
  have fin : ∀ v : Int64, (∀ x, x < 64 → qb v x = (if Ng j = true then qb list x && !(qb w x) else qb w x)) → wX_joinOperand_28 post (nI j) v (xal j) (nI j) xlim xn xpc xlv xop xql xrc xrt xod xpo xnm xvl xmv xrk xpt xsz xpd xpa xct xqu xco xse xpe xgv xan xal xng xrs := by
    intro v hv
    refine And.intro il (fun a ea => ⟨il, fun b eb => h a b (fun l hl => ?_)⟩)
    rw [ej] at ea eb
    rw [ea, eb]
    obtain ⟨r1, r2⟩ := R l hl
    by_cases e : l = j
    · subst e
      rw [pk_us, qc_put_s]
      refine ⟨rfl, fun x => ⟨(r2 x).1, ?_⟩⟩
      dsimp only
      rw [pk_uLs, qc_put_s, qb_and, (r2 x).2]
      by_cases hx : x < 64
      · rw [hv x hx, hw x]
        exact qs_bool1 _ _ _ _
      · rw [qb_big (x := list) (i := x) (by omega)]; rfl
    · rw [pk_un e, qc_put_n e]
      refine ⟨r1, fun x => ⟨(r2 x).1, ?_⟩⟩
      dsimp only
      rw [pk_uLn e, qc_put_n e]
      exact (r2 x).2
  refine And.intro il ⟨il, ?_⟩
  rw [ej, (R j hj).1]
  refine qa_br (fun g => ?_) (fun g => ?_)
  · refine fin w (fun x _ => ?_)
    rw [g]; rfl
  · refine fin _ (fun x hx => ?_)
    rw [g, qb_and, qb_not w hx]; rfl
theorem qs_RX_mono {list : Int64} {lv lv' : Nat} {an al : Nat → Int64} {ng : Nat → Int32} {O A : Nat → Nat → Bool} {Ng : Nat → Bool} (h : lv' ≤ lv) (R : qs_RX list lv an al ng O A Ng) : qs_RX list lv' an al ng O A Ng := fun j hj => R j (by omega)
end
