/-! X: a predicate over a list, a path, all paths, the result -/
section
variable {q : Nat → Int32} {len : Nat} {i : Nat → Nat} {vl : Nat → Int32} {g : Nat → Int64} {x p m f k lv : Nat} {ors ands nots : Nat → Bool}
theorem qs_PE_2 (h : q k = 2) : qs_PE q len i vl g x p m (f + 1) k lv ors ands nots = (ors 0 || ands 0) := by
  simp only [qs_PE]; rw [if_pos h]
theorem qs_PE_3 (h : q k = 3) : qs_PE q len i vl g x p m (f + 1) k lv ors ands nots = qs_PE q len i vl g x p m f (k + 1) (lv + 1) (qc_put ors (lv + 1) false) (qc_put ands (lv + 1) true) (qc_put nots (lv + 1) false) := by
  simp only [qs_PE]; rw [if_neg (by rw [h]; decide), if_pos h]
theorem qs_PE_7 (h : q k = 7) : qs_PE q len i vl g x p m (f + 1) k lv ors ands nots = qs_PE q len i vl g x p m f (k + 1) lv ors ands (qc_put nots lv (!nots lv)) := by
  simp only [qs_PE]; rw [if_neg (by rw [h]; decide), if_neg (by rw [h]; decide), if_pos h]
theorem qs_PE_6 (h : q k = 6) : qs_PE q len i vl g x p m (f + 1) k lv ors ands nots = qs_PE q len i vl g x p m f (k + 1) lv (qc_put ors lv (ors lv || ands lv)) (qc_put ands lv true) nots := by
  simp only [qs_PE]; rw [if_neg (by rw [h]; decide), if_neg (by rw [h]; decide), if_neg (by rw [h]; decide), if_pos h]
theorem qs_PE_5 (h : q k = 5) : qs_PE q len i vl g x p m (f + 1) k lv ors ands nots = qs_PE q len i vl g x p m f (k + 1) lv ors ands nots := by
  simp only [qs_PE]; rw [if_neg (by rw [h]; decide), if_neg (by rw [h]; decide), if_neg (by rw [h]; decide), if_neg (by rw [h]; decide), if_pos h]
theorem qs_PE_4 (h : q k = 4) : qs_PE q len i vl g x p m (f + 1) k lv ors ands nots = qs_PE q len i vl g x p m f (k + 1) (lv - 1) ors (qc_put ands (lv - 1) (ands (lv - 1) && ((ors lv || ands lv) != nots (lv - 1)))) (qc_put nots (lv - 1) false) := by
  simp only [qs_PE]; rw [if_neg (by rw [h]; decide), if_neg (by rw [h]; decide), if_neg (by rw [h]; decide), if_neg (by rw [h]; decide), if_neg (by rw [h]; decide), if_pos h]
theorem qs_nn {o : Nat} (T : qw_AT q len o k) : q k ≠ 2 ∧ q k ≠ 3 ∧ q k ≠ 7 ∧ q k ≠ 6 ∧ q k ≠ 5 ∧ q k ≠ 4 := by
  rcases T.2.2.2.1 with ⟨z | z, _⟩ | z | ⟨z, _⟩ | z
  · rw [z]; decide
  · rw [z]; decide
  · rw [z]; decide
  · rw [z]; decide
  · refine ⟨?_, ?_, ?_, ?_, ?_, ?_⟩ <;> (intro y; rw [y] at z; exact absurd z (by decide))
theorem qs_PE_A {o : Nat} (T : qw_AT q len o k) : qs_PE q len i vl g x p m (f + 1) k lv ors ands nots = qs_PE q len i vl g x p m f (qs_AE q len k) lv ors (qc_put ands lv (ands lv && (qs_AV q len i vl g k x p m != nots lv))) (qc_put nots lv false) := by
  have nn := qs_nn T
  simp only [qs_PE]; rw [if_neg nn.1, if_neg nn.2.1, if_neg nn.2.2.1, if_neg nn.2.2.2.1, if_neg nn.2.2.2.2.1, if_neg nn.2.2.2.2.2]
end
section
variable {xlim : Int32} {xn : Int32} {xpc : Int32} {xlv : Int32} {xop : Int32} {xql : Int32} {xrc : Int32} {xrt : Int64} {xod : (Nat → Int32)} {xpo : (Nat → Int32)} {xnm : (Nat → Int32)} {xvl : (Nat → Int32)} {xmv : (Nat → Int32)} {xrk : (Nat → Int32)} {xpt : (Nat → Int32)} {xsz : (Nat → Int32)} {xpd : (Nat → Int32)} {xpa : (Nat → Int32)} {xct : (Nat → Int32)} {xqu : (Nat → Int32)} {xco : (Nat → Int32)} {xse : (Nat → Int32)} {xpe : (Nat → Int32)} {xgv : (Nat → Int64)} {xan : (Nat → Int64)} {xal : (Nat → Int64)} {xng : (Nat → Int32)} {xrs : (Nat → Int32)}
variable {n len : Nat} {i d : Nat → Nat} {dp : Nat → Int32}
theorem qs_xf20 {o : Nat} {list : Int64} {rv : Bool} {post : Int64 → SX → Prop} (H : qs_H n i d xod dp xpo xrk xpt xsz len xqu xco xse xpe) (ho : o < len) (h1 : xqu o = 1) (hls : ∀ y, qb list y = true → y < n) :
    ∀ f t nx K lv F an al ng O A Ng, t + f = qe_cl xqu len o → t ≤ K → (nx ≤ t → K = t) → (t < nx → K = nx) → nx ≤ 40 → qw_PO xqu len o K lv → qe_cl xqu len o - K < F → qs_RX list lv an al ng O A Ng →
    (∀ R an' al' ng', (∀ x, qb R x = (qb list x && qs_PE xqu len i xvl xgv x (qs_pos n rv (qb list) x) (qt_cn (qb list) n) F K lv (O x) (A x) Ng)) → post R (xlim, nI n, xpc, xlv, xop, nI len, xrc, xrt, xod, xpo, xnm, xvl, xmv, xrk, xpt, xsz, xpd, xpa, xct, xqu, xco, xse, xpe, xgv, an', al', ng', xrs)) →
    wX_filtered_20 post (nI o) list (qa_b rv) (f + 1) (nI lv) (nI nx) (nI t) xlim (nI n) xpc xlv xop (nI len) xrc xrt xod xpo xnm xvl xmv xrk xpt xsz xpd xpa xct xqu xco xse xpe xgv an al ng xrs := by
  have H0 := H
  obtain ⟨B, N, hl, G, hq, hco, hse⟩ := H
  obtain ⟨c1, c2, c3, c4, c5⟩ := qe_cl_spec G ho h1
  have io : vp_in (nI o) 40 := vp_in_nI (by omega) (by omega)
  have eo : xco (nI o).toNatClampNeg = nI (qe_cl xqu len o) := by rw [nI_clamp (by omega)]; exact hco o ho h1
  intro f
  induction f with
  | zero =>
    intro t nx K lv F an al ng O A Ng e hK k1 k2 hnx P hF R hp
    have hKc := P.2.1
    have eK : K = qe_cl xqu len o := by omega
    refine And.intro io ?_
    rw [eo]
    refine br_t (nI_le (by omega) (by omega)) (hp _ _ _ _ (fun x => ?_))
    obtain ⟨F', rfl⟩ : ∃ F', F = F' + 1 := ⟨F - 1, by omega⟩
    rcases qw_next G ho h1 P with ⟨a1, a2, a3⟩ | ⟨a1, a2⟩ | ⟨a1, a2, a3⟩ | ⟨a1, a2⟩ | ⟨a1, a2, a3⟩ | ⟨a1, a2, a3⟩
    · rw [qs_PE_2 a1, qb_or, ((R 0 (by omega)).2 x).1, ((R 0 (by omega)).2 x).2]
      cases qb list x <;> rfl
    · have := a2.2.1; omega
    · have := a3.2.1; omega
    · have := a2.2.1; omega
    · have := a3.2.1; omega
    · have := a3.2.1; omega
  | succ f ih =>
    intro t nx K lv F an al ng O A Ng e hK k1 k2 hnx P hF R hp
    have hKc := P.2.1
    refine And.intro io ?_
    rw [eo]
    refine br_f (nI_ge (by omega) (by omega)) ?_
    refine pk_le nx t (fun g => ?_) (fun g => ?_)
    · have eK := k1 g
      subst eK
      have et : (nI K).toNatClampNeg = K := nI_clamp (by omega)
      refine ⟨vp_in_nI (by omega) (by omega), nm_r (e' := xqu K) (by rw [et]) ?_⟩
      obtain ⟨F', rfl⟩ : ∃ F', F = F' + 1 := ⟨F - 1, by omega⟩
      have W := qe_W (k := K) G (by omega)
      have hlv : lv ≤ 4 := by
        have a : lv = (qc_tr xqu K).2.2.2.1 (qc_tr xqu K).2.1 := by rw [P.2.2.1]; exact P.2.2.2.1.symm
        have b := qc_sm_ge (qc_tr xqu K).2.2.2.1 (qc_tr xqu K).2.1 (by rw [P.2.2.1]; omega)
        have w4 : (qc_tr xqu K).2.2.1 ≤ 4 := W.2.2.2.1
        have w5 : (qc_tr xqu K).2.2.1 = qc_sm (qc_tr xqu K).2.2.2.1 (qc_tr xqu K).2.1 := W.2.2.2.2.1
        omega
      have il : vp_in (nI lv) 5 := vp_in_nI (by omega) (by omega)
      have el : (nI lv).toNatClampNeg = lv := nI_clamp (by omega)
      rcases qw_next G ho h1 P with ⟨a1, a2, a3⟩ | ⟨a1, a2⟩ | ⟨a1, a2, a3⟩ | ⟨a1, a2⟩ | ⟨a1, a2, a3⟩ | ⟨a1, a2, a3⟩
      · omega
      · rcases a1 with a1 | a1
        · refine br_f (by rw [a1]; decide) (br_f (by rw [a1]; decide) (br_f (by rw [a1]; decide) (br_f (by rw [a1]; decide) (br_t a1 (nm_r (nI_1 K) ?_)))))
          exact ih (K + 1) nx (K + 1) lv F' an al ng O A Ng (by omega) (by omega) (fun _ => rfl) (fun z => by omega) hnx a2 (by omega) R (fun R' an' al' ng' hR => hp R' an' al' ng' (fun x => (hR x).trans (by rw [qs_PE_5 a1])))
        · refine br_f (by rw [a1]; decide) (br_t a1 ⟨il, il, il, fun a ea => ⟨il, fun b eb => nm_r (nI_1 K) ?_⟩⟩)
          rw [el] at ea eb
          refine ih (K + 1) nx (K + 1) lv F' a b ng (fun x => qc_put (O x) lv (O x lv || A x lv)) (fun x => qc_put (A x) lv true) Ng (by omega) (by omega) (fun _ => rfl) (fun z => by omega) hnx a2 (by omega) (fun j hj => ?_) (fun R' an' al' ng' hR => hp R' an' al' ng' (fun x => (hR x).trans (by rw [qs_PE_6 a1])))
          obtain ⟨r1, r2⟩ := R j hj
          refine ⟨r1, fun x => ?_⟩
          rw [ea, eb]
          dsimp only
          by_cases e2 : j = lv
          · subst e2
            rw [pk_uLs, pk_uLs, qc_put_s, qc_put_s, qb_or, (r2 x).1, (r2 x).2, Bool.and_true]
            refine ⟨?_, rfl⟩
            cases qb list x <;> rfl
          · rw [pk_uLn e2, pk_uLn e2, qc_put_n e2, qc_put_n e2]; exact r2 x
      · refine br_f (by rw [a1]; decide) (br_f (by rw [a1]; decide) (br_f (by rw [a1]; decide) (br_t a1 (br_f (nI_nle (by omega) (by omega)) ⟨il, il, nm_e (nm_r (sb_m1 (p := lv) (by omega)) ?_)⟩))))
        rw [el]
        refine qs_xjo (V := fun x => O x lv || A x lv) (by omega) (by omega) R (fun x => ?_) (fun al' ng' R' => nm_r (nI_1 K) ?_)
        · rw [qb_or, ((R lv (Nat.le_refl _)).2 x).1, ((R lv (Nat.le_refl _)).2 x).2]
          cases qb list x <;> rfl
        · exact ih (K + 1) nx (K + 1) (lv - 1) F' an al' ng' O _ _ (by omega) (by omega) (fun _ => rfl) (fun z => by omega) hnx a3 (by omega) (qs_RX_mono (by omega) R') (fun R' an' al' ng' hR => hp R' an' al' ng' (fun x => (hR x).trans (by rw [qs_PE_4 a1])))
      · refine br_t a1 ⟨il, ?_⟩
        rw [el, (R lv (Nat.le_refl _)).1]
        refine qa_br (fun z => ⟨il, fun a ea => nm_r (nI_1 K) ?_⟩) (fun z => ⟨il, fun a ea => nm_r (nI_1 K) ?_⟩)
        · refine ih (K + 1) nx (K + 1) lv F' an al a O A (qc_put Ng lv (!Ng lv)) (by omega) (by omega) (fun _ => rfl) (fun z => by omega) hnx a2 (by omega) (fun j hj => ?_) (fun R' an' al' ng' hR => hp R' an' al' ng' (fun x => (hR x).trans (by rw [qs_PE_7 a1])))
          refine ⟨?_, (R j hj).2⟩
          rw [ea]
          by_cases e2 : j = lv
          · rw [e2, pk_us, qc_put_s, z]; rfl
          · rw [pk_un e2, qc_put_n e2]; exact (R j hj).1
        · refine ih (K + 1) nx (K + 1) lv F' an al a O A (qc_put Ng lv (!Ng lv)) (by omega) (by omega) (fun _ => rfl) (fun z => by omega) hnx a2 (by omega) (fun j hj => ?_) (fun R' an' al' ng' hR => hp R' an' al' ng' (fun x => (hR x).trans (by rw [qs_PE_7 a1])))
          refine ⟨?_, (R j hj).2⟩
          rw [ea]
          by_cases e2 : j = lv
          · rw [e2, pk_us, qc_put_s, z]; rfl
          · rw [pk_un e2, qc_put_n e2]; exact (R j hj).1
      · refine br_f (by rw [a1]; decide) (br_f (by rw [a1]; decide) (br_t a1 (br_f (nI_ge (b := 4) (by omega) (by omega)) (nm_r (nI_1 lv) ?_))))
        refine qs_xbg (O := O) (A := A) (Ng := Ng) (by omega) (fun j hj => R j (by omega)) (fun an' al' ng' R' => nm_r (nI_1 K) ?_)
        exact ih (K + 1) nx (K + 1) (lv + 1) F' an' al' ng' _ _ _ (by omega) (by omega) (fun _ => rfl) (fun z => by omega) hnx a3 (by omega) R' (fun R' an' al' ng' hR => hp R' an' al' ng' (fun x => (hR x).trans (by rw [qs_PE_3 a1])))
      · have nn := qs_nn a1
        refine br_f nn.2.2.1 (br_f nn.2.2.2.1 (br_f nn.2.1 (br_f nn.2.2.2.2.2 (br_f nn.2.2.2.2.1 ?_))))
        have aec := a3.2.1
        refine qs_xan H0 a1 hls (fun w hw => ?_)
        refine qs_xjo (V := fun x => qs_AV xqu len i xvl xgv K x (qs_pos n rv (qb list) x) (qt_cn (qb list) n)) (by omega) (Nat.le_refl _) R hw (fun al' ng' R' => ?_)
        refine qs_xae H0 a1 (nm_r (nI_1 K) ?_)
        exact ih (K + 1) (qs_AE xqu len K) (qs_AE xqu len K) lv F' an al' ng' O _ _ (by omega) (by omega) (fun z => by omega) (fun _ => rfl) (by omega) a3 (by omega) R' (fun R' an' al' ng' hR => hp R' an' al' ng' (fun x => (hR x).trans (by rw [qs_PE_A a1])))
    · have eK := k2 g
      refine nm_r (nI_1 t) (ih (t + 1) nx K lv F an al ng O A Ng (by omega) (by omega) (fun z => by omega) (fun _ => eK) hnx P hF R hp)
theorem qs_xfi {o : Nat} {list : Int64} {rv : Bool} {post : Int64 → SX → Prop} (H : qs_H n i d xod dp xpo xrk xpt xsz len xqu xco xse xpe) (ho : o < len) (h1 : xqu o = 1) (hls : ∀ y, qb list y = true → y < n)
    (h : ∀ R an al ng, (∀ x, qb R x = qs_FL xqu len i xvl xgv n rv o (qb list) x) → post R (xlim, nI n, xpc, xlv, xop, nI len, xrc, xrt, xod, xpo, xnm, xvl, xmv, xrk, xpt, xsz, xpd, xpa, xct, xqu, xco, xse, xpe, xgv, an, al, ng, xrs)) : wpX_filtered post (xlim, nI n, xpc, xlv, xop, nI len, xrc, xrt, xod, xpo, xnm, xvl, xmv, xrk, xpt, xsz, xpd, xpa, xct, xqu, xco, xse, xpe, xgv, xan, xal, xng, xrs) (nI o) list (qa_b rv) := by
  obtain ⟨B, N, hl, G, hq, hco, hse⟩ := id H
  obtain ⟨c1, c2, c3, c4, c5⟩ := qe_cl_spec G ho h1
  unfold wpX_filtered
  dsimp only
  refine qs_xbg (lv := 0) (O := fun _ _ => false) (A := fun _ _ => true) (Ng := fun _ => false) (by omega) (fun j hj => by omega) (fun an al ng R => ?_)
  refine nm_r (nI_1 o) (nm_r (nI_1 o) ?_)
  have e1 : ∀ (b : Bool), qc_put (fun _ : Nat => b) 0 b = (fun _ => b) := by intro b; funext j; unfold qc_put; split <;> rfl
  simp only [e1] at R
  refine Exists.intro (qe_cl xqu len o - (o + 1) + 1) ?_
  exact qs_xf20 H ho h1 hls _ (o + 1) (o + 1) (o + 1) 0 len an al ng _ _ _ (by omega) (Nat.le_refl _) (fun _ => rfl) (fun z => by omega) (by omega) (qw_start G ho h1) (by omega) R (fun R' an' al' ng' hR => h R' an' al' ng' hR)
theorem qs_xna {t c : Nat} {post : Int64 → Prop} (H : qs_H n i d xod dp xpo xrk xpt xsz len xqu xco xse xpe) (ht : t < len) (ha : qc_ax (xqu t) = true) (hc : c < n)
    (h : ∀ w, (∀ y, qb w y = qs_L0 n d i xnm xqu t c y) → post w) : wpX_namedOnAxis post (xlim, nI n, xpc, xlv, xop, nI len, xrc, xrt, xod, xpo, xnm, xvl, xmv, xrk, xpt, xsz, xpd, xpa, xct, xqu, xco, xse, xpe, xgv, xan, xal, xng, xrs) (nI t) (nI c) := by
  obtain ⟨B, N, hl, G, hq, hco, hse⟩ := H
  have hn := B.1.2
  obtain ⟨s1, s2⟩ := qs_a_spec ha
  obtain ⟨t1, t2, _⟩ := qe_se_spec G ht ha
  have key : ∀ f j w, j + f = n → (∀ y, qb w y = (decide (y < j) && qs_L0 n d i xnm xqu t c y)) → wX_namedOnAxis_26 post (nI c) (nI (qs_a (xqu t))) (xqu (t + 1)) xlim (nI n) xpc xlv xop (nI len) xrc xrt xod xpo xnm xvl xmv xrk xpt xsz xpd xpa xct xqu xco xse xpe xgv xan xal xng xrs (f + 1) w (nI j) := by
    intro f
    induction f with
    | zero =>
      intro j w e hw
      refine br_t (nI_le (by omega) (by omega)) (h w (fun y => ?_))
      rw [hw y]
      by_cases g : y < j
      · rw [decide_eq_true g, Bool.true_and]
      · rw [decide_eq_false g, Bool.false_and]
        unfold qs_L0
        rw [decide_eq_false (show ¬ y < n by omega), Bool.false_and]
    | succ f ih =>
      intro j w e hw
      have hij := B.2.1 j (by omega)
      have st : ∀ y, y ≠ j → decide (y < j) = decide (y < j + 1) := by intro y hy; rw [decide_eq_decide]; omega
      have skip : qs_L0 n d i xnm xqu t c j = false → wX_namedOnAxis_26 post (nI c) (nI (qs_a (xqu t))) (xqu (t + 1)) xlim (nI n) xpc xlv xop (nI len) xrc xrt xod xpo xnm xvl xmv xrk xpt xsz xpd xpa xct xqu xco xse xpe xgv xan xal xng xrs (f + 1) w (nI (j + 1)) := by
        intro z
        refine ih (j + 1) w (by omega) (fun y => ?_)
        rw [hw y]
        by_cases g : y = j
        · rw [g, z, Bool.and_false, Bool.and_false]
        · rw [st y g]
      have nmd : (xqu (t + 1) = 48 ∨ xqu (t + 1) - 40 = xnm (i j)) → wX_namedOnAxis_62 post (wX_namedOnAxis_26 post (nI c) (nI (qs_a (xqu t))) (xqu (t + 1)) xlim (nI n) xpc xlv xop (nI len) xrc xrt xod xpo xnm xvl xmv xrk xpt xsz xpd xpa xct xqu xco xse xpe xgv xan xal xng xrs (f + 1)) (nI c) (nI (qs_a (xqu t))) (xqu (t + 1)) w (nI j) xlim (nI n) xpc xlv xop (nI len) xrc xrt xod xpo xnm xvl xmv xrk xpt xsz xpd xpa xct xqu xco xse xpe xgv xan xal xng xrs := by
        intro hnm
        have e0 : qs_L0 n d i xnm xqu t c j = qs_ax n d (qs_a (xqu t)) c j := by
          unfold qs_L0
          rw [decide_eq_true (show j < n by omega), decide_eq_true hnm, Bool.true_and, Bool.true_and]
        refine br_f (by decide) (qs_xoa hn B.2.2.2.2.1 N s2 hc (by omega) (qa_br (fun z => ?_) (fun z => ?_)))
        · exact nm_r (nI_1 j) (skip (by rw [e0]; exact z))
        · refine nm_e (nm_r (nI_1 j) (ih (j + 1) _ (by omega) (fun y => ?_)))
          rw [qb_or, hw y, qb_shl _ (by omega)]
          by_cases g : y = j
          · rw [g, e0, z, decide_eq_true (show j = j from rfl), Bool.or_true, decide_eq_true (show j < j + 1 by omega)]; rfl
          · rw [st y g, decide_eq_false g, Bool.or_false]
      refine br_f (nI_ge (by omega) (by omega)) ?_
      by_cases g48 : xqu (t + 1) = 48
      · exact br_t g48 (nmd (Or.inl g48))
      · have e1 : xod (nI j).toNatClampNeg = nI (i j) := by rw [nI_clamp (by omega)]; exact hij.1
        refine br_f g48 ⟨vp_in_nI (by omega) (by omega), by rw [e1]; exact vp_in_nI hij.2 (by omega), ?_⟩
        rw [e1, nI_clamp (n := i j) (by omega)]
        refine br_c (fun g => nmd (Or.inr g)) (fun g => ?_)
        refine br_t rfl (nm_r (nI_1 j) (skip ?_))
        unfold qs_L0
        rw [decide_eq_false (show ¬ (xqu (t + 1) = 48 ∨ xqu (t + 1) - 40 = xnm (i j)) by rintro (z | z); exact g48 z; exact g z), Bool.false_and, Bool.and_false]
  refine And.intro (vp_in_nI (by omega) (by omega)) (nm_r (e' := nI (qs_a (xqu t))) (by rw [nI_clamp (by omega)]; exact s1) ⟨by rw [nI_1]; exact vp_in_nI (by omega) (by omega), nm_r (e' := xqu (t + 1)) (by rw [nI_1, nI_clamp (by omega)]) (Exists.intro _ (key n 0 0 (by omega) (fun y => ?_)))⟩)
  rw [qb_0, decide_eq_false (by omega), Bool.false_and]
theorem qs_xgf {t : Nat} {list : Int64} {post : Int64 → Prop} (hn : n ≤ 40) (ht : t < 40) (h : ∀ w, (∀ y, qb w y = qs_any (fun x => qb list x && qb (xgv (t * 40 + x)) y) n) → post w) : wpX_givenFromAny post (xlim, nI n, xpc, xlv, xop, nI len, xrc, xrt, xod, xpo, xnm, xvl, xmv, xrk, xpt, xsz, xpd, xpa, xct, xqu, xco, xse, xpe, xgv, xan, xal, xng, xrs) (nI t) list := by
  have key : ∀ f j w, j + f = n → (∀ y, qb w y = qs_any (fun x => qb list x && qb (xgv (t * 40 + x)) y) j) → wX_givenFromAny_6 post (nI t) list xlim (nI n) xpc xlv xop (nI len) xrc xrt xod xpo xnm xvl xmv xrk xpt xsz xpd xpa xct xqu xco xse xpe xgv xan xal xng xrs (f + 1) w (nI j) := by
    intro f
    induction f with
    | zero =>
      intro j w e hw
      have e : j = n := by omega
      subst e
      exact br_t (nI_le (by omega) (by omega)) (h w hw)
    | succ f ih =>
      intro j w e hw
      refine br_f (nI_ge (by omega) (by omega)) (qs_xhas (by omega) (qa_br (fun z => ?_) (fun z => ?_)))
      · refine nm_r (nI_1 j) (ih (j + 1) w (by omega) (fun y => ?_))
        simp only [qs_any]
        rw [hw y, z, Bool.false_and, Bool.or_false]
      · rw [qs_ix]
        refine ⟨vp_in_nI (by omega) (by omega), nm_e (nm_r (nI_1 j) ?_)⟩
        rw [nI_clamp (by omega)]
        refine ih (j + 1) _ (by omega) (fun y => ?_)
        simp only [qs_any]
        rw [qb_or, hw y, z, Bool.true_and]
  exact Exists.intro _ (key n 0 0 (by omega) (fun y => by rw [qb_0]; rfl))
theorem qs_xpf {t c : Nat} {post : Int64 → SX → Prop} (H : qs_H n i d xod dp xpo xrk xpt xsz len xqu xco xse xpe) (ht : t < len) (ha : qc_ax (xqu t) = true) (hc : c < n)
    (h : ∀ w an al ng, (∀ y, qb w y = qs_PT n d i xnm xvl xqu len xgv t c y) → post w (xlim, nI n, xpc, xlv, xop, nI len, xrc, xrt, xod, xpo, xnm, xvl, xmv, xrk, xpt, xsz, xpd, xpa, xct, xqu, xco, xse, xpe, xgv, an, al, ng, xrs)) : wpX_pathFrom post (xlim, nI n, xpc, xlv, xop, nI len, xrc, xrt, xod, xpo, xnm, xvl, xmv, xrk, xpt, xsz, xpd, xpa, xct, xqu, xco, xse, xpe, xgv, xan, xal, xng, xrs) (nI t) (nI c) := by
  obtain ⟨B, N, hl, G, hq, hco, hse⟩ := id H
  have hn := B.1.2
  obtain ⟨s1, s2⟩ := qs_a_spec ha
  obtain ⟨t1, t2, t3, t4, t5, t6⟩ := qe_se_spec G ht ha
  have tge := qe_se_ge xqu len t
  have key : ∀ f j K F list an al ng, j + f = qe_se xqu len t → j ≤ K → qe_so xqu len K = qe_se xqu len t → K ≤ len → len - K ≤ F → (∀ y, qb list y = true → y < n) →
      (∀ y, qs_FS xqu len i xvl xgv n (qs_rv (qs_a (xqu t))) F K (qb list) y = qs_SG n d i xnm xvl xqu len xgv t c y) →
      wX_pathFrom_40 post (qa_b (qs_rv (qs_a (xqu t)))) (nI (qe_se xqu len t)) (f + 1) list (nI K) (nI j) xlim (nI n) xpc xlv xop (nI len) xrc xrt xod xpo xnm xvl xmv xrk xpt xsz xpd xpa xct xqu xco xse xpe xgv an al ng xrs := by
    intro f
    induction f with
    | zero =>
      intro j K F list an al ng e hj hK hKl hF hls hS
      have hKe : K = qe_se xqu len t := by
        have := qe_so_ge xqu len _ K (Nat.le_refl _)
        omega
      have eS : ∀ y, qb list y = qs_SG n d i xnm xvl xqu len xgv t c y := by
        intro y
        rw [← hS y]
        cases F with
        | zero => rfl
        | succ F =>
          simp only [qs_FS]
          rw [if_neg (fun z => t6 (by omega) (by rw [← hKe]; exact z.2))]
      refine br_t (nI_le (by omega) (by omega)) ⟨vp_in_nI (by omega) (by omega), ?_⟩
      rw [nI_clamp (n := qe_se xqu len t) (by omega)]
      refine qc_xax (qa_br (fun z => ?_) (fun z => ?_))
      · refine h _ _ _ _ (fun y => ?_)
        unfold qs_PT
        rw [if_neg (by rw [z]; decide)]; exact eS y
      · have hlt : qe_se xqu len t < len := by
          refine Nat.lt_of_not_le (fun y => ?_)
          rw [hq _ y (by omega)] at z
          exact absurd z (by decide)
        refine qs_xgf hn (by omega) (fun w hw => h _ _ _ _ (fun y => ?_))
        unfold qs_PT
        rw [if_pos z, hw y]
        have e2 : (fun x => qb list x && qb (xgv (qe_se xqu len t * 40 + x)) y) = (fun x => qs_SG n d i xnm xvl xqu len xgv t c x && qb (xgv (qe_se xqu len t * 40 + x)) y) := funext (fun x => by rw [eS x])
        rw [e2]
    | succ f ih =>
      intro j K F list an al ng e hj hK hKl hF hls hS
      refine br_f (nI_ge (by omega) (by omega)) ?_
      refine pk_eq j K (fun g => ?_) (fun g => ?_)
      · subst g
        have hb : j < len ∧ xqu j = 1 := by
          refine Classical.byContradiction (fun z => ?_)
          rw [qe_so_eq, if_neg z] at hK
          omega
        have cs := qe_cl_spec G hb.1 hb.2
        have cg := qe_cl_ge xqu len j
        have hK' := hK
        rw [qe_so_eq, if_pos hb] at hK'
        refine qs_xfi H hb.1 hb.2 hls (fun R an' al' ng' hR => ⟨vp_in_nI (by omega) (by omega), ?_⟩)
        rw [nI_clamp (n := j) (by omega), hco j hb.1 hb.2]
        refine nm_r (nI_1 _) (nm_r (nI_1 j) ?_)
        obtain ⟨F', rfl⟩ : ∃ F', F = F' + 1 := ⟨F - 1, by omega⟩
        have cs2 := cs.2.1
        refine ih (j + 1) (qe_cl xqu len j + 1) F' R an' al' ng' (by omega) (by omega) hK' (by omega) (by omega) (fun y hy => ?_) (fun y => ?_)
        · rw [hR y] at hy
          unfold qs_FL at hy
          rw [Bool.and_eq_true] at hy
          exact hls y hy.1
        · rw [← hS y]
          simp only [qs_FS]
          rw [if_pos hb, show qb R = qs_FL xqu len i xvl xgv n (qs_rv (qs_a (xqu t))) j (qb list) from funext hR]
      · exact nm_r (nI_1 j) (ih (j + 1) K F list an al ng (by omega) (by omega) hK hKl hF hls hS)
  refine And.intro (vp_in_nI (by omega) (by omega)) ?_
  rw [nI_clamp (n := t) (by omega), s1]
  refine qs_xrv s2 ⟨vp_in_nI (by omega) (by omega), nm_r (e' := nI (qe_se xqu len t)) (hse t ht ha).1 ?_⟩
  refine qs_xna H ht ha hc (fun w hw => nm_r (nI_add t 2) (nm_r (nI_add t 2) (Exists.intro (qe_se xqu len t - (t + 2) + 1) ?_)))
  refine key _ (t + 2) (t + 2) len w _ _ _ (by omega) (Nat.le_refl _) rfl (by omega) (by omega) (fun y hy => ?_) (fun y => ?_)
  · rw [hw y] at hy
    unfold qs_L0 at hy
    rw [Bool.and_eq_true] at hy
    exact of_decide_eq_true hy.1
  · rw [show qb w = qs_L0 n d i xnm xqu t c from funext hw]; rfl
end
