/-! the grammar's machine, on naturals: state, level, open parentheses, parentheses by level, counted by level -/
def qc_ax (t : Int32) : Bool := decide (¬ t < 20 ∧ ¬ 30 < t)
def qc_nm (t : Int32) : Bool := decide (¬ t < 40 ∧ ¬ 48 < t)
def qc_cp (t : Int32) : Bool := decide (t = 12 ∨ t = 13 ∨ t = 14)
def qc_nu (t : Int32) : Bool := decide (¬ t < 1000 ∧ ¬ 3000 < t)
abbrev qc_St : Type := Nat × Nat × Nat × (Nat → Nat) × (Nat → Bool)
def qc_put {α : Type} (f : Nat → α) (k : Nat) (x : α) : Nat → α := fun j => if j = k then x else f j
def qc_af (l o : Nat) (pa : Nat → Nat) (ct : Nat → Bool) (t : Int32) : qc_St :=
  if t = 5 ∨ t = 6 then (4, l, o, pa, ct)
  else if t = 4 ∧ 0 < pa l then (7, l, o - 1, qc_put pa l (pa l - 1), ct)
  else if t = 2 ∧ pa l = 0 then (3, l - 1, o, pa, ct)
  else (0, l, o, pa, ct)
def qc_sp (l o : Nat) (pa : Nat → Nat) (ct : Nat → Bool) (t : Int32) : qc_St :=
  if qc_ax t = true then (2, l, o, pa, ct)
  else if t = 1 then (if l < 3 then (4, l + 1, o, qc_put pa (l + 1) 0, ct) else (0, l, o, pa, ct))
  else if l = 0 then (0, l, o, pa, ct)
  else if ct l = true then (if qc_cp t = true then (6, l, o, pa, ct) else (0, l, o, pa, ct))
  else qc_af l o pa ct t
def qc_op (l o : Nat) (pa : Nat → Nat) (ct : Nat → Bool) (t : Int32) : qc_St :=
  if t = 7 then (4, l, o, pa, ct)
  else if t = 3 then (if o < 4 then (4, l, o + 1, qc_put pa l (pa l + 1), ct) else (0, l, o, pa, ct))
  else if t = 8 ∨ t = 10 then (5, l, o, pa, ct)
  else if t = 9 then (7, l, o, pa, ct)
  else if t = 11 then (1, l, o, pa, qc_put ct l true)
  else if qc_ax t = true then (2, l, o, pa, qc_put ct l false)
  else (0, l, o, pa, qc_put ct l false)
def qc_nx (S : qc_St) (t : Int32) : qc_St := match S with
  | (s, l, o, pa, ct) =>
    if s = 1 then (if qc_ax t = true then (2, l, o, pa, ct) else (0, l, o, pa, ct))
    else if s = 2 then (if qc_nm t = true then (3, l, o, pa, ct) else (0, l, o, pa, ct))
    else if s = 3 then qc_sp l o pa ct t
    else if s = 4 then qc_op l o pa ct t
    else if s = 5 then (if qc_cp t = true then (6, l, o, pa, ct) else (0, l, o, pa, ct))
    else if s = 6 then (if qc_nu t = true then (7, l, o, pa, ct) else (0, l, o, pa, ct))
    else if s = 7 then qc_af l o pa ct t
    else (0, l, o, pa, ct)
def qc_tr (q : Nat → Int32) : Nat → qc_St
  | 0 => (1, 0, 0, (fun _ => 0), (fun _ => false))
  | k + 1 => qc_nx (qc_tr q k) (q k)
/-! where brackets, steps and paths end -/
def qe_C (q : Nat → Int32) : Nat → Nat → Nat → Nat
  | 0, _, k => k
  | f + 1, e, k => if q k = 1 then qe_C q f (e + 1) (k + 1) else if q k = 2 then (if e = 1 then k else qe_C q f (e - 1) (k + 1)) else qe_C q f e (k + 1)
def qe_cl (q : Nat → Int32) (len t : Nat) : Nat := qe_C q (len - (t + 1)) 1 (t + 1)
def qe_S (q : Nat → Int32) (len : Nat) : Nat → Nat → Nat
  | 0, k => k
  | f + 1, k => if k < len ∧ q k = 1 then qe_S q len f (qe_cl q len k + 1) else k
def qe_se (q : Nat → Int32) (len t : Nat) : Nat := qe_S q len (len - (t + 2)) (t + 2)
def qe_P (q : Nat → Int32) (len : Nat) : Nat → Nat → Nat
  | 0, k => k
  | f + 1, k => if k < len ∧ qc_ax (q k) = true then qe_P q len f (qe_se q len k) else k
def qe_pe (q : Nat → Int32) (len t : Nat) : Nat := qe_P q len (len - t) t
/-! the relation -/
def qr_Q (len : Nat) (qx qy co se pe : Nat → Int32) : Prop :=
  len ≤ 40 ∧ (∀ t, t < len → qy t = qx t) ∧ (∀ t, len ≤ t → t < 41 → qx t = 0) ∧ (0 < len → (qc_tr qx len).1 = 3 ∧ (qc_tr qx len).2.1 = 0) ∧
  (∀ t, t < len → qx t = 1 → co t = nI (qe_cl qx len t)) ∧ (∀ t, t < len → qc_ax (qx t) = true → se t = nI (qe_se qx len t) ∧ pe t = nI (qe_pe qx len t))
def i_Rel (k : Nat) (u : SX) (v : SY) : Prop := ∃ (L n w len fd : Nat) (i d : Nat → Nat) (xlv xop : Int32) (sm : Int64) (id po nm vl mv rk pt sz pd xpa xct qx co se pe : Nat → Int32) (xgv xan xal : Nat → Int64) (xng rs : Nat → Int32) (yli yat : Int32) (dp yci ycd qy : Nat → Int32) (ygv : Nat → Int64) (yls yor yan yno yow ypa : Nat → Int32),
  u = (nI L, nI n, nI w, xlv, xop, nI len, nI fd, sm, id, po, nm, vl, mv, rk, pt, sz, pd, xpa, xct, qx, co, se, pe, xgv, xan, xal, xng, rs) ∧
  v = (nI L, nI n, nI w, nI len, nI fd, yli, yat, sm, id, dp, nm, vl, yci, ycd, pd, qy, ygv, yls, rs, yor, yan, yno, yow, ypa) ∧
  (4 ≤ L ∧ L ≤ 40 ∧ n ≤ L) ∧ w ≤ 40 ∧ fd ≤ 40 ∧ qr_B n i d id dp po ∧ qr_N n i d rk pt sz ∧ qr_Q len qx qy co se pe
theorem i_up {k : Nat} {u : SX} {v : SY} (h : i_Rel k u v) : i_Rel (k + 5) u v := h
theorem qr_mk {k L n w len fd : Nat} {i d : Nat → Nat} {xlv xop : Int32} {sm : Int64} {id po nm vl mv rk pt sz pd xpa xct qx co se pe : Nat → Int32} {xgv xan xal : Nat → Int64} {xng rs : Nat → Int32} {yli yat : Int32} {dp yci ycd qy : Nat → Int32} {ygv : Nat → Int64} {yls yor yan yno yow ypa : Nat → Int32}
    (hL : 4 ≤ L ∧ L ≤ 40 ∧ n ≤ L) (hw : w ≤ 40) (hf : fd ≤ 40) (B : qr_B n i d id dp po) (N : qr_N n i d rk pt sz) (Q : qr_Q len qx qy co se pe) :
    i_Rel k (nI L, nI n, nI w, xlv, xop, nI len, nI fd, sm, id, po, nm, vl, mv, rk, pt, sz, pd, xpa, xct, qx, co, se, pe, xgv, xan, xal, xng, rs) (nI L, nI n, nI w, nI len, nI fd, yli, yat, sm, id, dp, nm, vl, yci, ycd, pd, qy, ygv, yls, rs, yor, yan, yno, yow, ypa) :=
  ⟨L, n, w, len, fd, i, d, xlv, xop, sm, id, po, nm, vl, mv, rk, pt, sz, pd, xpa, xct, qx, co, se, pe, xgv, xan, xal, xng, rs, yli, yat, dp, yci, ycd, qy, ygv, yls, yor, yan, yno, yow, ypa, rfl, rfl, hL, hw, hf, B, N, Q⟩
theorem qr_node {n : Nat} (i : Nat → Nat) (v : Int32) : (∃ r, r < n ∧ v = nI (i r)) ∨ (∀ r, r < n → nI (i r) ≠ v) := by
  by_cases h : ∃ r, r < n ∧ v = nI (i r)
  · exact Or.inl h
  · exact Or.inr (fun r hr e => h ⟨r, hr, e.symm⟩)
section
variable {xlim : Int32} {xn : Int32} {xpc : Int32} {xlv : Int32} {xop : Int32} {xql : Int32} {xrc : Int32} {xrt : Int64} {xod : (Nat → Int32)} {xpo : (Nat → Int32)} {xnm : (Nat → Int32)} {xvl : (Nat → Int32)} {xmv : (Nat → Int32)} {xrk : (Nat → Int32)} {xpt : (Nat → Int32)} {xsz : (Nat → Int32)} {xpd : (Nat → Int32)} {xpa : (Nat → Int32)} {xct : (Nat → Int32)} {xqu : (Nat → Int32)} {xco : (Nat → Int32)} {xse : (Nat → Int32)} {xpe : (Nat → Int32)} {xgv : (Nat → Int64)} {xan : (Nat → Int64)} {xal : (Nat → Int64)} {xng : (Nat → Int32)} {xrs : (Nat → Int32)} {ymo : Int32} {yn : Int32} {yw : Int32} {yle : Int32} {yfo : Int32} {yli : Int32} {yat : Int32} {ysu : Int64} {yid : (Nat → Int32)} {ydp : (Nat → Int32)} {ynm : (Nat → Int32)} {yvl : (Nat → Int32)} {yci : (Nat → Int32)} {ycd : (Nat → Int32)} {ypd : (Nat → Int32)} {yqu : (Nat → Int32)} {ygv : (Nat → Int64)} {yls : (Nat → Int32)} {yrs : (Nat → Int32)} {yor : (Nat → Int32)} {yan : (Nat → Int32)} {yno : (Nat → Int32)} {yow : (Nat → Int32)} {ypa : (Nat → Int32)}
variable {n r : Nat} {i d : Nat → Nat} {dp po rk pt sz od : Nat → Int32} {v : Int32} {post : Int32 → Prop}
theorem qr_hX (B : qr_B n i d od dp po) (N : qr_N n i d rk pt sz) (hr : r < n) (h : post 1) : wpX_isNode post (xlim, nI n, xpc, xlv, xop, xql, xrc, xrt, od, po, xnm, xvl, xmv, rk, pt, sz, xpd, xpa, xct, xqu, xco, xse, xpe, xgv, xan, xal, xng, xrs) (nI (i r)) :=
  qx_nd_hit (B.2.1 r hr).2 (N.1 r hr) (by have := B.1.2; omega) h
theorem qr_mX (N : qr_N n i d rk pt sz) (hm : ∀ r, r < n → nI (i r) ≠ v) (h : post 0) : wpX_isNode post (xlim, nI n, xpc, xlv, xop, xql, xrc, xrt, od, po, xnm, xvl, xmv, rk, pt, sz, xpd, xpa, xct, xqu, xco, xse, xpe, xgv, xan, xal, xng, xrs) v :=
  qx_nd_miss (fun j hj e => N.2.1 j hj (fun r hr g => hm r hr (by rw [g, e]))) h
theorem qr_hY (B : qr_B n i d od dp po) (hr : r < n) (h : post (nI r)) : wpY_placeOf post (ymo, nI n, yw, yle, yfo, yli, yat, ysu, od, dp, ynm, yvl, yci, ycd, ypd, yqu, ygv, yls, yrs, yor, yan, yno, yow, ypa) (nI (i r)) := by
  have hi := B.2.1
  refine qy_pl_hit B.1.2 hr (hi r hr).1 (fun x hx => ?_) h
  rw [(hi x (by omega)).1]
  intro e
  rw [nI_eq (by have := (hi x (by omega)).2; omega) (by have := (hi r hr).2; omega)] at e
  have := B.2.2.2.1 x r (by omega) hr e
  omega
theorem qr_mY (B : qr_B n i d od dp po) (hm : ∀ r, r < n → nI (i r) ≠ v) (h : post (-1)) : wpY_placeOf post (ymo, nI n, yw, yle, yfo, yli, yat, ysu, od, dp, ynm, yvl, yci, ycd, ypd, yqu, ygv, yls, yrs, yor, yan, yno, yow, ypa) v :=
  qy_pl_miss B.1.2 (fun x hx => by rw [(B.2.1 x hx).1]; exact hm x hx) h
theorem qr_root (B : qr_B n i d od dp po) (hr : r < n) : nI (i r) = 0 ↔ r = 0 := by
  have hi := B.2.1
  have e : (0 : Int32) = nI (i 0) := by rw [B.2.2.1]; decide
  rw [e, nI_eq (by have := (hi r hr).2; omega) (by rw [B.2.2.1]; omega)]
  exact ⟨fun h => B.2.2.2.1 r 0 hr B.1.1 h, fun h => by rw [h]⟩
end
theorem qr_init_B : qr_B 1 (fun _ => 0) (fun _ => 0) (fun _ => 0) (fun _ => 0) (upd (fun _ => 0) 0 (-1)) :=
  ⟨⟨by omega, by omega⟩, fun r _ => ⟨(by decide : (0 : Int32) = nI 0), (by decide : 0 < 40)⟩, rfl, fun r s _ _ _ => by omega, ⟨rfl, fun r _ _ => by omega⟩, fun r _ => ⟨(by decide : (0 : Int32) = nI 0), (by decide : 0 < 40)⟩, pk_us, fun r _ _ => by omega⟩
theorem qr_init_Q : qr_Q 0 (fun _ => 0) (fun _ => 0) (fun _ => 0) (fun _ => 0) (fun _ => 0) :=
  ⟨by omega, fun t _ => by omega, fun t _ _ => rfl, fun h => by omega, fun t _ => by omega, fun t _ => by omega⟩
theorem qr_init {L : Nat} (h1 : 4 ≤ L) (h2 : L ≤ 40) : wX_init_219 (fun u => ∀ v, (v = ((nI L, 1, 0, 0, 0, 0, 0, 0, (fun _ => 0), (fun _ => 0), (fun _ => 0), (fun _ => 0), (fun _ => 0), (fun _ => 0), (fun _ => 0), (fun _ => 0), (fun _ => 0), (fun _ => 0), (fun _ => 0), (fun _ => 0), (fun _ => 0), (fun _ => 0), (fun _ => 0), (fun _ => 0)) : SY)) → i_Rel 1 u v) (nI L) 0 1 0 0 0 0 0 0 (fun _ => 0) (fun _ => 0) (fun _ => 0) (fun _ => 0) (fun _ => 0) (fun _ => 0) (fun _ => 0) (fun _ => 0) (fun _ => 0) (fun _ => 0) (fun _ => 0) (fun _ => 0) (fun _ => 0) (fun _ => 0) (fun _ => 0) (fun _ => 0) (fun _ => 0) (fun _ => 0) (fun _ => 0) (fun _ => 0) := by
  intro a ea
  subst ea
  refine qx_ns (n := 1) qr_init_B (fun rk pt sz N => ?_)
  intro v ev
  subst ev
  exact qr_mk (w := 0) (fd := 0) (len := 0) ⟨h1, h2, by omega⟩ (by omega) (by omega) qr_init_B N qr_init_Q
