/-! X: all paths, and the result -/
def qs_K (od vl : Nat → Int32) (w : Int64) (rs : Nat → Int32) : Nat → Nat × Int64 × (Nat → Int32)
  | 0 => (0, 0, rs)
  | k + 1 => if qb w k then ((qs_K od vl w rs k).1 + 1, (qs_K od vl w rs k).2.1 + ((vl (od k).toNatClampNeg).toInt64), upd (qs_K od vl w rs k).2.2 (qs_K od vl w rs k).1 (od k)) else qs_K od vl w rs k
theorem qs_K_le (od vl : Nat → Int32) (w : Int64) (rs : Nat → Int32) : ∀ k, (qs_K od vl w rs k).1 ≤ k := by
  intro k
  induction k with
  | zero => exact Nat.le_refl _
  | succ k ih =>
    simp only [qs_K]
    split
    · show (qs_K od vl w rs k).1 + 1 ≤ k + 1; omega
    · omega
section
variable {xlim : Int32} {xn : Int32} {xpc : Int32} {xlv : Int32} {xop : Int32} {xql : Int32} {xrc : Int32} {xrt : Int64} {xod : (Nat → Int32)} {xpo : (Nat → Int32)} {xnm : (Nat → Int32)} {xvl : (Nat → Int32)} {xmv : (Nat → Int32)} {xrk : (Nat → Int32)} {xpt : (Nat → Int32)} {xsz : (Nat → Int32)} {xpd : (Nat → Int32)} {xpa : (Nat → Int32)} {xct : (Nat → Int32)} {xqu : (Nat → Int32)} {xco : (Nat → Int32)} {xse : (Nat → Int32)} {xpe : (Nat → Int32)} {xgv : (Nat → Int64)} {xan : (Nat → Int64)} {xal : (Nat → Int64)} {xng : (Nat → Int32)} {xrs : (Nat → Int32)}
variable {n len : Nat} {i d : Nat → Nat} {dp : Nat → Int32}
theorem qs_xkr {w : Int64} {post : SX → Prop} (hn : n ≤ 40) (hi : ∀ r, r < n → xod r = nI (i r) ∧ i r < 40)
    (h : post (xlim, nI n, xpc, xlv, xop, xql, nI (qs_K xod xvl w xrs n).1, (qs_K xod xvl w xrs n).2.1, xod, xpo, xnm, xvl, xmv, xrk, xpt, xsz, xpd, xpa, xct, xqu, xco, xse, xpe, xgv, xan, xal, xng, (qs_K xod xvl w xrs n).2.2)) : wpX_keepResult post (xlim, nI n, xpc, xlv, xop, xql, xrc, xrt, xod, xpo, xnm, xvl, xmv, xrk, xpt, xsz, xpd, xpa, xct, xqu, xco, xse, xpe, xgv, xan, xal, xng, xrs) w := by
  have key : ∀ f j, j + f = n → wX_keepResult_12 post w xlim (nI n) xpc xlv xop xql (f + 1) (nI j) (nI (qs_K xod xvl w xrs j).1) ((qs_K xod xvl w xrs j).2.1) xod xpo xnm xvl xmv xrk xpt xsz xpd xpa xct xqu xco xse xpe xgv xan xal xng ((qs_K xod xvl w xrs j).2.2) := by
    intro f
    induction f with
    | zero =>
      intro j e
      have e : j = n := by omega
      subst e
      exact br_t (nI_le (by omega) (by omega)) h
    | succ f ih =>
      intro j e
      have c := ih (j + 1) (by omega)
      have hle := qs_K_le xod xvl w xrs j
      have hij := hi j (by omega)
      have ej : (nI j).toNatClampNeg = j := nI_clamp (by omega)
      simp only [qs_K] at c
      refine br_f (nI_ge (by omega) (by omega)) (qs_xhas (by omega) (qa_br (fun z => ?_) (fun z => ?_)))
      · rw [z] at c
        exact nm_r (nI_1 j) c
      · rw [z, if_pos rfl] at c
        refine ⟨vp_in_nI (by omega) (by omega), vp_in_nI (by omega) (by omega), fun a ea => nm_r (nI_1 _) ⟨vp_in_nI (by omega) (by omega), by rw [ej, hij.1]; exact vp_in_nI hij.2 (by omega), fun b eb => nm_r (nI_1 j) ?_⟩⟩
        rw [ej, nI_clamp (by omega)] at ea
        rw [ej] at eb
        subst ea; subst eb
        exact c
  exact Exists.intro _ (key n 0 (by omega))
theorem qs_xrow {t : Nat} {x1 : Int32} {post : Int32 → SX → Prop} {J : Int32 → Int32 → Int32 → Int32 → Int32 → Int32 → Int32 → Int32 → Int64 → (Nat → Int32) → (Nat → Int32) → (Nat → Int32) → (Nat → Int32) → (Nat → Int32) → (Nat → Int32) → (Nat → Int32) → (Nat → Int32) → (Nat → Int32) → (Nat → Int32) → (Nat → Int32) → (Nat → Int32) → (Nat → Int32) → (Nat → Int32) → (Nat → Int32) → (Nat → Int64) → (Nat → Int64) → (Nat → Int64) → (Nat → Int32) → (Nat → Int32) → Prop} (H : qs_H n i d xod dp xpo xrk xpt xsz len xqu xco xse xpe) (ht : t < len) (ha : qc_ax (xqu t) = true) :
    ∀ f c gv an al ng, c + f = n → qs_LC n d i xnm xvl xqu len gv (t + 1) → (∀ c', c' < c → ∀ y, qb (gv (t * 40 + c')) y = qs_PT n d i xnm xvl xqu len gv t c' y) →
    (∀ gv an al ng, qs_LC n d i xnm xvl xqu len gv t → J (nI t - 1) xlim (nI n) xpc xlv xop (nI len) xrc xrt xod xpo xnm xvl xmv xrk xpt xsz xpd xpa xct xqu xco xse xpe gv an al ng xrs) →
    wX_select_43 post J x1 (nI t) (f + 1) (nI c) xlim (nI n) xpc xlv xop (nI len) xrc xrt xod xpo xnm xvl xmv xrk xpt xsz xpd xpa xct xqu xco xse xpe gv an al ng xrs := by
  have hn := H.1.1.2
  have hl := H.2.2.1
  have G := H.2.2.2.1
  intro f
  induction f with
  | zero =>
    intro c gv an al ng e LC hr h
    have e : c = n := by omega
    subst e
    refine br_t (nI_le (by omega) (by omega)) (nm_r (qe_m1 t) (h gv an al ng (fun t' h1 h2 h3 c' hc' y => ?_)))
    by_cases g : t' = t
    · rw [g]; exact hr c' hc' y
    · exact LC t' (by omega) h2 h3 c' hc' y
  | succ f ih =>
    intro c gv an al ng e LC hr h
    refine br_f (nI_ge (by omega) (by omega)) (qs_xpf H ht ha (by omega) (fun w an' al' ng' hw => ?_))
    rw [qs_ix]
    refine ⟨vp_in_nI (by omega) (by omega), fun a ea => nm_r (nI_1 c) ?_⟩
    rw [nI_clamp (by omega)] at ea
    have same : ∀ j, (t + 1) * 40 ≤ j → a j = gv j := fun j hj => by rw [ea, pk_uLn (by omega)]
    refine ih (c + 1) a an' al' ng' (by omega) (fun t' h1 h2 h3 c' hc' y => ?_) (fun c' hc' y => ?_) h
    · rw [same _ (by omega), LC t' h1 h2 h3 c' hc' y]
      exact (qs_PT_c G (fun j hj => same j (by omega))).symm
    · rw [qs_PT_c G same]
      by_cases g : c' = c
      · rw [g, ea, pk_uLs]; exact hw y
      · rw [ea, pk_uLn (by omega)]; exact hr c' (by omega) y
theorem qs_xsl {r : Nat} {post : Int32 → SX → Prop} (H : qs_H n i d xod dp xpo xrk xpt xsz len xqu xco xse xpe) (hr : r < n) (h0 : 0 < len)
    (h : ∀ gv an al ng, qs_LC n d i xnm xvl xqu len gv 0 → post (nI (qs_K xod xvl (gv r) xrs n).1) (xlim, nI n, xpc, xlv, xop, nI len, nI (qs_K xod xvl (gv r) xrs n).1, (qs_K xod xvl (gv r) xrs n).2.1, xod, xpo, xnm, xvl, xmv, xrk, xpt, xsz, xpd, xpa, xct, xqu, xco, xse, xpe, gv, an, al, ng, (qs_K xod xvl (gv r) xrs n).2.2)) :
    wpX_select post (xlim, nI n, xpc, xlv, xop, nI len, xrc, xrt, xod, xpo, xnm, xvl, xmv, xrk, xpt, xsz, xpd, xpa, xct, xqu, xco, xse, xpe, xgv, xan, xal, xng, xrs) (nI (i r)) := by
  obtain ⟨B, N, hl, G, hq, hco, hse⟩ := id H
  have hn := B.1.2
  have hir := (B.2.1 r hr).2
  have key : ∀ k gv an al ng, k ≤ len → qs_LC n d i xnm xvl xqu len gv k → wX_select_24 post (nI (i r)) (k + 1) (nI k - 1) xlim (nI n) xpc xlv xop (nI len) xrc xrt xod xpo xnm xvl xmv xrk xpt xsz xpd xpa xct xqu xco xse xpe gv an al ng xrs := by
    intro k
    induction k with
    | zero =>
      intro gv an al ng _ LC
      have e1 : xrk (nI (i r)).toNatClampNeg = nI r := by rw [nI_clamp (by omega)]; exact N.1 r hr
      refine br_t (by decide) ⟨vp_in_nI hir (by omega), by rw [e1]; exact vp_in_nI (by omega) (by omega), ?_⟩
      rw [e1, nI_clamp (n := r) (by omega)]
      exact qs_xkr hn B.2.1 (h gv an al ng LC)
    | succ k ih =>
      intro gv an al ng hk LC
      rw [nI_pred]
      refine br_f (nI_pos (by omega)) ⟨vp_in_nI (by omega) (by omega), ?_⟩
      rw [nI_clamp (n := k) (by omega)]
      refine qc_xax (qa_br (fun z => ?_) (fun z => ?_))
      · refine nm_r (qe_m1 k) (ih gv an al ng (by omega) (fun t' h1 h2 h3 => ?_))
        by_cases g : t' = k
        · rw [g, z] at h3; exact absurd h3 (by decide)
        · exact LC t' (by omega) h2 h3
      · exact Exists.intro (n + 1) (qs_xrow H (by omega) z n 0 gv an al ng (by omega) LC (fun c' hc' => by omega) (fun gv' an' al' ng' LC' => ih gv' an' al' ng' (by omega) LC'))
  unfold wpX_select
  dsimp only
  refine qr_hX B N hr (br_f (by decide) (br_f (nI_ne0 h0 (by omega)) (nm_e (Exists.intro (len + 1) ?_))))
  exact key len xgv xan xal xng (Nat.le_refl _) (fun t' h1 h2 => by omega)
end
