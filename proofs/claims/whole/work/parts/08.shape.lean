/-! the tree's relation when a run is cut out or put in -/
theorem qa_pu_1 (f : Nat → Int32) (s : Nat) (b : Nat → Int32) : qa_pu f s b 1 = upd f s (b 0) := by
  have h := qa_pu_s f s b 0
  rw [qa_pu_0] at h
  exact h.symm
theorem qa_pu_c {f : Nat → Int32} {s w : Nat} {b b' : Nat → Int32} (h : ∀ k, k < w → b k = b' k) : qa_pu f s b w = qa_pu f s b' w := by
  funext x
  unfold qa_pu
  by_cases g : s ≤ x ∧ x < s + w
  · rw [if_pos g, if_pos g]; exact h _ (by omega)
  · rw [if_neg g, if_neg g]
theorem qa_ins {od b : Nat → Int32} {i bi : Nat → Nat} {n s w : Nat} (hs : s ≤ n) (h : ∀ x, x < n → od x = nI (i x)) (hb : ∀ k, k < w → b k = nI (bi k)) (x : Nat) (hx : x < n + w) : qa_pu (qa_og od s n w) s b w x = nI (qt_ins i s w bi x) := by
  unfold qa_pu qa_og
  by_cases g1 : x < s
  · rw [if_neg (by omega), if_neg (by omega), qt_ins_lo g1]; exact h x (by omega)
  · by_cases g2 : x < s + w
    · rw [if_pos (by omega), qt_ins_in (by omega) g2]; exact hb _ (by omega)
    · rw [if_neg (by omega), if_pos (by omega), qt_ins_hi (by omega)]; exact h _ (by omega)
theorem qa_cut {od : Nat → Int32} {i : Nat → Nat} {n p w : Nat} (hp : p + w ≤ n) (h : ∀ x, x < n → od x = nI (i x)) (x : Nat) (hx : x < n - w) : qa_cl od p (n - w) w x = nI (qt_cut i p w x) := by
  unfold qa_cl
  by_cases g : x < p
  · rw [if_neg (by omega), qt_cut_lo g]; exact h x (by omega)
  · rw [if_pos (by omega), qt_cut_hi (by omega)]; exact h _ (by omega)
theorem qr_cut_B {n : Nat} {i d : Nat → Nat} {od dp po : Nat → Int32} {p w : Nat} (B : qr_B n i d od dp po) (h0 : 0 < p) (hp : p < n) (hw : p + w = qt_en n d p) : qr_B (n - w) (qt_cut i p w) (qt_cut d p w) (qa_cl od p (n - w) w) (qa_cl dp p (n - w) w) po := by
  obtain ⟨⟨n0, n1⟩, hi, hi0, inj, D, hd, po0, hpo⟩ := B
  obtain ⟨e1, e2, e3, e4⟩ := qt_en_spec (n := n) (d := d) hp
  have D' := qt_cut_D D h0 hp hw
  have ex : ∀ (f : Nat → Nat) r, qt_cut f p w r = f (if r < p then r else r + w) := by
    intro f r
    by_cases g : r < p
    · rw [qt_cut_lo g, if_pos g]
    · rw [qt_cut_hi (by omega), if_neg g]
  have hlt : ∀ r, r < n - w → (if r < p then r else r + w) < n := by intro r hr; split <;> omega
  refine ⟨⟨by omega, by omega⟩, fun r hr => ⟨qa_cut (by omega) (fun x hx => (hi x hx).1) r hr, ?_⟩, by rw [qt_cut_lo h0]; exact hi0, ?_, D', fun r hr => ⟨qa_cut (by omega) (fun x hx => (hd x hx).1) r hr, ?_⟩, po0, ?_⟩
  · rw [ex]; exact (hi _ (hlt r hr)).2
  · intro r s hr hs e
    rw [ex, ex] at e
    have := inj _ _ (hlt r hr) (hlt s hs) e
    split at this <;> split at this <;> omega
  · have := qt_D_le D' r hr; omega
  · intro r hr0 hr
    have hl := hlt r hr
    have hr1 : 0 < (if r < p then r else r + w) := by split <;> omega
    have pa := qt_pr_spec D hr1 hl
    obtain ⟨c1, c2⟩ := qt_cut_PA D h0 hp hw hr0 hr pa
    rw [ex, hpo _ hr1 hl, qt_pr_eq c1, ex]
    have hz : ∀ Z, (p ≤ Z → p + w ≤ Z) → Z = (if (if Z < p then Z else Z - w) < p then (if Z < p then Z else Z - w) else (if Z < p then Z else Z - w) + w) := by
      intro Z hZ
      by_cases g : Z < p
      · rw [if_pos g, if_pos g]
      · have := hZ (by omega)
        rw [if_neg g, if_neg (by omega)]; omega
    rw [← hz _ c2]
theorem qr_ins_B {n : Nat} {i d bi bd : Nat → Nat} {od dp po b c po' : Nat → Int32} {t s w : Nat} (B : qr_B n i d od dp po) (ht : t < n) (hs : qt_Sp n d t s) (hB : qt_B w bd (d t + 1)) (hn : n + w ≤ 40)
    (hb : ∀ k, k < w → b k = nI (bi k) ∧ bi k < 40) (hc : ∀ k, k < w → c k = nI (bd k)) (inb : ∀ k l, k < w → l < w → bi k = bi l → k = l) (dis : ∀ r k, r < n → k < w → i r ≠ bi k)
    (q0 : po' 0 = -1) (q1 : ∀ r, 0 < r → r < n → po' (i r) = po (i r)) (q2 : po' (bi 0) = nI (i t)) (q3 : ∀ k, 0 < k → k < w → ∃ q, qt_PA bd q k ∧ po' (bi k) = nI (bi q)) :
    qr_B (n + w) (qt_ins i s w bi) (qt_ins d s w bd) (qa_pu (qa_og od s n w) s b w) (qa_pu (qa_og dp s n w) s c w) po' := by
  obtain ⟨⟨n0, n1⟩, hi, hi0, inj, D, hd, po0, hpo⟩ := B
  obtain ⟨e1, e2, e3, e4⟩ := qt_en_spec (n := n) (d := d) ht
  have s1 := hs.1
  have s2 := hs.2.1
  have w0 := hB.1
  have D' := qt_ins_D D ht hs hB
  refine ⟨⟨by omega, by omega⟩, fun r hr => ⟨qa_ins (by omega) (fun x hx => (hi x hx).1) (fun k hk => (hb k hk).1) r hr, ?_⟩, by rw [qt_ins_lo (by omega)]; exact hi0, ?_, D', fun r hr => ⟨qa_ins (by omega) (fun x hx => (hd x hx).1) hc r hr, ?_⟩, q0, ?_⟩
  · by_cases g1 : r < s
    · rw [qt_ins_lo g1]; exact (hi r (by omega)).2
    · by_cases g2 : r < s + w
      · rw [qt_ins_in (by omega) g2]; exact (hb _ (by omega)).2
      · rw [qt_ins_hi (by omega)]; exact (hi _ (by omega)).2
  · intro x y hx hy e
    by_cases g1 : x < s
    · rw [qt_ins_lo g1] at e
      by_cases k1 : y < s
      · rw [qt_ins_lo k1] at e; exact inj x y (by omega) (by omega) e
      · by_cases k2 : y < s + w
        · rw [qt_ins_in (by omega) k2] at e; exact absurd e (dis x (y - s) (by omega) (by omega))
        · rw [qt_ins_hi (by omega)] at e; have := inj x (y - w) (by omega) (by omega) e; omega
    · by_cases g2 : x < s + w
      · rw [qt_ins_in (by omega) g2] at e
        by_cases k1 : y < s
        · rw [qt_ins_lo k1] at e; exact absurd e.symm (dis y (x - s) (by omega) (by omega))
        · by_cases k2 : y < s + w
          · rw [qt_ins_in (by omega) k2] at e; have := inb (x - s) (y - s) (by omega) (by omega) e; omega
          · rw [qt_ins_hi (by omega)] at e; exact absurd e.symm (dis (y - w) (x - s) (by omega) (by omega))
      · rw [qt_ins_hi (by omega)] at e
        by_cases k1 : y < s
        · rw [qt_ins_lo k1] at e; have := inj (x - w) y (by omega) (by omega) e; omega
        · by_cases k2 : y < s + w
          · rw [qt_ins_in (by omega) k2] at e; exact absurd e (dis (x - w) (y - s) (by omega) (by omega))
          · rw [qt_ins_hi (by omega)] at e; have := inj (x - w) (y - w) (by omega) (by omega) e; omega
  · have := qt_D_le D' r hr; omega
  · intro r hr0 hr
    by_cases g1 : r < s
    · have pa := qt_pr_spec D hr0 (show r < n by omega)
      have := pa.1
      rw [qt_pr_eq (qt_ins_PA_lo (n := n) g1 pa), qt_ins_lo g1, qt_ins_lo (by omega), q1 r hr0 (by omega)]; exact hpo r hr0 (by omega)
    · by_cases g2 : r = s
      · rw [g2, qt_pr_eq (qt_ins_PA_at ht hs hB), qt_ins_in (Nat.le_refl _) (by omega), Nat.sub_self, qt_ins_lo s1]; exact q2
      · by_cases g3 : r < s + w
        · obtain ⟨k, rfl⟩ : ∃ k, r = s + k := ⟨r - s, by omega⟩
          obtain ⟨q, pa, eq⟩ := q3 k (by omega) (by omega)
          have := pa.1
          rw [qt_pr_eq (qt_ins_PA_in (by omega) pa), qt_ins_in (by omega) g3, qt_ins_in (by omega) (by omega), Nat.add_sub_cancel_left, Nat.add_sub_cancel_left]; exact eq
        · obtain ⟨x, rfl⟩ : ∃ x, r = x + w := ⟨r - w, by omega⟩
          have pa := qt_pr_spec D (show 0 < x by omega) (show x < n by omega)
          have := pa.1
          rw [qt_pr_eq (qt_ins_PA_hi ht hs hB (by omega) (by omega) pa), qt_ins_hi (by omega), Nat.add_sub_cancel, q1 x (by omega) (by omega), hpo x (by omega) (by omega)]
          by_cases k : qt_pr d x < s
          · rw [if_pos k, qt_ins_lo k]
          · rw [if_neg k, qt_ins_hi (by omega), Nat.add_sub_cancel]
/-! insert -/
section
variable {ymo : Int32} {yn : Int32} {yw : Int32} {yle : Int32} {yfo : Int32} {yli : Int32} {yat : Int32} {ysu : Int64} {yid : (Nat → Int32)} {ydp : (Nat → Int32)} {ynm : (Nat → Int32)} {yvl : (Nat → Int32)} {yci : (Nat → Int32)} {ycd : (Nat → Int32)} {ypd : (Nat → Int32)} {yqu : (Nat → Int32)} {ygv : (Nat → Int64)} {yls : (Nat → Int32)} {yrs : (Nat → Int32)} {yor : (Nat → Int32)} {yan : (Nat → Int32)} {yno : (Nat → Int32)} {yow : (Nat → Int32)} {ypa : (Nat → Int32)}
theorem qy_ins {n r m j : Nat} {i d : Nat → Nat} {po : Nat → Int32} {nv vv : Int32} {post : Int32 → SY → Prop} (B : qr_B n i d yid ydp po) (hr : r < n) (hm : m < 2 ^ 31) (hn : n < 40) (hj : qt_LF n i j)
    (h : ∀ s, qt_Spot n d r m s → post (nI j) (ymo, nI (n + 1), yw, yle, yfo, yli, yat, ysu, qa_pu (qa_og yid s n 1) s (upd yci 0 (nI j)) 1, qa_pu (qa_og ydp s n 1) s (fun k => upd ycd 0 (nI (d r + 1)) k + 0) 1, upd ynm j nv, upd yvl j vv, upd yci 0 (nI j), upd ycd 0 (nI (d r + 1)), ypd, yqu, ygv, yls, yrs, yor, yan, yno, yow, ypa)) :
    ∃ f, wY_insert_55 post (nI m) nv vv (nI r) ymo (nI n) yw yle yfo yli yat ysu yid ydp ynm yvl yci ycd ypd yqu ygv yls yrs yor yan yno yow ypa f 0 := by
  have hi := B.2.1
  have hd := B.2.2.2.2.2.1
  obtain ⟨j1, j2, j3⟩ := hj
  have key : ∀ k x, x + k = j → wY_insert_55 post (nI m) nv vv (nI r) ymo (nI n) yw yle yfo yli yat ysu yid ydp ynm yvl yci ycd ypd yqu ygv yls yrs yor yan yno yow ypa (k + 1) (nI x) := by
    intro k
    induction k with
    | zero =>
      intro x e
      have e : x = j := by omega
      subst e
      have i1 : vp_in (nI x) 40 := vp_in_nI j1 (by omega)
      unfold wY_insert_55
      refine qr_mY B (fun r hr e => j2 r hr ((nI_eq (by have := (hi r hr).2; omega) (by omega)).mp e)) ?_
      refine br_t (by decide) ⟨i1, fun a ea => ⟨i1, fun b eb c ec => ⟨vp_in_nI (by omega) (by omega), fun e ee => ?_⟩⟩⟩
      rw [nI_clamp (by omega)] at ea eb ee
      rw [(hd r hr).1, nI_1] at ee
      subst ea; subst eb; subst ec; subst ee
      refine qy_cp (by omega) hr hm hd (fun s hs => ?_)
      have sp := qt_Spot_Sp hr hs
      have he := (qt_en_spec (n := n) (d := d) hr).2.1
      have := sp.1
      have := sp.2.1
      exact qy_paste (w := 1) (by omega) (by omega) (by omega) (by omega) (h s hs)
    | succ k ih =>
      intro x e
      obtain ⟨r', hr', er⟩ := j3 x (by omega)
      unfold wY_insert_55
      rw [← er]
      refine qr_hY B hr' (br_f (nI_pos (by omega)) ?_)
      rw [er]
      exact nm_r (nI_1 x) (ih (x + 1) (by omega))
  exact ⟨_, key j 0 (by omega)⟩
end
theorem i_vc_insert {k : Nat} {u : SX} {v : SY} (I : i_Rel k u v) (hk : k + 5 ≤ 2561) (v1 : Int32) (v2 : Int32) (v3 : Int32) (v4 : Int32) : wpX_insert (fun r u' => wpY_insert (fun r' v' => r' = r ∧ i_Rel (k + 5) u' v') v v1 v2 v3 v4) u v1 v2 v3 v4 := by
  have I0 := I
  obtain ⟨L, n, w, len, fd, i, d, xlv, xop, sm, id, po, nm, vl, mv, rk, pt, sz, pd, xpa, xct, qx, co, se, pe, xgv, xan, xal, xng, rs, yli, yat, dp, yci, ycd, qy, ygv, yls, yor, yan, yno, yow, ypa, rfl, rfl, hL, hw, hf, B, N, Q⟩ := I
  have hn := B.1.2
  have hd := B.2.2.2.2.2.1
  unfold wpX_insert wpY_insert
  dsimp only
  rcases qr_node (n := n) i v1 with ⟨r, hr, rfl⟩ | hm
  · refine qr_hX B N hr (br_f (by decide) ?_)
    refine qx_nm (fun ⟨m, hm, em⟩ => ?_) (fun hm => ?_)
    · subst em
      refine br_f (by decide) ?_
      by_cases h0 : v2 < 0
      · exact br_t h0 (qr_hY B hr (br_f (nI_pos (by omega)) (br_f (nI_pos (by omega)) (br_f (nI_nlt (a := 7) (by omega) (by omega)) (br_t h0 ⟨rfl, I0⟩)))))
      · obtain ⟨pl, hpl, rfl⟩ := nI_of h0
        have hc := qt_cn_le (qt_ch n d r) n
        refine br_f h0 (qx_cc B hr ?_)
        refine pk_le pl (qt_cn (qt_ch n d r) n) (fun g => ?_) (fun g => ?_)
        · refine pk_lt n L (fun gl => ?_) (fun gl => ?_)
          · obtain ⟨j, hj⟩ := qt_LF_ex (n := n) (i := i) (by omega)
            refine qx_lf N hn hj (qx_sp B N hr hpl (fun s hs => ?_))
            have sp := qt_Spot_Sp hr hs
            have he := (qt_en_spec (n := n) (d := d) hr).2.1
            have s1 := sp.1
            have s2 := sp.2.1
            have ij : vp_in (nI j) 40 := vp_in_nI hj.1 (by omega)
            refine qx_og (w := 1) (by omega) (by omega) (by omega) (by omega) ⟨vp_in_nI (by omega) (by omega), fun a ea => ⟨ij, fun b eb => ⟨ij, fun c ec => ⟨ij, fun e ee => ?_⟩⟩⟩⟩
            rw [nI_clamp (by have := hj.1; omega)] at ea eb ec ee
            have ea2 : a = qa_pu (qa_og id s n 1) s (upd yci 0 (nI j)) 1 := by rw [qa_pu_1]; exact ea
            have B' : qr_B (n + 1) (qt_ins i s 1 (fun _ => j)) (qt_ins d s 1 (fun _ => d r + 1)) (qa_pu (qa_og id s n 1) s (upd yci 0 (nI j)) 1) (qa_pu (qa_og dp s n 1) s (fun k => upd ycd 0 (nI (d r + 1)) k + 0) 1) b := by
              refine qr_ins_B B hr sp ⟨by omega, rfl, fun k h1 h2 => by omega⟩ (by omega) (fun k hk => ?_) (fun k hk => ?_) (fun k l h1 h2 _ => by omega) (fun x k hx _ => hj.2.1 x hx) ?_ (fun x hx0 hx => ?_) ?_ (fun k h1 h2 => by omega)
              · have : k = 0 := by omega
                subst this; exact ⟨pk_us, hj.1⟩
              · have : k = 0 := by omega
                subst this
                show upd ycd 0 (nI (d r + 1)) 0 + 0 = nI (d r + 1)
                rw [pk_us, Int32.add_zero]
              · rw [eb, pk_un]
                · exact B.2.2.2.2.2.2.1
                · intro z; exact hj.2.1 0 B.1.1 (by rw [B.2.2.1]; exact z)
              · rw [eb, pk_un (hj.2.1 x hx)]
              · rw [eb, pk_us]
            subst ea2; subst eb; subst ec; subst ee
            refine qx_ns B' (fun rk' pt' sz' N' => ?_)
            refine qr_hY B hr (br_f (nI_pos (by omega)) (br_f (nI_pos (by omega)) (br_f (nI_nlt (a := 7) (by omega) (by omega)) (br_f h0 (qy_cc hn hr hd (br_t (nI_le g (by omega)) (br_f (fun z => ?_) ?_)))))))
            · have := (nI_eq (by omega) (by omega)).mp z; omega
            · refine qy_ins B hr hpl (by omega) hj (fun s' hs' => ?_)
              have := qt_Spot_uniq hs' hs
              subst this
              exact ⟨rfl, qr_mk ⟨hL.1, hL.2.1, by omega⟩ hw hf B' N' Q⟩
          · refine qr_hY B hr (br_f (nI_pos (by omega)) (br_f (nI_pos (by omega)) (br_f (nI_nlt (a := 7) (by omega) (by omega)) (br_f h0 (qy_cc hn hr hd (br_t (nI_le g (by omega)) (br_t ?_ ⟨rfl, I0⟩)))))))
            rw [show n = L by omega]
        · exact qr_hY B hr (br_f (nI_pos (by omega)) (br_f (nI_pos (by omega)) (br_f (nI_nlt (a := 7) (by omega) (by omega)) (br_f h0 (qy_cc hn hr hd (br_f (nI_ge g (by omega)) ⟨rfl, I0⟩))))))
    · refine br_t (by decide) (qr_hY B hr (br_f (nI_pos (by omega)) ?_))
      refine br_c (fun g => ⟨rfl, I0⟩) (fun g => br_t ?_ ⟨rfl, I0⟩)
      refine Int32.not_le.mp (fun g2 => hm ?_)
      obtain ⟨m, h1, h2⟩ := nI_of2 (n := 7) (by decide) g g2
      exact ⟨m, by omega, h2⟩
  · exact qr_mX N hm (br_t (by decide) (qr_mY B hm (br_t (by decide) ⟨rfl, I0⟩)))
theorem i_vc_remove {k : Nat} {u : SX} {v : SY} (I : i_Rel k u v) (hk : k + 5 ≤ 2561) (v1 : Int32) : wpX_remove (fun r u' => wpY_remove (fun r' v' => r' = r ∧ i_Rel (k + 5) u' v') v v1) u v1 := by
  have I0 := I
  obtain ⟨L, n, w, len, fd, i, d, xlv, xop, sm, id, po, nm, vl, mv, rk, pt, sz, pd, xpa, xct, qx, co, se, pe, xgv, xan, xal, xng, rs, yli, yat, dp, yci, ycd, qy, ygv, yls, yor, yan, yno, yow, ypa, rfl, rfl, hL, hw, hf, B, N, Q⟩ := I
  have hn := B.1.2
  have hd := B.2.2.2.2.2.1
  unfold wpX_remove wpY_remove
  dsimp only
  rcases qr_node (n := n) i v1 with ⟨r, hr, rfl⟩ | hm
  · refine qr_hX B N hr (br_f (by decide) ?_)
    have hir := (B.2.1 r hr).2
    obtain ⟨e1, e2, e3, e4⟩ := qt_en_spec (n := n) (d := d) hr
    by_cases e : r = 0
    · refine br_t ((qr_root B hr).mpr e) (qr_hY B hr (br_f ?_ ⟨rfl, I0⟩))
      rw [e]; decide
    · have hw' : r + (qt_en n d r - r) = qt_en n d r := by omega
      have B' := qr_cut_B B (by omega) hr hw'
      refine br_f (fun z => e ((qr_root B hr).mp z)) ⟨vp_in_nI hir (by omega), nm_r (e' := nI r) (by rw [nI_clamp (by omega), N.1 r hr]) ⟨vp_in_nI (by omega) (by omega), nm_r (e' := nI (qt_en n d r - r)) (by rw [nI_clamp (by omega), N.2.2.2.2 r hr]) ?_⟩⟩
      refine qx_cg hn (by omega) (qx_ns B' (fun rk' pt' sz' N' => ?_))
      refine qr_hY B hr (br_t (nI_lt (a := 0) (by omega) (by omega)) (qy_bh hn hr hd (nm_r (pk_sub (by omega)) ?_)))
      exact qy_cut hn (by omega) ⟨rfl, qr_mk ⟨hL.1, hL.2.1, by omega⟩ hw hf B' N' Q⟩
  · exact qr_mX N hm (br_t (by decide) (qr_mY B hm (br_f (by decide) ⟨rfl, I0⟩)))
