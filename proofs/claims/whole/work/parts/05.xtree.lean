/-! the tree's part of the relation -/
def qr_B (n : Nat) (i d : Nat → Nat) (od dp po : Nat → Int32) : Prop :=
  (0 < n ∧ n ≤ 40) ∧ (∀ r, r < n → od r = nI (i r) ∧ i r < 40) ∧ i 0 = 0 ∧ (∀ r s, r < n → s < n → i r = i s → r = s) ∧ qt_D n d ∧
  (∀ r, r < n → dp r = nI (d r) ∧ d r < 40) ∧ po 0 = -1 ∧ (∀ r, 0 < r → r < n → po (i r) = nI (i (qt_pr d r)))
def qr_N (n : Nat) (i d : Nat → Nat) (rk pt sz : Nat → Int32) : Prop :=
  (∀ r, r < n → rk (i r) = nI r) ∧ (∀ j, j < 40 → (∀ r, r < n → i r ≠ j) → rk j = -1) ∧ pt 0 = -1 ∧
  (∀ r, 0 < r → r < n → pt r = nI (qt_pr d r)) ∧ (∀ r, r < n → sz r = nI (qt_en n d r - r))
theorem qt_pig : ∀ m n (f : Nat → Nat), (∀ j, j < m → ∃ r, r < n ∧ f r = j) → m ≤ n := by
  intro m
  induction m with
  | zero => intro n f _; exact Nat.zero_le _
  | succ m ih =>
    intro n f h
    obtain ⟨r0, h0, e0⟩ := h m (by omega)
    have := ih (n - 1) (fun r => if r < r0 then f r else f (r + 1)) (fun j hj => by
      obtain ⟨r, hr, er⟩ := h j (by omega)
      have hne : r ≠ r0 := fun e => by subst e; omega
      by_cases g : r < r0
      · exact ⟨r, by omega, by rw [if_pos g]; exact er⟩
      · refine ⟨r - 1, by omega, ?_⟩
        rw [if_neg (by omega), show r - 1 + 1 = r by omega]; exact er)
    omega
/-- the least free id -/
def qt_LF (n : Nat) (i : Nat → Nat) (j : Nat) : Prop := j < 40 ∧ (∀ r, r < n → i r ≠ j) ∧ ∀ x, x < j → ∃ r, r < n ∧ i r = x
theorem qt_LF_ex {n : Nat} {i : Nat → Nat} (hn : n < 40) : ∃ j, qt_LF n i j := by
  have h : ∃ j, ¬ ∃ r, r < n ∧ i r = j := by
    refine Classical.byContradiction fun c => ?_
    have := qt_pig 40 n i (fun j _ => Classical.byContradiction fun g => c ⟨j, g⟩)
    omega
  obtain ⟨j, h1, h2⟩ := pk_least (fun j => ¬ ∃ r, r < n ∧ i r = j) h
  have h3 : ∀ x, x < j → ∃ r, r < n ∧ i r = x := fun x hx => Classical.byContradiction fun g => h2 x hx g
  refine ⟨j, ?_, fun r hr e => h1 ⟨r, hr, e⟩, h3⟩
  have := qt_pig j n i h3
  omega
theorem qt_LF_uniq {n : Nat} {i : Nat → Nat} {j j' : Nat} (h : qt_LF n i j) (h' : qt_LF n i j') : j = j' := by
  rcases Nat.lt_trichotomy j j' with g | g | g
  · obtain ⟨r, hr, e⟩ := h'.2.2 j g; exact absurd e (h.2.1 r hr)
  · exact g
  · obtain ⟨r, hr, e⟩ := h.2.2 j' g; exact absurd e (h'.2.1 r hr)
theorem qr_ch {n : Nat} {i d : Nat → Nat} {od dp po : Nat → Int32} (B : qr_B n i d od dp po) {p r : Nat} (hp : p < n) (hr : r < n) : po (i r) = nI (i p) ↔ qt_ch n d p r = true := by
  obtain ⟨⟨n0, n1⟩, hi, hi0, inj, D, hd, po0, hpo⟩ := B
  by_cases e : r = 0
  · subst e
    rw [hi0, po0]
    constructor
    · intro h
      have h1 : (nI (i p)).toInt = -1 := by rw [← h]; decide
      rw [nI_toInt (by have := (hi p hp).2; omega)] at h1; omega
    · intro h; have := of_decide_eq_true h; omega
  · rw [hpo r (by omega) hr]
    have hq := qt_pr_lt D (by omega) hr
    rw [nI_eq (by have := (hi _ (show qt_pr d r < n by omega)).2; omega) (by have := (hi p hp).2; omega)]
    constructor
    · intro h
      have h1 := inj _ _ (by omega) hp h
      have h2 := qt_pr_spec D (by omega) hr
      rw [h1, qt_child D hp hr] at h2
      exact decide_eq_true (by omega)
    · intro h
      have h1 := of_decide_eq_true h
      rw [qt_pr_eq ((qt_child D hp hr).mpr (by omega))]
section
variable {xlim : Int32} {xn : Int32} {xpc : Int32} {xlv : Int32} {xop : Int32} {xql : Int32} {xrc : Int32} {xrt : Int64} {xod : (Nat → Int32)} {xpo : (Nat → Int32)} {xnm : (Nat → Int32)} {xvl : (Nat → Int32)} {xmv : (Nat → Int32)} {xrk : (Nat → Int32)} {xpt : (Nat → Int32)} {xsz : (Nat → Int32)} {xpd : (Nat → Int32)} {xpa : (Nat → Int32)} {xct : (Nat → Int32)} {xqu : (Nat → Int32)} {xco : (Nat → Int32)} {xse : (Nat → Int32)} {xpe : (Nat → Int32)} {xgv : (Nat → Int64)} {xan : (Nat → Int64)} {xal : (Nat → Int64)} {xng : (Nat → Int32)} {xrs : (Nat → Int32)}
theorem qx_nd_hit {j r : Nat} {post : Int32 → Prop} (hj : j < 40) (h : xrk j = nI r) (hr : r < 40) (hp : post 1) : wpX_isNode post (xlim, xn, xpc, xlv, xop, xql, xrc, xrt, xod, xpo, xnm, xvl, xmv, xrk, xpt, xsz, xpd, xpa, xct, xqu, xco, xse, xpe, xgv, xan, xal, xng, xrs) (nI j) := by
  refine br_f (nI_pos (by omega)) (br_f (nI_ge (b := 40) (by omega) (by omega)) ⟨vp_in_nI (by omega) (by omega), br_f ?_ hp⟩)
  rw [nI_clamp (by omega), h]
  intro e
  have h1 : (nI r).toInt = -1 := by rw [e]; decide
  rw [nI_toInt (by omega)] at h1; omega
theorem qx_nd_miss {v : Int32} {post : Int32 → Prop} (h : ∀ j, j < 40 → v = nI j → xrk j = -1) (hp : post 0) : wpX_isNode post (xlim, xn, xpc, xlv, xop, xql, xrc, xrt, xod, xpo, xnm, xvl, xmv, xrk, xpt, xsz, xpd, xpa, xct, xqu, xco, xse, xpe, xgv, xan, xal, xng, xrs) v := by
  rcases pk_ix v (n := 40) (by omega) with g | g | ⟨j, hj, rfl⟩
  · exact br_t g hp
  · refine br_c (fun _ => hp) (fun _ => br_t g hp)
  · refine br_f (nI_pos (by omega)) (br_f (nI_ge (b := 40) (by omega) (by omega)) ⟨vp_in_nI (by omega) (by omega), br_t ?_ hp⟩)
    rw [nI_clamp (by omega)]; exact h j hj rfl
theorem qx_nm {v : Int32} {post : Int32 → Prop} (h : (∃ m, m < 8 ∧ v = nI m) → post 1) (h0 : (¬ ∃ m, m < 8 ∧ v = nI m) → post 0) : wpX_isName post (xlim, xn, xpc, xlv, xop, xql, xrc, xrt, xod, xpo, xnm, xvl, xmv, xrk, xpt, xsz, xpd, xpa, xct, xqu, xco, xse, xpe, xgv, xan, xal, xng, xrs) v := by
  rcases pk_ix v (n := 8) (by omega) with g | g | ⟨j, hj, rfl⟩
  · refine br_t g (h0 ?_)
    rintro ⟨m, hm, rfl⟩; exact nI_pos (by omega) g
  · refine br_c (fun g2 => h0 ?_) (fun _ => br_t g (h0 ?_))
    · rintro ⟨m, hm, rfl⟩; exact nI_pos (by omega) g2
    · rintro ⟨m, hm, rfl⟩; exact nI_ge hm (by omega) g
  · exact br_f (nI_pos (by omega)) (br_f (nI_ge (b := 8) hj (by omega)) (h ⟨j, hj, rfl⟩))
variable {n : Nat} {i d : Nat → Nat} {dp : Nat → Int32}
theorem qx_cc {p : Nat} {post : Int32 → Prop} (B : qr_B n i d xod dp xpo) (hp : p < n) (h : post (nI (qt_cn (qt_ch n d p) n))) : wpX_childCount post (xlim, nI n, xpc, xlv, xop, xql, xrc, xrt, xod, xpo, xnm, xvl, xmv, xrk, xpt, xsz, xpd, xpa, xct, xqu, xco, xse, xpe, xgv, xan, xal, xng, xrs) (nI (i p)) := by
  have hn := B.1.2
  have hi := B.2.1
  have key : ∀ k q, q + k = n → wX_childCount_4 post (nI (i p)) xlim (nI n) xpc xlv xop xql xrc xrt xod xpo xnm xvl xmv xrk xpt xsz xpd xpa xct xqu xco xse xpe xgv xan xal xng xrs (k + 1) (nI (qt_cn (qt_ch n d p) q)) (nI q) := by
    intro k
    induction k with
    | zero =>
      intro q e
      have e : q = n := by omega
      subst e
      exact br_t (nI_le (by omega) (by omega)) h
    | succ k ih =>
      intro q e
      have c := ih (q + 1) (by omega)
      simp only [qt_cn] at c
      have hq := hi q (by omega)
      have e1 : xod (nI q).toNatClampNeg = nI (i q) := by rw [nI_clamp (by omega)]; exact hq.1
      refine br_f (nI_ge (by omega) (by omega)) ⟨vp_in_nI (by omega) (by omega), by rw [e1]; exact vp_in_nI hq.2 (by omega), ?_⟩
      rw [e1, nI_clamp (by omega)]
      refine br_c (fun z => ?_) (fun z => ?_)
      · rw [(qr_ch B hp (by omega)).mp z] at c; exact nm_r (nI_1 _) (nm_r (nI_1 q) c)
      · rw [show qt_ch n d p q = false from by rw [← Bool.not_eq_true]; exact fun g => z ((qr_ch B hp (by omega)).mpr g)] at c
        exact nm_r (nI_1 q) c
  exact Exists.intro _ (key n 0 (by omega))
theorem qx_sp {p m : Nat} {post : Int32 → Prop} (B : qr_B n i d xod dp xpo) (N : qr_N n i d xrk xpt xsz) (hp : p < n) (hm : m < 2 ^ 31) (h : ∀ s, qt_Spot n d p m s → post (nI s)) : wpX_spotFor post (xlim, nI n, xpc, xlv, xop, xql, xrc, xrt, xod, xpo, xnm, xvl, xmv, xrk, xpt, xsz, xpd, xpa, xct, xqu, xco, xse, xpe, xgv, xan, xal, xng, xrs) (nI (i p)) (nI m) := by
  have hn := B.1.2
  have hi := B.2.1
  have he := qt_en_spec (n := n) (d := d) hp
  have he1 := he.1
  have he2 := he.2.1
  have key : ∀ k q, q + k = n → (∀ r, r < q → qt_ch n d p r = true → qt_cn (qt_ch n d p) r ≠ m) → wX_spotFor_5 post (nI (i p)) (nI m) xlim (nI n) xpc xlv xop xql xrc xrt xod xpo xnm xvl xmv xrk xpt xsz xpd xpa xct xqu xco xse xpe xgv xan xal xng xrs (k + 1) (nI (qt_cn (qt_ch n d p) q)) (nI q) := by
    intro k
    induction k with
    | zero =>
      intro q e hq
      have e : q = n := by omega
      subst e
      have ip := (hi p hp).2
      have e1 : xrk (nI (i p)).toNatClampNeg = nI p := by rw [nI_clamp (by omega)]; exact N.1 p hp
      refine br_t (nI_le (by omega) (by omega)) ⟨vp_in_nI ip (by omega), vp_in_nI ip (by omega), by rw [e1]; exact vp_in_nI (by omega) (by omega), ?_⟩
      rw [e1, nI_clamp (by omega), N.2.2.2.2 p hp, nI_add, show p + (qt_en q d p - p) = qt_en q d p by omega]
      exact h _ (Or.inr ⟨rfl, hq⟩)
    | succ k ih =>
      intro q e hq
      have c := ih (q + 1) (by omega)
      simp only [qt_cn] at c
      have hl := qt_cn_le (qt_ch n d p) q
      have hiq := hi q (by omega)
      have e1 : xod (nI q).toNatClampNeg = nI (i q) := by rw [nI_clamp (by omega)]; exact hiq.1
      refine br_f (nI_ge (by omega) (by omega)) ⟨vp_in_nI (by omega) (by omega), by rw [e1]; exact vp_in_nI hiq.2 (by omega), ?_⟩
      rw [e1, nI_clamp (by omega)]
      refine br_c (fun z => ?_) (fun z => ?_)
      · have z := (qr_ch B hp (by omega)).mp z
        refine pk_eq (qt_cn (qt_ch n d p) q) m (fun g => ?_) (fun g => ?_)
        · exact h q (Or.inl ⟨by omega, z, g⟩)
        · rw [z] at c
          refine nm_r (nI_1 _) (nm_r (nI_1 q) (c (fun r hr hc => ?_)))
          by_cases g' : r = q
          · subst g'; exact g
          · exact hq r (by omega) hc
      · have z : qt_ch n d p q = false := by rw [← Bool.not_eq_true]; exact fun g => z ((qr_ch B hp (by omega)).mpr g)
        rw [z] at c
        refine nm_r (nI_1 q) (c (fun r hr hc => ?_))
        by_cases g : r = q
        · subst g; rw [z] at hc; exact absurd hc (by decide)
        · exact hq r (by omega) hc
  exact Exists.intro _ (key n 0 (by omega) (fun r hr => by omega))
theorem qx_lf {j : Nat} {post : Int32 → Prop} (N : qr_N n i d xrk xpt xsz) (hn : n ≤ 40) (hj : qt_LF n i j) (h : post (nI j)) : wpX_leastFreeId post (xlim, nI n, xpc, xlv, xop, xql, xrc, xrt, xod, xpo, xnm, xvl, xmv, xrk, xpt, xsz, xpd, xpa, xct, xqu, xco, xse, xpe, xgv, xan, xal, xng, xrs) := by
  obtain ⟨j1, j2, j3⟩ := hj
  have fr : ∀ x, x < 40 → (xrk x = -1 ↔ ∀ r, r < n → i r ≠ x) := by
    intro x hx
    constructor
    · intro e r hr g
      subst g
      rw [N.1 r hr] at e
      have h1 : (nI r).toInt = -1 := by rw [e]; decide
      rw [nI_toInt (by omega)] at h1; omega
    · intro g; exact N.2.1 x hx g
  have low : ∀ x, x < j → wX_leastFreeId_5 post xlim (nI n) xpc xlv xop xql xrc xrt xod xpo xnm xvl xmv xrk xpt xsz xpd xpa xct xqu xco xse xpe xgv xan xal xng xrs (x + 1 + 1) (nI j) (nI x) := by
    intro x
    induction x with
    | zero =>
      intro hx
      refine br_f (nI_pos (by omega)) ⟨vp_in_nI (by omega) (by omega), br_f ?_ (nm_r (show nI 0 + (-1) = -1 by decide) (br_t (by decide) h))⟩
      rw [nI_clamp (by omega), fr 0 (by omega)]
      obtain ⟨r, hr, e⟩ := j3 0 hx
      exact fun g => g r hr e
    | succ x ih =>
      intro hx
      refine br_f (nI_pos (by omega)) ⟨vp_in_nI (by omega) (by omega), br_f ?_ (nm_r (pk_m1 x) (ih (by omega)))⟩
      rw [nI_clamp (by omega), fr (x + 1) (by omega)]
      obtain ⟨r, hr, e⟩ := j3 (x + 1) hx
      exact fun g => g r hr e
  have att : ∀ z, wX_leastFreeId_5 post xlim (nI n) xpc xlv xop xql xrc xrt xod xpo xnm xvl xmv xrk xpt xsz xpd xpa xct xqu xco xse xpe xgv xan xal xng xrs (j + 1 + 1) z (nI j) := by
    intro z
    refine br_f (nI_pos (by omega)) ⟨vp_in_nI (by omega) (by omega), br_t ?_ ?_⟩
    · rw [nI_clamp (by omega), fr j j1]; exact j2
    · cases j with
      | zero => exact nm_r (show nI 0 + (-1) = -1 by decide) (br_t (by decide) h)
      | succ j => exact nm_r (pk_m1 j) (low j (by omega))
  have high : ∀ k z, j + k < 40 → wX_leastFreeId_5 post xlim (nI n) xpc xlv xop xql xrc xrt xod xpo xnm xvl xmv xrk xpt xsz xpd xpa xct xqu xco xse xpe xgv xan xal xng xrs (j + k + 1 + 1) z (nI (j + k)) := by
    intro k
    induction k with
    | zero => intro z _; exact att z
    | succ k ih =>
      intro z hk
      refine br_f (nI_pos (by omega)) ⟨vp_in_nI (by omega) (by omega), br_c (fun _ => ?_) (fun _ => ?_)⟩
      · exact nm_r (pk_m1 (j + k)) (ih _ (by omega))
      · exact nm_r (pk_m1 (j + k)) (ih _ (by omega))
  have c := high (39 - j) 0 (by omega)
  rw [show j + (39 - j) = 39 by omega] at c
  exact Exists.intro _ c
/-! X: gaps -/
theorem qx_og {s w : Nat} {post : SX → Prop} (h0 : 0 < s) (hs : s ≤ n) (hn : 0 < n) (hw : n + w ≤ 40) (h : post (xlim, nI (n + w), xpc, xlv, xop, xql, xrc, xrt, qa_og xod s n w, xpo, xnm, xvl, xmv, xrk, xpt, xsz, xpd, xpa, xct, xqu, xco, xse, xpe, xgv, xan, xal, xng, xrs)) : wpX_openGap post (xlim, nI n, xpc, xlv, xop, xql, xrc, xrt, xod, xpo, xnm, xvl, xmv, xrk, xpt, xsz, xpd, xpa, xct, xqu, xco, xse, xpe, xgv, xan, xal, xng, xrs) (nI s) (nI w) := by
  have key1 : ∀ k r, r + 1 = s + k → r < n → wX_openGap_7 post (nI s) (nI w) xlim (nI n) xpc xlv xop xql xrc xrt (k + 1) (nI r) (qa_og xod (r + 1) n w) xpo xnm xvl xmv xrk xpt xsz xpd xpa xct xqu xco xse xpe xgv xan xal xng xrs := by
    intro k
    induction k with
    | zero =>
      intro r e hr
      have e : r + 1 = s := by omega
      refine br_t (nI_lt (by omega) (by omega)) (nm_r (nI_add n w) ?_)
      rw [e]; exact h
    | succ k ih =>
      intro r e hr
      have e1 : nI r + nI w = nI (r + w) := nI_add r w
      have i1 : vp_in (nI r + nI w) 40 := by rw [e1]; exact vp_in_nI (by omega) (by omega)
      have i2 : vp_in (nI r) 40 := vp_in_nI (by omega) (by omega)
      refine br_f (nI_nlt (by omega) (by omega)) ⟨i2, i1, fun a ea y ey => ?_⟩
      rw [e1, nI_clamp (by omega), nI_clamp (by omega), qa_og_s _ _ _ _ hr] at ea
      obtain ⟨m, rfl⟩ : ∃ m, r = m + 1 := ⟨r - 1, by omega⟩
      rw [pk_m1] at ey
      subst ea; subst ey
      exact ih m (by omega) (by omega)
  obtain ⟨m, rfl⟩ : ∃ m, n = m + 1 := ⟨n - 1, by omega⟩
  have c := key1 (m + 1 - s) m (by omega) (by omega)
  rw [qa_og_0] at c
  exact nm_r (nI_pred m) (Exists.intro _ c)
theorem qx_cg {p w : Nat} {post : SX → Prop} (hn : n ≤ 40) (hw : p + w ≤ n) (h : post (xlim, nI (n - w), xpc, xlv, xop, xql, xrc, xrt, qa_cl xod p (n - w) w, xpo, xnm, xvl, xmv, xrk, xpt, xsz, xpd, xpa, xct, xqu, xco, xse, xpe, xgv, xan, xal, xng, xrs)) : wpX_closeGap post (xlim, nI n, xpc, xlv, xop, xql, xrc, xrt, xod, xpo, xnm, xvl, xmv, xrk, xpt, xsz, xpd, xpa, xct, xqu, xco, xse, xpe, xgv, xan, xal, xng, xrs) (nI p) (nI w) := by
  have key2 : ∀ k r, r + k = n - w → p ≤ r → wX_closeGap_12 post (nI w) xlim (nI (n - w)) xpc xlv xop xql xrc xrt (k + 1) (nI r) (qa_cl xod p r w) xpo xnm xvl xmv xrk xpt xsz xpd xpa xct xqu xco xse xpe xgv xan xal xng xrs := by
    intro k
    induction k with
    | zero =>
      intro r e _
      have e : r = n - w := by omega
      subst e
      exact br_t (nI_le (by omega) (by omega)) h
    | succ k ih =>
      intro r e hr
      have e1 : nI r + nI w = nI (r + w) := nI_add r w
      have i1 : vp_in (nI r + nI w) 40 := by rw [e1]; exact vp_in_nI (by omega) (by omega)
      have i2 : vp_in (nI r) 40 := vp_in_nI (by omega) (by omega)
      refine br_f (nI_ge (by omega) (by omega)) ⟨i1, i2, fun a ea y ey => ?_⟩
      rw [e1, nI_clamp (by omega), nI_clamp (by omega), qa_cl_s _ _ _ _ hr] at ea
      subst ea; subst ey
      rw [nI_1]
      exact ih (r + 1) (by omega) (by omega)
  have c := key2 (n - w - p) p (by omega) (by omega)
  rw [qa_cl_0] at c
  exact nm_r (pk_sub (by omega)) (Exists.intro _ c)
theorem qx_to {j p w : Nat} {post : Int32 → SX → Prop} (hn : n ≤ 40) (hw : p + w ≤ n) (hp : p < n) (hj : j < 40) (h1 : xrk j = nI p) (h2 : xsz p = nI w) (h : post (nI w) (xlim, nI (n - w), xpc, xlv, xop, xql, xrc, xrt, qa_cl xod p (n - w) w, xpo, xnm, xvl, qa_bl xmv xod p w, xrk, xpt, xsz, xpd, xpa, xct, xqu, xco, xse, xpe, xgv, xan, xal, xng, xrs)) : wpX_takeOut post (xlim, nI n, xpc, xlv, xop, xql, xrc, xrt, xod, xpo, xnm, xvl, xmv, xrk, xpt, xsz, xpd, xpa, xct, xqu, xco, xse, xpe, xgv, xan, xal, xng, xrs) (nI j) := by
  have key1 : ∀ k r, r + k = w → wX_takeOut_17 post (nI p) (nI w) xlim (nI n) xpc xlv xop xql xrc xrt (k + 1) (nI r) xod xpo xnm xvl (qa_bl xmv xod p r) xrk xpt xsz xpd xpa xct xqu xco xse xpe xgv xan xal xng xrs := by
    intro k
    induction k with
    | zero =>
      intro r e
      have e : r = w := by omega
      subst e
      exact br_t (nI_le (by omega) (by omega)) (qx_cg hn hw h)
    | succ k ih =>
      intro r e
      have e1 : nI p + nI r = nI (p + r) := nI_add p r
      have i1 : vp_in (nI p + nI r) 40 := by rw [e1]; exact vp_in_nI (by omega) (by omega)
      have i2 : vp_in (nI r) 40 := vp_in_nI (by omega) (by omega)
      refine br_f (nI_ge (by omega) (by omega)) ⟨i1, i2, fun a ea y ey => ?_⟩
      rw [e1, nI_clamp (by omega), nI_clamp (by omega), qa_bl_s] at ea
      subst ea; subst ey
      rw [nI_1]
      exact ih (r + 1) (by omega)
  have c := key1 w 0 (by omega)
  rw [qa_bl_0] at c
  refine And.intro (vp_in_nI hj (by omega)) (nm_r (e' := nI p) (by rw [nI_clamp (by omega)]; exact h1) ⟨vp_in_nI (by omega) (by omega), nm_r (e' := nI w) (by rw [nI_clamp (by omega)]; exact h2) (Exists.intro _ c)⟩)
/-! X: the shape noted -/
theorem qx_ns {post : SX → Prop} (B : qr_B n i d xod dp xpo) (h : ∀ rk pt sz, qr_N n i d rk pt sz → post (xlim, nI n, xpc, xlv, xop, xql, xrc, xrt, xod, xpo, xnm, xvl, xmv, rk, pt, sz, xpd, xpa, xct, xqu, xco, xse, xpe, xgv, xan, xal, xng, xrs)) : wpX_noteShape post (xlim, nI n, xpc, xlv, xop, xql, xrc, xrt, xod, xpo, xnm, xvl, xmv, xrk, xpt, xsz, xpd, xpa, xct, xqu, xco, xse, xpe, xgv, xan, xal, xng, xrs) := by
  obtain ⟨⟨n0, hn⟩, hi, hi0, inj, D, hd, po0, hpo⟩ := B
  have key3 : ∀ r pt sz rk, r < n → ((∀ r, r < n → rk (i r) = nI r) ∧ (∀ j, j < 40 → (∀ r, r < n → i r ≠ j) → rk j = -1)) → pt 0 = -1 → (∀ x, r < x → x < n → pt x = nI (qt_pr d x)) → (∀ q, q < n → sz q = nI (1 + qt_S n d q (n - (r + 1)))) → wX_noteShape_70 post xlim (nI n) xpc xlv xop xql xrc xrt (r + 1) (nI r) xod xpo xnm xvl xmv rk pt sz xpd xpa xct xqu xco xse xpe xgv xan xal xng xrs := by
    intro r
    induction r with
    | zero =>
      intro pt sz rk hr hrk pt0 hpt hsz
      refine br_t (by decide) (h _ _ _ ⟨hrk.1, hrk.2, pt0, fun x hx hy => hpt x hx hy, fun q hq => ?_⟩)
      have hen := (qt_en_spec (n := n) (d := d) hq).1
      rw [hsz q hq, qt_S_skip n d q (0 + 1) (q + 1) (by omega) (by omega), qt_S_size D hq]
      · rw [show 1 + (qt_en n d q - (q + 1)) = qt_en n d q - q by omega]
      · intro x hx hy g
        have := qt_pr_lt D (by omega) (show x < n by omega)
        omega
    | succ r ih =>
      intro pt sz rk hr hrk pt0 hpt hsz
      have hir := hi (r + 1) hr
      have hq := qt_pr_lt D (by omega) hr
      have hiq := hi (qt_pr d (r + 1)) (by omega)
      have e1 : xod (nI (r + 1)).toNatClampNeg = nI (i (r + 1)) := by rw [nI_clamp (by omega)]; exact hir.1
      have e2 : xpo (xod (nI (r + 1)).toNatClampNeg).toNatClampNeg = nI (i (qt_pr d (r + 1))) := by
        rw [e1, nI_clamp (by omega)]; exact hpo (r + 1) (by omega) hr
      have e3 : rk (xpo (xod (nI (r + 1)).toNatClampNeg).toNatClampNeg).toNatClampNeg = nI (qt_pr d (r + 1)) := by
        rw [e2, nI_clamp (by omega)]; exact hrk.1 _ (by omega)
      have i1 : vp_in (nI (r + 1)) 40 := vp_in_nI (by omega) (by omega)
      refine br_f (nI_nle (by omega) (by omega)) ⟨i1, by rw [e1]; exact vp_in_nI hir.2 (by omega), by rw [e2]; exact vp_in_nI hiq.2 (by omega), i1, fun a ea => ?_⟩
      rw [e3, nI_clamp (by omega)] at ea
      have e4 : a (nI (r + 1)).toNatClampNeg = nI (qt_pr d (r + 1)) := by rw [ea, nI_clamp (by omega)]; exact pk_us
      have i2 : vp_in (a (nI (r + 1)).toNatClampNeg) 40 := by rw [e4]; exact vp_in_nI (by omega) (by omega)
      refine ⟨i1, i2, i1, i2, fun b eb y ey => ?_⟩
      rw [e4, nI_clamp (by omega), nI_clamp (by omega), hsz _ (show qt_pr d (r + 1) < n by omega), hsz (r + 1) hr, nI_add, qt_S_size D hr] at eb
      rw [pk_m1] at ey
      subst ey
      have hen := (qt_en_spec (n := n) (d := d) hr).1
      refine ih a b rk (by omega) hrk ?_ ?_ ?_
      · rw [ea, pk_un (by omega)]; exact pt0
      · intro x hx hy
        by_cases g : x = r + 1
        · rw [ea, g]; exact pk_us
        · rw [ea, pk_un g]; exact hpt x (by omega) hy
      · intro q hq'
        rw [qt_S_one n d q (r + 1) hr]
        by_cases g : q = qt_pr d (r + 1)
        · rw [eb, g, pk_us, if_pos rfl]
          congr 1; omega
        · rw [eb, pk_un g, if_neg (fun z => g z.symm), hsz q hq']; rfl
  have key2 : ∀ k r rk sz, r + k = n → (∀ x, x < r → rk (i x) = nI x) → (∀ j, j < 40 → (∀ x, x < r → i x ≠ j) → rk j = -1) → (∀ x, x < r → sz x = 1) → wX_noteShape_23 post xlim (nI n) xpc xlv xop xql xrc xrt (k + 1) (nI r) xod xpo xnm xvl xmv rk xpt sz xpd xpa xct xqu xco xse xpe xgv xan xal xng xrs := by
    intro k
    induction k with
    | zero =>
      intro r rk sz e h1 h2 h3
      have e : r = n := by omega
      subst e
      refine br_t (nI_le (by omega) (by omega)) (fun a ea => ?_)
      obtain ⟨m, rfl⟩ : ∃ m, r = m + 1 := ⟨r - 1, by omega⟩
      refine nm_r (nI_pred m) (Exists.intro (m + 1) ?_)
      refine key3 m a sz rk (by omega) ⟨h1, h2⟩ (by rw [ea]; exact pk_us) (fun x hx hy => by omega) (fun q hq => ?_)
      rw [Nat.sub_self, qt_S]; exact h3 q hq
    | succ k ih =>
      intro r rk sz e h1 h2 h3
      have hir := hi r (by omega)
      have e1 : xod (nI r).toNatClampNeg = nI (i r) := by rw [nI_clamp (by omega)]; exact hir.1
      have i1 : vp_in (nI r) 40 := vp_in_nI (by omega) (by omega)
      refine br_f (nI_ge (by omega) (by omega)) ⟨i1, by rw [e1]; exact vp_in_nI hir.2 (by omega), fun a ea => ⟨i1, fun b eb y ey => ?_⟩⟩
      rw [e1, nI_clamp (by omega)] at ea
      rw [nI_clamp (by omega)] at eb
      rw [nI_1] at ey
      subst ey
      refine ih (r + 1) a b (by omega) ?_ ?_ ?_
      · intro x hx
        by_cases g : x = r
        · rw [ea, g]; exact pk_us
        · rw [ea, pk_un (fun z => g (inj _ _ (by omega) (by omega) z))]; exact h1 x (by omega)
      · intro j hj g
        rw [ea, pk_un (fun z => g r (by omega) z.symm)]; exact h2 j hj (fun x hx => g x (by omega))
      · intro x hx
        by_cases g : x = r
        · rw [eb, g]; exact pk_us
        · rw [eb, pk_un g]; exact h3 x (by omega)
  have key1 : ∀ k r rk, r + k = 40 → (∀ j, j < r → rk j = -1) → wX_noteShape_2 post xlim (nI n) xpc xlv xop xql xrc xrt (k + 1) (nI r) xod xpo xnm xvl xmv rk xpt xsz xpd xpa xct xqu xco xse xpe xgv xan xal xng xrs := by
    intro k
    induction k with
    | zero =>
      intro r rk e h1
      have e : r = 40 := by omega
      subst e
      exact br_t (by decide) (Exists.intro _ (key2 n 0 rk xsz (by omega) (fun x hx => by omega) (fun j hj _ => h1 j hj) (fun x hx => by omega)))
    | succ k ih =>
      intro r rk e h1
      refine br_f (nI_ge (b := 40) (by omega) (by omega)) ⟨vp_in_nI (by omega) (by omega), fun a ea y ey => ?_⟩
      rw [nI_clamp (by omega)] at ea
      rw [nI_1] at ey
      subst ey
      refine ih (r + 1) a (by omega) (fun j hj => ?_)
      by_cases g : j = r
      · rw [ea, g]; exact pk_us
      · rw [ea, pk_un g]; exact h1 j (by omega)
  exact Exists.intro _ (key1 40 0 xrk (by omega) (fun j hj => by omega))
end
