/-! arrays: what the shifting loops leave -/
def qa_b (b : Bool) : Int32 := if b then 1 else 0
theorem qa_b_t : qa_b true = 1 := rfl
theorem qa_b_f : qa_b false = 0 := rfl
theorem qa_b0 (b : Bool) : qa_b b = 0 ↔ b = false := by cases b <;> decide
theorem qa_bn (b : Bool) : narrow .boolean (.int (qa_b b)) = .int (qa_b b) := by cases b <;> rfl
/-- a branch on a Boolean answer -/
theorem qa_br {b : Bool} {A B : Prop} (f : b = false → A) (g : b = true → B) : (qa_b b = 0 → A) ∧ (¬ qa_b b = 0 → B) := by
  cases b
  · exact ⟨fun _ => f rfl, fun h => absurd rfl h⟩
  · exact ⟨fun h => absurd h (by decide), fun _ => g rfl⟩
def qa_cl (f : Nat → Int32) (p r w : Nat) : Nat → Int32 := fun x => if p ≤ x ∧ x < r then f (x + w) else f x
def qa_og (f : Nat → Int32) (r n w : Nat) : Nat → Int32 := fun x => if r + w ≤ x ∧ x < n + w then f (x - w) else f x
def qa_pu (f : Nat → Int32) (s : Nat) (b : Nat → Int32) (w : Nat) : Nat → Int32 := fun x => if s ≤ x ∧ x < s + w then b (x - s) else f x
def qa_bl (f g : Nat → Int32) (p w : Nat) : Nat → Int32 := fun k => if k < w then g (p + k) else f k
theorem qa_cl_0 (f : Nat → Int32) (p w : Nat) : qa_cl f p p w = f := by
  funext x; unfold qa_cl; rw [if_neg (by omega)]
theorem qa_cl_s (f : Nat → Int32) (p r w : Nat) (h : p ≤ r) : upd (qa_cl f p r w) r (qa_cl f p r w (r + w)) = qa_cl f p (r + 1) w := by
  funext x
  unfold upd qa_cl
  by_cases e : x = r
  · subst e; rw [if_pos rfl, if_neg (by omega), if_pos (by omega)]
  · rw [if_neg e]
    by_cases g : p ≤ x ∧ x < r
    · rw [if_pos g, if_pos (by omega)]
    · rw [if_neg g, if_neg (by omega)]
theorem qa_og_0 (f : Nat → Int32) (n w : Nat) : qa_og f n n w = f := by
  funext x; unfold qa_og; rw [if_neg (by omega)]
theorem qa_og_s (f : Nat → Int32) (r n w : Nat) (h : r < n) : upd (qa_og f (r + 1) n w) (r + w) (qa_og f (r + 1) n w r) = qa_og f r n w := by
  funext x
  unfold upd qa_og
  by_cases e : x = r + w
  · subst e; rw [if_pos rfl, if_neg (by omega), if_pos (by omega), Nat.add_sub_cancel]
  · rw [if_neg e]
    by_cases g : r + w ≤ x ∧ x < n + w
    · rw [if_pos g, if_pos (by omega)]
    · rw [if_neg g, if_neg (by omega)]
theorem qa_pu_0 (f : Nat → Int32) (s : Nat) (b : Nat → Int32) : qa_pu f s b 0 = f := by
  funext x; unfold qa_pu; rw [if_neg (by omega)]
theorem qa_pu_s (f : Nat → Int32) (s : Nat) (b : Nat → Int32) (k : Nat) : upd (qa_pu f s b k) (s + k) (b k) = qa_pu f s b (k + 1) := by
  funext x
  unfold upd qa_pu
  by_cases e : x = s + k
  · subst e; rw [if_pos rfl, if_pos (by omega), Nat.add_sub_cancel_left]
  · rw [if_neg e]
    by_cases g : s ≤ x ∧ x < s + k
    · rw [if_pos g, if_pos (by omega)]
    · rw [if_neg g, if_neg (by omega)]
theorem qa_bl_0 (f g : Nat → Int32) (p : Nat) : qa_bl f g p 0 = f := by
  funext x; unfold qa_bl; rw [if_neg (by omega)]
theorem qa_bl_s (f g : Nat → Int32) (p k : Nat) : upd (qa_bl f g p k) k (g (p + k)) = qa_bl f g p (k + 1) := by
  funext x
  unfold upd qa_bl
  by_cases e : x = k
  · subst e; rw [if_pos rfl, if_pos (by omega)]
  · rw [if_neg e]
    by_cases g : x < k
    · rw [if_pos g, if_pos (by omega)]
    · rw [if_neg g, if_neg (by omega)]
section
variable {ymo : Int32} {yn : Int32} {yw : Int32} {yle : Int32} {yfo : Int32} {yli : Int32} {yat : Int32} {ysu : Int64} {yid : (Nat → Int32)} {ydp : (Nat → Int32)} {ynm : (Nat → Int32)} {yvl : (Nat → Int32)} {yci : (Nat → Int32)} {ycd : (Nat → Int32)} {ypd : (Nat → Int32)} {yqu : (Nat → Int32)} {ygv : (Nat → Int64)} {yls : (Nat → Int32)} {yrs : (Nat → Int32)} {yor : (Nat → Int32)} {yan : (Nat → Int32)} {yno : (Nat → Int32)} {yow : (Nat → Int32)} {ypa : (Nat → Int32)}
/-! Y: the place of an id -/
theorem qy_pl_hit {n r : Nat} {v : Int32} {post : Int32 → Prop} (hn : n ≤ 40) (hr : r < n) (h : yid r = v) (hx : ∀ x, x < r → yid x ≠ v) (hp : post (nI r)) : wpY_placeOf post (ymo, nI n, yw, yle, yfo, yli, yat, ysu, yid, ydp, ynm, yvl, yci, ycd, ypd, yqu, ygv, yls, yrs, yor, yan, yno, yow, ypa) v := by
  have key : ∀ k x, x + k = r → wY_placeOf_2 post v ymo (nI n) yw yle yfo yli yat ysu yid ydp ynm yvl yci ycd ypd yqu ygv yls yrs yor yan yno yow ypa (k + 1) (nI x) := by
    intro k
    induction k with
    | zero =>
      intro x e
      have e : x = r := by omega
      subst e
      refine br_f (nI_ge (by omega) (by omega)) ⟨vp_in_nI (by omega) (by omega), br_t ?_ hp⟩
      rw [nI_clamp (by omega)]; exact h
    | succ k ih =>
      intro x e
      refine br_f (nI_ge (by omega) (by omega)) ⟨vp_in_nI (by omega) (by omega), br_f ?_ (nm_r (nI_1 x) (ih (x + 1) (by omega)))⟩
      rw [nI_clamp (by omega)]; exact hx x (by omega)
  exact Exists.intro _ (key r 0 (by omega))
theorem qy_pl_miss {n : Nat} {v : Int32} {post : Int32 → Prop} (hn : n ≤ 40) (hx : ∀ x, x < n → yid x ≠ v) (hp : post (-1)) : wpY_placeOf post (ymo, nI n, yw, yle, yfo, yli, yat, ysu, yid, ydp, ynm, yvl, yci, ycd, ypd, yqu, ygv, yls, yrs, yor, yan, yno, yow, ypa) v := by
  have key : ∀ k x, x + k = n → wY_placeOf_2 post v ymo (nI n) yw yle yfo yli yat ysu yid ydp ynm yvl yci ycd ypd yqu ygv yls yrs yor yan yno yow ypa (k + 1) (nI x) := by
    intro k
    induction k with
    | zero => intro x e; exact br_t (nI_le (by omega) (by omega)) hp
    | succ k ih =>
      intro x e
      refine br_f (nI_ge (by omega) (by omega)) ⟨vp_in_nI (by omega) (by omega), br_f ?_ (nm_r (nI_1 x) (ih (x + 1) (by omega)))⟩
      rw [nI_clamp (by omega)]; exact hx x (by omega)
  exact Exists.intro _ (key n 0 (by omega))
/-! Y: the place behind a subtree, above, the parent's place, children -/
def qt_ab (n : Nat) (d : Nat → Nat) (p q : Nat) : Bool := decide (p < q ∧ q < qt_en n d p)
def qt_ch (n : Nat) (d : Nat → Nat) (p q : Nat) : Bool := decide (d q = d p + 1 ∧ p < q ∧ q < qt_en n d p)
theorem qy_bh {n p : Nat} {d : Nat → Nat} {post : Int32 → Prop} (hn : n ≤ 40) (hp : p < n) (hd : ∀ r, r < n → ydp r = nI (d r) ∧ d r < 40) (h : post (nI (qt_en n d p))) : wpY_behind post (ymo, nI n, yw, yle, yfo, yli, yat, ysu, yid, ydp, ynm, yvl, yci, ycd, ypd, yqu, ygv, yls, yrs, yor, yan, yno, yow, ypa) (nI p) := by
  have key : ∀ k q, q + k = n → post (nI (qt_E d (d p) k q)) → wY_behind_4 post (nI p) ymo (nI n) yw yle yfo yli yat ysu yid ydp ynm yvl yci ycd ypd yqu ygv yls yrs yor yan yno yow ypa (k + 1) (nI q) := by
    intro k
    induction k with
    | zero => intro q e hq; exact br_t (nI_le (by omega) (by omega)) hq
    | succ k ih =>
      intro q e hq
      refine br_f (nI_ge (by omega) (by omega)) ⟨vp_in_nI (by omega) (by omega), vp_in_nI (by omega) (by omega), ?_⟩
      rw [nI_clamp (by omega), nI_clamp (by omega), (hd q (by omega)).1, (hd p hp).1]
      simp only [qt_E] at hq
      refine pk_le (d q) (d p) (fun g => ?_) (fun g => ?_) rfl rfl (by have := (hd q (by omega)).2; omega) (by have := (hd p hp).2; omega)
      · rw [if_pos g] at hq; exact hq
      · rw [if_neg (by omega)] at hq; exact nm_r (nI_1 q) (ih (q + 1) (by omega) hq)
  refine nm_r (nI_1 p) (Exists.intro _ (key (n - (p + 1)) (p + 1) (by omega) h))
theorem qy_ab {n p q : Nat} {d : Nat → Nat} {post : Int32 → Prop} (hn : n ≤ 40) (hp : p < n) (hq : q < n) (hd : ∀ r, r < n → ydp r = nI (d r) ∧ d r < 40) (h : post (qa_b (qt_ab n d p q))) : wpY_above post (ymo, nI n, yw, yle, yfo, yli, yat, ysu, yid, ydp, ynm, yvl, yci, ycd, ypd, yqu, ygv, yls, yrs, yor, yan, yno, yow, ypa) (nI p) (nI q) := by
  have he := qt_en_spec (n := n) (d := d) hp
  have he2 := he.2.1
  refine qy_bh hn hp hd ?_
  refine pk_le q p (fun g => ?_) (fun g => ?_)
  · have e : qt_ab n d p q = false := decide_eq_false (by omega)
    rw [e] at h; exact h
  · refine pk_le (qt_en n d p) q (fun g2 => ?_) (fun g2 => ?_)
    · have e : qt_ab n d p q = false := decide_eq_false (by omega)
      rw [e] at h; exact h
    · have e : qt_ab n d p q = true := decide_eq_true (by omega)
      rw [e] at h; exact h
theorem qy_pp {n p : Nat} {d : Nat → Nat} {post : Int32 → Prop} (hn : n ≤ 40) (D : qt_D n d) (h0 : 0 < p) (hp : p < n) (hd : ∀ r, r < n → ydp r = nI (d r) ∧ d r < 40) (h : post (nI (qt_pr d p))) : wpY_parentPlace post (ymo, nI n, yw, yle, yfo, yli, yat, ysu, yid, ydp, ynm, yvl, yci, ycd, ypd, yqu, ygv, yls, yrs, yor, yan, yno, yow, ypa) (nI p) := by
  have key : ∀ q, q < n → post (nI (qt_P d (d p) q)) → wY_parentPlace_4 post (nI p) ymo (nI n) yw yle yfo yli yat ysu yid ydp ynm yvl yci ycd ypd yqu ygv yls yrs yor yan yno yow ypa (q + 1) (nI q) := by
    intro q
    induction q with
    | zero =>
      intro _ hq
      refine br_f (nI_pos (by omega)) ⟨vp_in_nI (by omega) (by omega), vp_in_nI (by omega) (by omega), ?_⟩
      rw [nI_clamp (by omega), nI_clamp (by omega), (hd 0 (by omega)).1, (hd p hp).1]
      refine br_t (nI_lt ?_ ?_) hq
      · have := (D.2 p h0 hp).1; have := D.1; omega
      · have := (hd p hp).2; omega
    | succ q ih =>
      intro hq2 hq
      refine br_f (nI_pos (by omega)) ⟨vp_in_nI (by omega) (by omega), vp_in_nI (by omega) (by omega), ?_⟩
      rw [nI_clamp (by omega), nI_clamp (by omega), (hd (q + 1) (by omega)).1, (hd p hp).1]
      simp only [qt_P] at hq
      refine pk_lt (d (q + 1)) (d p) (fun g => ?_) (fun g => ?_) rfl rfl (by have := (hd (q + 1) (by omega)).2; omega) (by have := (hd p hp).2; omega)
      · rw [if_pos g] at hq; exact hq
      · rw [if_neg (by omega)] at hq; exact nm_r (pk_m1 q) (ih (by omega) hq)
  obtain ⟨m, rfl⟩ : ∃ m, p = m + 1 := ⟨p - 1, by omega⟩
  exact nm_r (nI_pred m) (Exists.intro _ (key m (by omega) h))
theorem qy_pp0 {n : Nat} {post : Int32 → Prop} (h : post (-1)) : wpY_parentPlace post (ymo, nI n, yw, yle, yfo, yli, yat, ysu, yid, ydp, ynm, yvl, yci, ycd, ypd, yqu, ygv, yls, yrs, yor, yan, yno, yow, ypa) (nI 0) := by
  refine nm_r (show nI 0 - 1 = -1 from by decide) (Exists.intro 1 (br_t (by decide) h))
theorem qy_ch {n p q : Nat} {d : Nat → Nat} {post : Int32 → Prop} (hn : n ≤ 40) (hp : p < n) (hq : q < n) (hd : ∀ r, r < n → ydp r = nI (d r) ∧ d r < 40) (h : post (qa_b (qt_ch n d p q))) : wpY_isChild post (ymo, nI n, yw, yle, yfo, yli, yat, ysu, yid, ydp, ynm, yvl, yci, ycd, ypd, yqu, ygv, yls, yrs, yor, yan, yno, yow, ypa) (nI p) (nI q) := by
  refine And.intro (vp_in_nI (by omega) (by omega)) ⟨vp_in_nI (by omega) (by omega), ?_⟩
  rw [nI_clamp (by omega), nI_clamp (by omega), (hd q hq).1, (hd p hp).1, nI_1]
  have b1 := (hd q hq).2
  have b2 := (hd p hp).2
  refine pk_eq (d q) (d p + 1) (fun g => ?_) (fun g => ?_)
  · refine qy_ab hn hp hq hd (qa_br (fun e => ?_) (fun e => ?_))
    · have e1 := of_decide_eq_false e
      have e2 : qt_ch n d p q = false := decide_eq_false (by omega)
      rw [e2] at h; exact h
    · have e1 := of_decide_eq_true e
      have e2 : qt_ch n d p q = true := decide_eq_true (by omega)
      rw [e2] at h; exact h
  · have e2 : qt_ch n d p q = false := decide_eq_false (by omega)
    rw [e2] at h; exact h
theorem qy_cc {n p : Nat} {d : Nat → Nat} {post : Int32 → Prop} (hn : n ≤ 40) (hp : p < n) (hd : ∀ r, r < n → ydp r = nI (d r) ∧ d r < 40) (h : post (nI (qt_cn (qt_ch n d p) n))) : wpY_children post (ymo, nI n, yw, yle, yfo, yli, yat, ysu, yid, ydp, ynm, yvl, yci, ycd, ypd, yqu, ygv, yls, yrs, yor, yan, yno, yow, ypa) (nI p) := by
  have key : ∀ k q, q + k = n → wY_children_6 post (nI p) ymo (nI n) yw yle yfo yli yat ysu yid ydp ynm yvl yci ycd ypd yqu ygv yls yrs yor yan yno yow ypa (k + 1) (nI (qt_cn (qt_ch n d p) q)) (nI q) := by
    intro k
    induction k with
    | zero =>
      intro q e
      have e : q = n := by omega
      subst e
      exact br_t (nI_le (by omega) (by omega)) h
    | succ k ih =>
      intro q e
      have c := ih (q + 1) (by omega)
      simp only [qt_cn] at c
      refine br_f (nI_ge (by omega) (by omega)) (qy_ch hn hp (by omega) hd (qa_br (fun z => ?_) (fun z => ?_)))
      · rw [z] at c; exact nm_r (nI_1 q) c
      · rw [z] at c; exact nm_r (nI_1 _) (nm_r (nI_1 q) c)
  refine nm_r (nI_1 p) (Exists.intro (n - (p + 1) + 1) ?_)
  have c := key (n - (p + 1)) (p + 1) (by omega)
  rw [qt_cn_0 (qt_ch n d p) (p + 1) (fun x hx => decide_eq_false (by omega))] at c
  exact c
/-- the place of child number k, or the place behind the subtree -/
def qt_Spot (n : Nat) (d : Nat → Nat) (p k s : Nat) : Prop := (s < n ∧ qt_ch n d p s = true ∧ qt_cn (qt_ch n d p) s = k) ∨ (s = qt_en n d p ∧ ∀ r, r < n → qt_ch n d p r = true → qt_cn (qt_ch n d p) r ≠ k)
theorem qt_Spot_uniq {n : Nat} {d : Nat → Nat} {p k s s' : Nat} (h : qt_Spot n d p k s) (h' : qt_Spot n d p k s') : s = s' := by
  rcases h with ⟨a1, a2, a3⟩ | ⟨a1, a2⟩ <;> rcases h' with ⟨b1, b2, b3⟩ | ⟨b1, b2⟩
  · exact qt_cn_inj a2 b2 (by omega)
  · exact absurd a3 (b2 s a1 a2)
  · exact absurd b3 (a2 s' b1 b2)
  · omega
theorem qt_Spot_Sp {n : Nat} {d : Nat → Nat} {p k s : Nat} (hp : p < n) (h : qt_Spot n d p k s) : qt_Sp n d p s := by
  obtain ⟨e1, e2, e3, e4⟩ := qt_en_spec (n := n) (d := d) hp
  rcases h with ⟨a1, a2, a3⟩ | ⟨a1, a2⟩
  · have := of_decide_eq_true a2; exact ⟨by omega, by omega, fun _ => by omega⟩
  · subst a1; exact ⟨e1, Nat.le_refl _, fun h => by omega⟩
theorem qy_cp {n p m : Nat} {d : Nat → Nat} {post : Int32 → Prop} (hn : n ≤ 40) (hp : p < n) (hm : m < 2 ^ 31) (hd : ∀ r, r < n → ydp r = nI (d r) ∧ d r < 40) (h : ∀ s, qt_Spot n d p m s → post (nI s)) : wpY_childPlace post (ymo, nI n, yw, yle, yfo, yli, yat, ysu, yid, ydp, ynm, yvl, yci, ycd, ypd, yqu, ygv, yls, yrs, yor, yan, yno, yow, ypa) (nI p) (nI m) := by
  have key : ∀ k q, q + k = n → (∀ r, r < q → qt_ch n d p r = true → qt_cn (qt_ch n d p) r ≠ m) → wY_childPlace_7 post (nI p) (nI m) ymo (nI n) yw yle yfo yli yat ysu yid ydp ynm yvl yci ycd ypd yqu ygv yls yrs yor yan yno yow ypa (k + 1) (nI (qt_cn (qt_ch n d p) q)) (nI q) := by
    intro k
    induction k with
    | zero =>
      intro q e hq
      have e : q = n := by omega
      subst e
      exact br_t (nI_le (by omega) (by omega)) (qy_bh hn hp hd (h _ (Or.inr ⟨rfl, hq⟩)))
    | succ k ih =>
      intro q e hq
      have c := ih (q + 1) (by omega)
      simp only [qt_cn] at c
      have hl := qt_cn_le (qt_ch n d p) q
      refine br_f (nI_ge (by omega) (by omega)) (qy_ch hn hp (by omega) hd (qa_br (fun z => ?_) (fun z => ?_)))
      · rw [z] at c
        refine nm_r (nI_1 q) (c (fun r hr hc => ?_))
        by_cases g : r = q
        · subst g; rw [z] at hc; exact absurd hc (by decide)
        · exact hq r (by omega) hc
      · refine pk_eq (qt_cn (qt_ch n d p) q) m (fun g => ?_) (fun g => ?_)
        · exact h q (Or.inl ⟨by omega, z, g⟩)
        · rw [z] at c
          refine nm_r (nI_1 _) (nm_r (nI_1 q) (c (fun r hr hc => ?_)))
          by_cases g' : r = q
          · subst g'; exact g
          · exact hq r (by omega) hc
  refine nm_r (nI_1 p) (Exists.intro (n - (p + 1) + 1) ?_)
  have c := key (n - (p + 1)) (p + 1) (by omega) (fun r hr hc => by have := of_decide_eq_true hc; omega)
  rw [qt_cn_0 (qt_ch n d p) (p + 1) (fun x hx => decide_eq_false (by omega))] at c
  exact c
/-! Y: cut and paste -/
theorem qy_cut {n p w : Nat} {post : SY → Prop} (hn : n ≤ 40) (hw : p + w ≤ n) (h : post (ymo, nI (n - w), yw, yle, yfo, yli, yat, ysu, qa_cl yid p (n - w) w, qa_cl ydp p (n - w) w, ynm, yvl, qa_bl yci yid p w, qa_bl ycd ydp p w, ypd, yqu, ygv, yls, yrs, yor, yan, yno, yow, ypa)) : wpY_cut post (ymo, nI n, yw, yle, yfo, yli, yat, ysu, yid, ydp, ynm, yvl, yci, ycd, ypd, yqu, ygv, yls, yrs, yor, yan, yno, yow, ypa) (nI p) (nI w) := by
  have key2 : ∀ k r, r + k = n - w → p ≤ r → wY_cut_53 post (nI w) ymo (nI (n - w)) yw yle yfo yli yat ysu (k + 1) (nI r) (qa_cl yid p r w) (qa_cl ydp p r w) ynm yvl (qa_bl yci yid p w) (qa_bl ycd ydp p w) ypd yqu ygv yls yrs yor yan yno yow ypa := by
    intro k
    induction k with
    | zero =>
      intro r e _
      have e : r = n - w := by omega
      subst e
      exact br_t (nI_le (by omega) (by omega)) h
    | succ k ih =>
      intro r e hr
      have e1 : nI r + nI w = nI (r + w) := nI_add r w
      have i1 : vp_in (nI r + nI w) 41 := by rw [e1]; exact vp_in_nI (by omega) (by omega)
      have i2 : vp_in (nI r) 41 := vp_in_nI (by omega) (by omega)
      refine br_f (nI_ge (by omega) (by omega)) ⟨i1, i2, fun a ea => ⟨i1, i2, fun b eb y ey => ?_⟩⟩
      rw [e1, nI_clamp (by omega), nI_clamp (by omega), qa_cl_s _ _ _ _ hr] at ea eb
      subst ea; subst eb; subst ey
      rw [nI_1]
      exact ih (r + 1) (by omega) (by omega)
  have key1 : ∀ k r, r + k = w → wY_cut_2 post (nI p) (nI w) ymo (nI n) yw yle yfo yli yat ysu (k + 1) (nI r) yid ydp ynm yvl (qa_bl yci yid p r) (qa_bl ycd ydp p r) ypd yqu ygv yls yrs yor yan yno yow ypa := by
    intro k
    induction k with
    | zero =>
      intro r e
      have e : r = w := by omega
      subst e
      refine br_t (nI_le (by omega) (by omega)) (nm_r (pk_sub (by omega)) (Exists.intro (n - r - p + 1) ?_))
      have c := key2 (n - r - p) p (by omega) (by omega)
      rw [qa_cl_0, qa_cl_0] at c
      exact c
    | succ k ih =>
      intro r e
      have e1 : nI p + nI r = nI (p + r) := nI_add p r
      have i1 : vp_in (nI p + nI r) 41 := by rw [e1]; exact vp_in_nI (by omega) (by omega)
      have i2 : vp_in (nI r) 40 := vp_in_nI (by omega) (by omega)
      refine br_f (nI_ge (by omega) (by omega)) ⟨i1, i2, fun a ea => ⟨i1, i2, fun b eb y ey => ?_⟩⟩
      rw [e1, nI_clamp (by omega), nI_clamp (by omega), qa_bl_s] at ea eb
      subst ea; subst eb; subst ey
      rw [nI_1]
      exact ih (r + 1) (by omega)
  have c := key1 w 0 (by omega)
  rw [qa_bl_0, qa_bl_0] at c
  exact Exists.intro _ c
theorem qy_paste {n s w : Nat} {dl : Int32} {post : SY → Prop} (h0 : 0 < s) (hs : s ≤ n) (hn : 0 < n) (hw : n + w ≤ 40) (h : post (ymo, nI (n + w), yw, yle, yfo, yli, yat, ysu, qa_pu (qa_og yid s n w) s yci w, qa_pu (qa_og ydp s n w) s (fun k => ycd k + dl) w, ynm, yvl, yci, ycd, ypd, yqu, ygv, yls, yrs, yor, yan, yno, yow, ypa)) : wpY_paste post (ymo, nI n, yw, yle, yfo, yli, yat, ysu, yid, ydp, ynm, yvl, yci, ycd, ypd, yqu, ygv, yls, yrs, yor, yan, yno, yow, ypa) (nI s) (nI w) dl := by
  have key2 : ∀ k r, r + k = w → wY_paste_65 post (nI s) (nI w) dl ymo (nI (n + w)) yw yle yfo yli yat ysu (k + 1) (nI r) (qa_pu (qa_og yid s n w) s yci r) (qa_pu (qa_og ydp s n w) s (fun k => ycd k + dl) r) ynm yvl yci ycd ypd yqu ygv yls yrs yor yan yno yow ypa := by
    intro k
    induction k with
    | zero =>
      intro r e
      have e : r = w := by omega
      subst e
      exact br_t (nI_le (by omega) (by omega)) h
    | succ k ih =>
      intro r e
      have e1 : nI s + nI r = nI (s + r) := nI_add s r
      have i1 : vp_in (nI s + nI r) 41 := by rw [e1]; exact vp_in_nI (by omega) (by omega)
      have i2 : vp_in (nI r) 40 := vp_in_nI (by omega) (by omega)
      refine br_f (nI_ge (by omega) (by omega)) ⟨i2, i1, fun a ea => ⟨i2, i1, fun b eb y ey => ?_⟩⟩
      rw [e1, nI_clamp (by omega), nI_clamp (by omega)] at ea eb
      rw [qa_pu_s] at ea
      have eb := eb.trans (qa_pu_s (qa_og ydp s n w) s (fun k => ycd k + dl) r)
      subst ea; subst eb; subst ey
      rw [nI_1]
      exact ih (r + 1) (by omega)
  have key1 : ∀ k r, r + 1 = s + k → r < n → wY_paste_8 post (nI s) (nI w) dl ymo (nI n) yw yle yfo yli yat ysu (k + 1) (nI r) (qa_og yid (r + 1) n w) (qa_og ydp (r + 1) n w) ynm yvl yci ycd ypd yqu ygv yls yrs yor yan yno yow ypa := by
    intro k
    induction k with
    | zero =>
      intro r e hr
      have e : r + 1 = s := by omega
      refine br_t (nI_lt (by omega) (by omega)) (nm_r (nI_add n w) (Exists.intro (w + 1) ?_))
      have c := key2 w 0 (by omega)
      rw [qa_pu_0, qa_pu_0] at c
      rw [e]
      exact c
    | succ k ih =>
      intro r e hr
      have e1 : nI r + nI w = nI (r + w) := nI_add r w
      have i1 : vp_in (nI r + nI w) 41 := by rw [e1]; exact vp_in_nI (by omega) (by omega)
      have i2 : vp_in (nI r) 41 := vp_in_nI (by omega) (by omega)
      refine br_f (nI_nlt (by omega) (by omega)) ⟨i2, i1, fun a ea => ⟨i2, i1, fun b eb y ey => ?_⟩⟩
      rw [e1, nI_clamp (by omega), nI_clamp (by omega), qa_og_s _ _ _ _ hr] at ea eb
      obtain ⟨m, rfl⟩ : ∃ m, r = m + 1 := ⟨r - 1, by omega⟩
      rw [pk_m1] at ey
      subst ea; subst eb; subst ey
      exact ih m (by omega) (by omega)
  obtain ⟨m, rfl⟩ : ∃ m, n = m + 1 := ⟨n - 1, by omega⟩
  have c := key1 (m + 1 - s) m (by omega) (by omega)
  rw [qa_og_0, qa_og_0] at c
  exact nm_r (nI_pred m) (Exists.intro _ c)
end
