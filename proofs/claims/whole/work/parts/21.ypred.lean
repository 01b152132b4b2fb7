/-! Y: ends, atoms, predicates -/
def qs_HY (n : Nat) (i d : Nat → Nat) (od dp po : Nat → Int32) (len : Nat) (q qy : Nat → Int32) : Prop :=
  qr_B n i d od dp po ∧ len ≤ 40 ∧ qe_G q len ∧ (∀ x, len ≤ x → x < 41 → q x = 0) ∧ (∀ t, t < len → qy t = q t)
/-- the table of Y is right for the paths that begin at level L or deeper -/
def qs_YG (q : Nat → Int32) (len n : Nat) (g gv : Nat → Int64) (L : Nat) : Prop := ∀ t, t < len → qc_ax (q t) = true → ((qc_tr q t).1 = 1 ∨ (qc_tr q t).1 = 4) → L ≤ (qc_tr q t).2.1 → ∀ c, c < n → gv (t * 40 + c) = g (t * 40 + c)
def qs_RY (lv : Nat) (yor yan yno : Nat → Int32) (O A Ng : Nat → Bool) : Prop := ∀ j, j ≤ lv → yor j = qa_b (O j) ∧ yan j = qa_b (A j) ∧ yno j = qa_b (Ng j)
theorem qs_nor (a b : Bool) : vp_nar .boolean (qa_b a ||| qa_b b) = qa_b (a || b) := by cases a <;> cases b <;> rfl
theorem qs_or (a b : Bool) : qa_b a ||| qa_b b = qa_b (a || b) := by cases a <;> cases b <;> rfl
theorem qs_nand (a b : Bool) : vp_nar .boolean (qa_b a &&& qa_b b) = qa_b (a && b) := by cases a <;> cases b <;> rfl
theorem qs_beq {a b : Bool} : qa_b a = qa_b b ↔ a = b := by cases a <;> cases b <;> decide
section
variable {ymo : Int32} {yn : Int32} {yw : Int32} {yle : Int32} {yfo : Int32} {yli : Int32} {yat : Int32} {ysu : Int64} {yid : (Nat → Int32)} {ydp : (Nat → Int32)} {ynm : (Nat → Int32)} {yvl : (Nat → Int32)} {yci : (Nat → Int32)} {ycd : (Nat → Int32)} {ypd : (Nat → Int32)} {yqu : (Nat → Int32)} {ygv : (Nat → Int64)} {yls : (Nat → Int32)} {yrs : (Nat → Int32)} {yor : (Nat → Int32)} {yan : (Nat → Int32)} {yno : (Nat → Int32)} {yow : (Nat → Int32)} {ypa : (Nat → Int32)}
variable {n len : Nat} {i d : Nat → Nat} {po q : Nat → Int32} {g : Nat → Int64}
theorem qs_ycl {t : Nat} {post : Int32 → Prop} (H : qs_HY n i d yid ydp po len q yqu) (ht : t < len) (h1 : q t = 1) (h : post (nI (qe_cl q len t + 1))) : wpY_closed post (ymo, nI n, yw, nI len, yfo, yli, yat, ysu, yid, ydp, ynm, yvl, yci, ycd, ypd, yqu, ygv, yls, yrs, yor, yan, yno, yow, ypa) (nI t) := by
  obtain ⟨B, hl, G, hq, hy⟩ := H
  have key : ∀ f e k, k + f + 1 = len → 1 ≤ e → e ≤ k + 1 → qe_C q (f + 1) e k < len → post (nI (qe_C q (f + 1) e k + 1)) → wY_closed_4 post ymo (nI n) yw (nI len) yfo yli yat ysu yid ydp ynm yvl yci ycd ypd yqu ygv yls yrs yor yan yno yow ypa (f + 1) (nI e) (nI k) := by
    intro f
    induction f with
    | zero =>
      intro e k hk he he2 hlt hp
      have ik : vp_in (nI k) 40 := vp_in_nI (by omega) (by omega)
      have ek : yqu (nI k).toNatClampNeg = q k := by rw [nI_clamp (by omega)]; exact hy k (by omega)
      simp only [qe_C] at hlt hp
      refine And.intro ik ?_
      rw [ek]
      by_cases g1 : q k = 1
      · rw [if_pos g1] at hlt; omega
      · rw [if_neg g1] at hlt hp
        by_cases g2 : q k = 2
        · rw [if_pos g2] at hlt hp
          by_cases g3 : e = 1
          · rw [if_pos g3] at hp
            refine br_f g1 ⟨ik, ?_⟩
            rw [ek]
            exact br_t g2 (nm_r (sb_m1 (p := e) he) (nm_r (nI_1 k) (br_t (by rw [g3]; decide) hp)))
          · rw [if_neg g3] at hlt; omega
        · rw [if_neg g2] at hlt; omega
    | succ f ih =>
      intro e k hk he he2 hlt hp
      have ik : vp_in (nI k) 40 := vp_in_nI (by omega) (by omega)
      have ek : yqu (nI k).toNatClampNeg = q k := by rw [nI_clamp (by omega)]; exact hy k (by omega)
      rw [qe_C] at hlt hp
      refine And.intro ik ?_
      rw [ek]
      by_cases g1 : q k = 1
      · rw [if_pos g1] at hlt hp
        refine br_t g1 (nm_r (nI_1 e) ⟨ik, ?_⟩)
        rw [ek]
        exact br_f (by rw [g1]; decide) (nm_r (nI_1 k) (br_f (nI_nle (by omega) (by omega)) (br_t (nI_lt (by omega) (by omega)) (ih (e + 1) (k + 1) (by omega) (by omega) (by omega) hlt hp))))
      · rw [if_neg g1] at hlt hp
        refine br_f g1 ⟨ik, ?_⟩
        rw [ek]
        by_cases g2 : q k = 2
        · rw [if_pos g2] at hlt hp
          refine br_t g2 (nm_r (sb_m1 (p := e) he) (nm_r (nI_1 k) ?_))
          by_cases g3 : e = 1
          · rw [if_pos g3] at hp
            exact br_t (by rw [g3]; decide) hp
          · rw [if_neg g3] at hlt hp
            exact br_f (nI_nle (by omega) (by omega)) (br_t (nI_lt (by omega) (by omega)) (ih (e - 1) (k + 1) (by omega) (by omega) (by omega) hlt hp))
        · rw [if_neg g2] at hlt hp
          exact br_f g2 (nm_r (nI_1 k) (br_f (nI_nle (by omega) (by omega)) (br_t (nI_lt (by omega) (by omega)) (ih e (k + 1) (by omega) (by omega) (by omega) hlt hp))))
  have cs := qe_cl_spec G ht h1
  have c1 := cs.1
  have c2 := cs.2.1
  have et : yqu (nI t).toNatClampNeg = q t := by rw [nI_clamp (by omega)]; exact hy t ht
  obtain ⟨m, hm⟩ : ∃ m, len - (t + 1) = m + 1 := ⟨len - (t + 1) - 1, by omega⟩
  have it : vp_in (nI t) 40 := vp_in_nI (by omega) (by omega)
  unfold qe_cl at h c2
  rw [hm] at h c2
  refine Exists.intro (m + 1 + 1) (And.intro it ?_)
  rw [et]
  refine br_t h1 (nm_r (show (0 : Int32) + 1 = nI 1 by decide) ⟨it, ?_⟩)
  rw [et]
  exact br_f (by rw [h1]; decide) (nm_r (nI_1 t) (br_f (by decide) (br_t (nI_lt (by omega) (by omega)) (key m 1 (t + 1) (by omega) (by omega) (by omega) c2 h))))
theorem qs_yse {t : Nat} {post : Int32 → Prop} (H : qs_HY n i d yid ydp po len q yqu) (ht : t < len) (ha : qc_ax (q t) = true) (h : post (nI (qe_se q len t))) : wpY_stepEnd post (ymo, nI n, yw, nI len, yfo, yli, yat, ysu, yid, ydp, ynm, yvl, yci, ycd, ypd, yqu, ygv, yls, yrs, yor, yan, yno, yow, ypa) (nI t) := by
  obtain ⟨B, hl, G, hq, hy⟩ := id H
  obtain ⟨t1, t2, t3, t4, t5, t6⟩ := qe_se_spec G ht ha
  have key : ∀ f k, len - k ≤ f → k ≤ len → post (nI (qe_so q len k)) → wY_stepEnd_4 post ymo (nI n) yw (nI len) yfo yli yat ysu yid ydp ynm yvl yci ycd ypd yqu ygv yls yrs yor yan yno yow ypa (f + 1) (nI k) := by
    intro f
    induction f with
    | zero =>
      intro k hk hk2 hp
      rw [qe_so_eq, if_neg (by omega)] at hp
      exact br_t (nI_le (by omega) (by omega)) hp
    | succ f ih =>
      intro k hk hk2 hp
      rw [qe_so_eq] at hp
      refine pk_le len k (fun z => ?_) (fun z => ⟨vp_in_nI (by omega) (by omega), ?_⟩)
      · rw [if_neg (by omega)] at hp; exact hp
      · rw [nI_clamp (n := k) (by omega), hy k z]
        by_cases g1 : q k = 1
        · rw [if_pos ⟨z, g1⟩] at hp
          have c := qe_cl_spec G z g1
          have c1 := c.1
          have c2 := c.2.1
          exact br_t g1 (qs_ycl H z g1 (ih (qe_cl q len k + 1) (by omega) (by omega) hp))
        · rw [if_neg (fun y => g1 y.2)] at hp
          exact br_f g1 hp
  exact nm_r (nI_add t 2) (Exists.intro _ (key (len - (t + 2)) (t + 2) (Nat.le_refl _) (by omega) h))
theorem qs_ype {t : Nat} {post : Int32 → Prop} (H : qs_HY n i d yid ydp po len q yqu) (ht : t ≤ len) (h : post (nI (qe_pe q len t))) : wpY_pathEnd post (ymo, nI n, yw, nI len, yfo, yli, yat, ysu, yid, ydp, ynm, yvl, yci, ycd, ypd, yqu, ygv, yls, yrs, yor, yan, yno, yow, ypa) (nI t) := by
  obtain ⟨B, hl, G, hq, hy⟩ := id H
  have key : ∀ f k, len - k ≤ f → k ≤ len → post (nI (qe_pe q len k)) → wY_pathEnd_2 post ymo (nI n) yw (nI len) yfo yli yat ysu yid ydp ynm yvl yci ycd ypd yqu ygv yls yrs yor yan yno yow ypa (f + 1) (nI k) := by
    intro f
    induction f with
    | zero =>
      intro k hk hk2 hp
      rw [qe_pe_eq, if_neg (by omega)] at hp
      exact br_t (nI_le (by omega) (by omega)) hp
    | succ f ih =>
      intro k hk hk2 hp
      rw [qe_pe_eq] at hp
      refine pk_le len k (fun z => ?_) (fun z => ⟨vp_in_nI (by omega) (by omega), ?_⟩)
      · rw [if_neg (by omega)] at hp; exact hp
      · rw [nI_clamp (n := k) (by omega), hy k z]
        refine qc_yax (qa_br (fun ga => ?_) (fun ga => ?_))
        · rw [if_neg (fun y => by rw [ga] at y; exact absurd y.2 (by decide))] at hp; exact hp
        · rw [if_pos ⟨z, ga⟩] at hp
          obtain ⟨t1, t2, t3, t4, t5, t6⟩ := qe_se_spec G z ga
          have b := qe_se_ge q len k
          exact qs_yse H z ga (ih (qe_se q len k) (by omega) t4 hp)
  exact Exists.intro _ (key (len - t) t (Nat.le_refl _) ht h)
theorem qs_ycm {t : Nat} {v : Int32} {post : Int32 → Prop} (H : qs_HY n i d yid ydp po len q yqu) (ht : t + 1 < len) (h : post (qa_b (qs_cmp q t v))) : wpY_compares post (ymo, nI n, yw, nI len, yfo, yli, yat, ysu, yid, ydp, ynm, yvl, yci, ycd, ypd, yqu, ygv, yls, yrs, yor, yan, yno, yow, ypa) (nI t) v := by
  obtain ⟨B, hl, G, hq, hy⟩ := H
  have it : vp_in (nI t) 40 := vp_in_nI (by omega) (by omega)
  have et : yqu (nI t).toNatClampNeg = q t := by rw [nI_clamp (by omega)]; exact hy t (by omega)
  refine And.intro (by rw [nI_1]; exact vp_in_nI (by omega) (by omega)) (nm_r (e' := q (t + 1) - 2000) (by rw [nI_1, nI_clamp (by omega), hy (t + 1) ht]) ⟨it, ?_⟩)
  rw [et]
  unfold qs_cmp at h
  by_cases g : q t = 12
  · rw [if_pos g] at h
    refine br_t g (qs_pif' ?_ h)
    exact ⟨fun z => decide_eq_false (fun y => y z), fun z => Classical.byContradiction (fun y => absurd y (of_decide_eq_false z))⟩
  · rw [if_neg g] at h
    refine br_f g ⟨it, ?_⟩
    by_cases g2 : q t = 13
    · rw [if_pos g2] at h
      refine br_t g2 (qs_pif ?_ h)
      exact ⟨fun z => decide_eq_true z, fun z => of_decide_eq_true z⟩
    · rw [if_neg g2] at h
      refine br_f g2 (qs_pif' ?_ h)
      exact ⟨fun z => decide_eq_false (fun y => y z), fun z => Classical.byContradiction (fun y => absurd y (of_decide_eq_false z))⟩
theorem qs_yop {o k x p m : Nat} {post : Int32 → SY → Prop} (H : qs_HY n i d yid ydp po len q yqu) (T : qw_AT q len o k) (hx : x < n) (hp : p < 2 ^ 31) (hm : m < 2 ^ 31)
    (Y : qs_YG q len n g ygv ((qc_tr q o).2.1 + 1)) (hg : ∀ t, t < len → qc_ax (q t) = true → ∀ c, c < n → ∀ y, qb (g (t * 40 + c)) y = true → y < n)
    (h : post (qa_b (qs_AV q len i yvl g k x p m)) (ymo, nI n, yw, nI len, yfo, yli, nI (qs_AE q len k), ysu, yid, ydp, ynm, yvl, yci, ycd, ypd, yqu, ygv, yls, yrs, yor, yan, yno, yow, ypa)) : wpY_operand post (ymo, nI n, yw, nI len, yfo, yli, yat, ysu, yid, ydp, ynm, yvl, yci, ycd, ypd, yqu, ygv, yls, yrs, yor, yan, yno, yow, ypa) (nI k) (nI x) (nI p) (nI m) := by
  obtain ⟨B, hl, G, hq, hy⟩ := id H
  obtain ⟨t1, t2, t3, t4, t5⟩ := T
  have hn := B.1.2
  refine And.intro (vp_in_nI (by omega) (by omega)) (nm_r (e' := q k) (by rw [nI_clamp (by omega)]; exact hy k t1) ?_)
  unfold qs_AV qs_AE at h
  rcases t4 with ⟨z | z, zl⟩ | z | ⟨z, z1, z2, z3, z4, z5⟩ | z
  · rw [if_pos z, if_pos z] at h
    refine br_f (by rw [z]; decide) (br_f (by rw [z]; decide) (br_t z (nm_r (nI_add k 3) ?_)))
    rw [nI_1]
    exact qs_ycm H (by omega) ⟨qa_bn _, h⟩
  · rw [if_neg (by rw [z]; decide), if_neg (by rw [z]; decide), if_pos z, if_neg (by rw [z]; decide), if_neg (by rw [z]; decide), if_pos z] at h
    have hix := B.2.1 x hx
    refine br_f (by rw [z]; decide) (br_f (by rw [z]; decide) (br_f (by rw [z]; decide) (br_f (by rw [z]; decide) (br_t z (nm_r (nI_add k 3) ⟨vp_in_nI (by omega) (by omega), ?_⟩)))))
    rw [nI_clamp (n := x) (by omega), hix.1]
    refine ⟨vp_in_nI hix.2 (by omega), ?_⟩
    rw [nI_1, nI_clamp (n := i x) (by omega)]
    exact qs_ycm H (by omega) ⟨qa_bn _, h⟩
  · rw [if_neg (by rw [z]; decide), if_pos z, if_neg (by rw [z]; decide), if_pos z] at h
    refine br_f (by rw [z]; decide) (br_f (by rw [z]; decide) (br_f (by rw [z]; decide) (br_t z (nm_r (nI_1 k) ?_))))
    refine qs_pif (post := fun r => post r _) ?_ h
    rw [nI_eq hp hm]
    exact ⟨fun y => decide_eq_true y, fun y => of_decide_eq_true y⟩
  · rw [if_neg (by rw [z]; decide), if_neg (by rw [z]; decide), if_neg (by rw [z]; decide), if_pos z, if_neg (by rw [z]; decide), if_neg (by rw [z]; decide), if_neg (by rw [z]; decide), if_pos z] at h
    refine br_f (by rw [z]; decide) (br_f (by rw [z]; decide) (br_f (by rw [z]; decide) (br_f (by rw [z]; decide) (br_f (by rw [z]; decide) (br_t z ?_)))))
    rw [nI_1]
    refine qs_ype H (by omega) (nm_r (nI_add _ 2) ?_)
    rw [qs_ix]
    refine ⟨vp_in_nI (by omega) (by omega), ?_⟩
    rw [nI_clamp (by omega), Y (k + 1) z1 z2 (Or.inl z3) (by omega) x hx]
    refine qs_ysz (fun y hy2 => ?_) (qs_ycm H (by omega) ⟨qa_bn _, h⟩)
    rw [← Bool.not_eq_true]
    intro w
    have := hg (k + 1) z1 z2 x hx y w
    omega
  · obtain ⟨y1, y2, y3, y4, y5, y6⟩ := qs_tok z
    rw [if_neg y3, if_neg y4, if_neg y5, if_neg y6, if_neg y3, if_neg y4, if_neg y5, if_neg y6] at h
    refine br_f y1 (br_t y2 (qs_ype H (by omega) ?_))
    rw [qs_ix]
    refine ⟨vp_in_nI (by omega) (by omega), ?_⟩
    rw [nI_clamp (by omega), Y k t1 z (Or.inr t2) (by omega) x hx]
    refine qs_pif' (post := fun r => post r _) ?_ h
    exact ⟨fun y => decide_eq_false (fun w => w y), fun y => Classical.byContradiction (fun w => absurd w (of_decide_eq_false y))⟩
theorem qs_yjo {x2 x3 x4 : Int32} {lv j k : Nat} {v : Bool} {O A Ng : Nat → Bool} {post : Int32 → SY → Prop} {J : Int32 → Int32 → Int32 → Int32 → Int32 → Int32 → Int32 → Int32 → Int32 → Int64 → (Nat → Int32) → (Nat → Int32) → (Nat → Int32) → (Nat → Int32) → (Nat → Int32) → (Nat → Int32) → (Nat → Int32) → (Nat → Int32) → (Nat → Int64) → (Nat → Int32) → (Nat → Int32) → (Nat → Int32) → (Nat → Int32) → (Nat → Int32) → (Nat → Int32) → (Nat → Int32) → Prop} (hlv : lv < 8) (hj : j ≤ lv) (R : qs_RY lv yor yan yno O A Ng)
    (h : ∀ an no, qs_RY lv yor an no O (qc_put A j (A j && (v != Ng j))) (qc_put Ng j false) → J (nI j) (nI k) ymo yn yw yle yfo yli yat ysu yid ydp ynm yvl yci ycd ypd yqu ygv yls yrs yor an no yow ypa) : wY_predicate_242 post J x2 x3 x4 (nI j) (nI k) 1 (qa_b v) ymo yn yw yle yfo yli yat ysu yid ydp ynm yvl yci ycd ypd yqu ygv yls yrs yor yan yno yow ypa := by
  have il : vp_in (nI j) 8 := vp_in_nI (by omega) (by omega)
  have ej : (nI j).toNatClampNeg = j := nI_clamp (by omega)
  have fin : ∀ b : Bool, b = (v != Ng j) → wY_predicate_272 post J x2 x3 x4 (nI j) (nI k) (qa_b b) (yan j) (nI j) ymo yn yw yle yfo yli yat ysu yid ydp ynm yvl yci ycd ypd yqu ygv yls yrs yor yan yno yow ypa := by
    intro b hb
    refine And.intro il (fun a ea => ⟨il, fun c ec => h a c (fun l hl => ?_)⟩)
    rw [ej] at ea ec
    rw [ea, ec]
    obtain ⟨r1, r2, r3⟩ := R l hl
    refine ⟨r1, ?_⟩
    by_cases e : l = j
    · subst e
      rw [pk_us, pk_us, qc_put_s, qc_put_s, r2, qs_nand, hb]
      exact ⟨rfl, rfl⟩
    · rw [pk_un e, pk_un e, qc_put_n e, qc_put_n e]; exact ⟨r2, r3⟩
  refine br_f (by decide) ⟨il, il, ?_⟩
  rw [ej, (R j hj).2.2]
  refine br_c (fun z => fin false ?_) (fun z => fin true ?_)
  · rw [qs_beq] at z; rw [z]; cases Ng j <;> rfl
  · rw [qs_beq] at z
    revert z
    cases v <;> cases Ng j <;> intro z <;> first | rfl | exact absurd rfl z
end
