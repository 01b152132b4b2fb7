/-! the grammar's machine in Y -/
def qc_cd (s : Nat) : Int32 := if s = 1 then 0 else if s = 2 then 1 else if s = 3 then 2 else if s = 4 then 3 else if s = 5 then 5 else if s = 6 then 6 else 4
def qc_ow (b : Bool) : Int32 := if b then 2 else 1
def qc_Y (S : qc_St) (x2 x3 x4 : Int32) (ow pa' : Nat → Int32) : Prop := match S with
  | (s, l, o, pa, ct) => x2 = qc_cd s ∧ x3 = nI l ∧ x4 = nI o ∧ (∀ j, 1 ≤ j → j ≤ l → pa' j = nI (pa j)) ∧ ow 0 = 0 ∧ (∀ j, 1 ≤ j → j ≤ l → (j < l ∨ s ≤ 3) → ow j = qc_ow (ct j))
theorem qc_yax {t : Int32} {post : Int32 → Prop} (h : post (qa_b (qc_ax t))) : wpY_isAxis post t := by
  refine br_c (fun g => ?_) (fun g => br_c (fun g2 => ?_) (fun g2 => ?_))
  · rw [show qc_ax t = false from decide_eq_false (fun z => z.1 g)] at h; exact h
  · rw [show qc_ax t = false from decide_eq_false (fun z => z.2 g2)] at h; exact h
  · rw [show qc_ax t = true from decide_eq_true ⟨g, g2⟩] at h; exact h
section
variable {ymo : Int32} {yn : Int32} {yw : Int32} {yle : Int32} {yfo : Int32} {yli : Int32} {yat : Int32} {ysu : Int64} {yid : (Nat → Int32)} {ydp : (Nat → Int32)} {ynm : (Nat → Int32)} {yvl : (Nat → Int32)} {yci : (Nat → Int32)} {ycd : (Nat → Int32)} {ypd : (Nat → Int32)} {yqu : (Nat → Int32)} {ygv : (Nat → Int64)} {yls : (Nat → Int32)} {yrs : (Nat → Int32)} {yor : (Nat → Int32)} {yan : (Nat → Int32)} {yno : (Nat → Int32)} {yow : (Nat → Int32)} {ypa : (Nat → Int32)}
variable {post : Int32 → SY → Prop} {J : Int32 → Int32 → Int32 → Int32 → (Nat → Int32) → (Nat → Int32) → (Nat → Int32) → (Nat → Int32) → (Nat → Int32) → (Nat → Int32) → (Nat → Int32) → (Nat → Int32) → (Nat → Int64) → (Nat → Int32) → (Nat → Int32) → (Nat → Int32) → (Nat → Int32) → (Nat → Int32) → (Nat → Int32) → (Nat → Int32) → Prop} {x1 x2 x3 x4 x5 t : Int32}
theorem qc_F458 (h : post (x5 + 1) (ymo, yn, yw, yle, yfo, yli, yat, ysu, yid, ydp, ynm, yvl, yci, ycd, ypd, yqu, ygv, yls, yrs, yor, yan, yno, yow, ypa)) : wY_wrongPlace_458 post J x1 x3 x4 x5 (-1) ymo yn yw yle yfo yli yat ysu yid ydp ynm yvl yci ycd ypd yqu ygv yls yrs yor yan yno yow ypa := br_f (by decide) h
theorem qc_G458 {x7 : Int32} (h7 : 0 ≤ x7) (h : J x7 x3 x4 (x5 + 1) yid ydp ynm yvl yci ycd ypd yqu ygv yls yrs yor yan yno yow ypa) : wY_wrongPlace_458 post J x1 x3 x4 x5 x7 ymo yn yw yle yfo yli yat ysu yid ydp ynm yvl yci ycd ypd yqu ygv yls yrs yor yan yno yow ypa := br_t h7 (nm_e h)
theorem qc_F433 (n6 : ¬ x2 = 6) (h : post (x5 + 1) (ymo, yn, yw, yle, yfo, yli, yat, ysu, yid, ydp, ynm, yvl, yci, ycd, ypd, yqu, ygv, yls, yrs, yor, yan, yno, yow, ypa)) : wY_wrongPlace_433 post J x1 x2 x3 x4 x5 t (-1) ymo yn yw yle yfo yli yat ysu yid ydp ynm yvl yci ycd ypd yqu ygv yls yrs yor yan yno yow ypa := br_f n6 (qc_F458 h)
theorem qc_F407 (n5 : ¬ x2 = 5) (n6 : ¬ x2 = 6) (h : post (x5 + 1) (ymo, yn, yw, yle, yfo, yli, yat, ysu, yid, ydp, ynm, yvl, yci, ycd, ypd, yqu, ygv, yls, yrs, yor, yan, yno, yow, ypa)) : wY_wrongPlace_407 post J x1 x2 x3 x4 x5 t (-1) ymo yn yw yle yfo yli yat ysu yid ydp ynm yvl yci ycd ypd yqu ygv yls yrs yor yan yno yow ypa := br_f n5 (qc_F433 n6 h)
theorem qc_F374 (n4 : ¬ x2 = 4) (n5 : ¬ x2 = 5) (n6 : ¬ x2 = 6) (h : post (x5 + 1) (ymo, yn, yw, yle, yfo, yli, yat, ysu, yid, ydp, ynm, yvl, yci, ycd, ypd, yqu, ygv, yls, yrs, yor, yan, yno, yow, ypa)) : wY_wrongPlace_374 post J x1 x2 x3 x4 x5 t (-1) ymo yn yw yle yfo yli yat ysu yid ydp ynm yvl yci ycd ypd yqu ygv yls yrs yor yan yno yow ypa := br_f n4 (qc_F407 n5 n6 h)
theorem qc_F335 (n4 : ¬ x2 = 4) (n5 : ¬ x2 = 5) (n6 : ¬ x2 = 6) (h : post (x5 + 1) (ymo, yn, yw, yle, yfo, yli, yat, ysu, yid, ydp, ynm, yvl, yci, ycd, ypd, yqu, ygv, yls, yrs, yor, yan, yno, yow, ypa)) : wY_wrongPlace_335 post J x1 x2 x3 x4 x5 t (-1) ymo yn yw yle yfo yli yat ysu yid ydp ynm yvl yci ycd ypd yqu ygv yls yrs yor yan yno yow ypa := br_f n4 (qc_F374 n4 n5 n6 h)
theorem qc_F311 (n4 : ¬ x2 = 4) (n5 : ¬ x2 = 5) (n6 : ¬ x2 = 6) (h : post (x5 + 1) (ymo, yn, yw, yle, yfo, yli, yat, ysu, yid, ydp, ynm, yvl, yci, ycd, ypd, yqu, ygv, yls, yrs, yor, yan, yno, yow, ypa)) : wY_wrongPlace_311 post J x1 x2 x3 x4 x5 t (-1) ymo yn yw yle yfo yli yat ysu yid ydp ynm yvl yci ycd ypd yqu ygv yls yrs yor yan yno yow ypa := br_f n4 (qc_F335 n4 n5 n6 h)
theorem qc_F189 (n3 : ¬ x2 = 3) (n4 : ¬ x2 = 4) (n5 : ¬ x2 = 5) (n6 : ¬ x2 = 6) (h : post (x5 + 1) (ymo, yn, yw, yle, yfo, yli, yat, ysu, yid, ydp, ynm, yvl, yci, ycd, ypd, yqu, ygv, yls, yrs, yor, yan, yno, yow, ypa)) : wY_wrongPlace_189 post J x1 x2 x3 x4 x5 t (-1) ymo yn yw yle yfo yli yat ysu yid ydp ynm yvl yci ycd ypd yqu ygv yls yrs yor yan yno yow ypa := br_f n3 (br_f n3 (br_f n3 (br_f n3 (br_f n3 (qc_F311 n4 n5 n6 h)))))
theorem qc_F157 (n2 : ¬ x2 = 2) (n3 : ¬ x2 = 3) (n4 : ¬ x2 = 4) (n5 : ¬ x2 = 5) (n6 : ¬ x2 = 6) (h : post (x5 + 1) (ymo, yn, yw, yle, yfo, yli, yat, ysu, yid, ydp, ynm, yvl, yci, ycd, ypd, yqu, ygv, yls, yrs, yor, yan, yno, yow, ypa)) : wY_wrongPlace_157 post J x1 x2 x3 x4 x5 t (-1) ymo yn yw yle yfo yli yat ysu yid ydp ynm yvl yci ycd ypd yqu ygv yls yrs yor yan yno yow ypa := br_f n2 (qc_F189 n3 n4 n5 n6 h)
theorem qc_F132 (n1 : ¬ x2 = 1) (n2 : ¬ x2 = 2) (n3 : ¬ x2 = 3) (n4 : ¬ x2 = 4) (n5 : ¬ x2 = 5) (n6 : ¬ x2 = 6) (h : post (x5 + 1) (ymo, yn, yw, yle, yfo, yli, yat, ysu, yid, ydp, ynm, yvl, yci, ycd, ypd, yqu, ygv, yls, yrs, yor, yan, yno, yow, ypa)) : wY_wrongPlace_132 post J x1 x2 x3 x4 x5 t (-1) ymo yn yw yle yfo yli yat ysu yid ydp ynm yvl yci ycd ypd yqu ygv yls yrs yor yan yno yow ypa := br_f n1 (qc_F157 n2 n3 n4 n5 n6 h)
/-- comparisons and numbers, at code 5 and 6 -/
theorem qc_y5 (h1 : qc_cp t = true → J 6 x3 x4 (x5 + 1) yid ydp ynm yvl yci ycd ypd yqu ygv yls yrs yor yan yno yow ypa) (h0 : qc_cp t = false → post (x5 + 1) (ymo, yn, yw, yle, yfo, yli, yat, ysu, yid, ydp, ynm, yvl, yci, ycd, ypd, yqu, ygv, yls, yrs, yor, yan, yno, yow, ypa)) : wY_wrongPlace_89 post J x1 5 x3 x4 x5 t ymo yn yw yle yfo yli yat ysu yid ydp ynm yvl yci ycd ypd yqu ygv yls yrs yor yan yno yow ypa := by
  refine br_f (by decide) (br_f (by decide) (br_f (by decide) ?_))
  refine br_f (by decide) (br_f (by decide) (br_f (by decide) (br_f (by decide) (br_f (by decide) (br_f (by decide) (br_f (by decide) (br_f (by decide) (br_f (by decide) (br_f (by decide) (br_t (by decide) ?_))))))))))
  refine br_c (fun g => ?_) (fun g => br_c (fun g2 => ?_) (fun g2 => ?_))
  · refine qc_F433 (by decide) (h0 (decide_eq_false ?_))
    rintro (rfl | rfl | rfl) <;> exact absurd g (by decide)
  · refine qc_F433 (by decide) (h0 (decide_eq_false ?_))
    rintro (rfl | rfl | rfl) <;> exact absurd g2 (by decide)
  · refine qc_G458 (by decide) (h1 (decide_eq_true ?_))
    have hg : ¬ t < 0 := fun z => g (Int32.lt_trans z (by decide))
    obtain ⟨m, hm, rfl⟩ := nI_of2 (M := 14) (n := 14) (by decide) hg (Int32.not_lt.mp g2)
    have h12 : 12 ≤ m := by
      refine Nat.le_of_not_lt (fun z => g ?_)
      exact nI_lt (b := 12) z (by omega)
    have : m = 12 ∨ m = 13 ∨ m = 14 := by omega
    rcases this with rfl | rfl | rfl
    · exact Or.inl rfl
    · exact Or.inr (Or.inl rfl)
    · exact Or.inr (Or.inr rfl)
theorem qc_y6 (h1 : qc_nu t = true → J 4 x3 x4 (x5 + 1) yid ydp ynm yvl yci ycd ypd yqu ygv yls yrs yor yan yno yow ypa) (h0 : qc_nu t = false → post (x5 + 1) (ymo, yn, yw, yle, yfo, yli, yat, ysu, yid, ydp, ynm, yvl, yci, ycd, ypd, yqu, ygv, yls, yrs, yor, yan, yno, yow, ypa)) : wY_wrongPlace_89 post J x1 6 x3 x4 x5 t ymo yn yw yle yfo yli yat ysu yid ydp ynm yvl yci ycd ypd yqu ygv yls yrs yor yan yno yow ypa := by
  refine br_f (by decide) (br_f (by decide) (br_f (by decide) ?_))
  refine br_f (by decide) (br_f (by decide) (br_f (by decide) (br_f (by decide) (br_f (by decide) (br_f (by decide) (br_f (by decide) (br_f (by decide) (br_f (by decide) (br_f (by decide) (br_f (by decide) (br_t (by decide) ?_)))))))))))
  refine br_c (fun g => ?_) (fun g => br_c (fun g2 => ?_) (fun g2 => ?_))
  · exact qc_F458 (h0 (decide_eq_false (fun z => z.1 g)))
  · exact qc_F458 (h0 (decide_eq_false (fun z => z.2 g2)))
  · exact qc_G458 (by decide) (h1 (decide_eq_true ⟨g, g2⟩))
theorem qc_y7 (h0 : post (x5 + 1) (ymo, yn, yw, yle, yfo, yli, yat, ysu, yid, ydp, ynm, yvl, yci, ycd, ypd, yqu, ygv, yls, yrs, yor, yan, yno, yow, ypa)) : wY_wrongPlace_89 post J x1 7 x3 x4 x5 t ymo yn yw yle yfo yli yat ysu yid ydp ynm yvl yci ycd ypd yqu ygv yls yrs yor yan yno yow ypa :=
  br_f (by decide) (br_f (by decide) (br_f (by decide) (qc_F132 (by decide) (by decide) (by decide) (by decide) (by decide) (by decide) h0)))
theorem qc_y0 (h1 : qc_ax t = true → J 1 x3 x4 (x5 + 1) yid ydp ynm yvl yci ycd ypd yqu ygv yls yrs yor yan yno yow ypa) (h0 : qc_ax t = false → post (x5 + 1) (ymo, yn, yw, yle, yfo, yli, yat, ysu, yid, ydp, ynm, yvl, yci, ycd, ypd, yqu, ygv, yls, yrs, yor, yan, yno, yow, ypa)) : wY_wrongPlace_89 post J x1 0 x3 x4 x5 t ymo yn yw yle yfo yli yat ysu yid ydp ynm yvl yci ycd ypd yqu ygv yls yrs yor yan yno yow ypa := by
  refine br_t (by decide) (qc_yax (qa_br (fun g => ?_) (fun g => ?_)))
  · exact qc_F132 (by decide) (by decide) (by decide) (by decide) (by decide) (by decide) (h0 g)
  · exact br_f (by decide) (qc_G458 (by decide) (h1 g))
theorem qc_y1 (h1 : qc_nm t = true → J 2 x3 x4 (x5 + 1) yid ydp ynm yvl yci ycd ypd yqu ygv yls yrs yor yan yno yow ypa) (h0 : qc_nm t = false → post (x5 + 1) (ymo, yn, yw, yle, yfo, yli, yat, ysu, yid, ydp, ynm, yvl, yci, ycd, ypd, yqu, ygv, yls, yrs, yor, yan, yno, yow, ypa)) : wY_wrongPlace_89 post J x1 1 x3 x4 x5 t ymo yn yw yle yfo yli yat ysu yid ydp ynm yvl yci ycd ypd yqu ygv yls yrs yor yan yno yow ypa := by
  refine br_f (by decide) (br_f (by decide) (br_f (by decide) (br_t (by decide) ?_)))
  refine br_c (fun g => ?_) (fun g => br_c (fun g2 => ?_) (fun g2 => ?_))
  · exact qc_F157 (by decide) (by decide) (by decide) (by decide) (by decide) (h0 (decide_eq_false (fun z => z.1 g)))
  · exact qc_F157 (by decide) (by decide) (by decide) (by decide) (by decide) (h0 (decide_eq_false (fun z => z.2 g2)))
  · exact qc_G458 (by decide) (h1 (decide_eq_true ⟨g, g2⟩))
theorem qc_y2a (ha : qc_ax t = true) (h1 : J 1 x3 x4 (x5 + 1) yid ydp ynm yvl yci ycd ypd yqu ygv yls yrs yor yan yno yow ypa) : wY_wrongPlace_89 post J x1 2 x3 x4 x5 t ymo yn yw yle yfo yli yat ysu yid ydp ynm yvl yci ycd ypd yqu ygv yls yrs yor yan yno yow ypa := by
  refine br_f (by decide) (br_t (by decide) (qc_yax ?_))
  rw [ha]
  exact br_f (by decide) (br_f (by decide) (qc_G458 (by decide) h1))
theorem qc_y2b {l : Nat} (hl : l ≤ 3) (h1 : l < 3 → ∀ pa, pa = upd ypa (l + 1) 0 → J 3 (nI (l + 1)) x4 (x5 + 1) yid ydp ynm yvl yci ycd ypd yqu ygv yls yrs yor yan yno yow pa) (h0 : l = 3 → post (x5 + 1) (ymo, yn, yw, yle, yfo, yli, yat, ysu, yid, ydp, ynm, yvl, yci, ycd, ypd, yqu, ygv, yls, yrs, yor, yan, yno, yow, ypa)) : wY_wrongPlace_89 post J x1 2 (nI l) x4 x5 1 ymo yn yw yle yfo yli yat ysu yid ydp ynm yvl yci ycd ypd yqu ygv yls yrs yor yan yno yow ypa := by
  refine br_f (by decide) (br_t (by decide) (qc_yax ?_))
  rw [show qc_ax 1 = false by decide]
  refine br_t (by decide) (br_f (by decide) (br_t (by decide) (br_t (by decide) ?_)))
  refine pk_le 3 l (fun g => ?_) (fun g => ?_)
  · exact qc_F189 (by decide) (by decide) (by decide) (by decide) (h0 (by omega))
  · refine nm_r (nI_1 l) ⟨vp_in_nI (by omega) (by omega), fun a ea => qc_G458 (by decide) (h1 g a ?_)⟩
    rw [nI_clamp (by omega)] at ea; exact ea
theorem qc_y3 {l o : Nat} (hl : l ≤ 3) (ho : o ≤ 4)
    (hax : qc_ax t = true → J 1 (nI l) (nI o) (x5 + 1) yid ydp ynm yvl yci ycd ypd yqu ygv yls yrs yor yan yno (upd yow l 1) ypa)
    (h7 : t = 7 → J 3 (nI l) (nI o) (x5 + 1) yid ydp ynm yvl yci ycd ypd yqu ygv yls yrs yor yan yno yow ypa)
    (h3 : t = 3 → o < 4 → J 3 (nI l) (nI (o + 1)) (x5 + 1) yid ydp ynm yvl yci ycd ypd yqu ygv yls yrs yor yan yno yow (upd ypa l (ypa l + 1)))
    (h8 : t = 8 ∨ t = 10 → J 5 (nI l) (nI o) (x5 + 1) yid ydp ynm yvl yci ycd ypd yqu ygv yls yrs yor yan yno yow ypa)
    (h9 : t = 9 → J 4 (nI l) (nI o) (x5 + 1) yid ydp ynm yvl yci ycd ypd yqu ygv yls yrs yor yan yno yow ypa)
    (h11 : t = 11 → J 0 (nI l) (nI o) (x5 + 1) yid ydp ynm yvl yci ycd ypd yqu ygv yls yrs yor yan yno (upd yow l 2) ypa)
    (h0 : (t = 3 ∧ o = 4) ∨ (¬ qc_ax t = true ∧ t ≠ 7 ∧ t ≠ 3 ∧ t ≠ 8 ∧ t ≠ 10 ∧ t ≠ 9 ∧ t ≠ 11) → post (x5 + 1) (ymo, yn, yw, yle, yfo, yli, yat, ysu, yid, ydp, ynm, yvl, yci, ycd, ypd, yqu, ygv, yls, yrs, yor, yan, yno, yow, ypa)) : wY_wrongPlace_89 post J x1 3 (nI l) (nI o) x5 t ymo yn yw yle yfo yli yat ysu yid ydp ynm yvl yci ycd ypd yqu ygv yls yrs yor yan yno yow ypa := by
  have il : vp_in (nI l) 8 := vp_in_nI (by omega) (by omega)
  have e1 : (nI l).toNatClampNeg = l := nI_clamp (by omega)
  refine br_f (by decide) (br_f (by decide) (br_t (by decide) (qc_yax (qa_br (fun g => ?_) (fun g => ?_)))))
  · refine br_f (by decide) (br_f (by decide) (br_t (by decide) ?_))
    by_cases g7 : t = 7
    · exact br_t g7 (qc_G458 (by decide) (h7 g7))
    · refine br_f g7 (br_t (by decide) ?_)
      by_cases g3 : t = 3
      · refine br_t g3 (pk_le 4 o (fun z => ?_) (fun z => ?_))
        · subst g3
          exact br_t (by decide) (br_f (by decide) (br_f (by decide) (br_t (by decide) (br_f (by decide) (br_t (by decide) (br_f (by decide) (qc_F311 (by decide) (by decide) (by decide) (h0 (Or.inl ⟨rfl, by omega⟩)))))))))
        · refine ⟨il, il, fun a ea => nm_r (nI_1 o) (qc_G458 (by decide) ?_)⟩
          rw [e1] at ea
          subst ea
          exact h3 g3 z
      · refine br_f g3 (br_t (by decide) ?_)
        by_cases g8 : t = 8
        · exact br_t g8 (qc_G458 (by decide) (h8 (Or.inl g8)))
        · refine br_f g8 ?_
          by_cases g10 : t = 10
          · exact br_t g10 (qc_G458 (by decide) (h8 (Or.inr g10)))
          · refine br_f g10 (br_t (by decide) ?_)
            by_cases g9 : t = 9
            · exact br_t g9 (qc_G458 (by decide) (h9 g9))
            · refine br_f g9 (br_t (by decide) ?_)
              by_cases g11 : t = 11
              · refine br_t g11 ⟨il, fun a ea => qc_G458 (by decide) ?_⟩
                rw [e1] at ea
                subst ea
                exact h11 g11
              · refine br_f g11 (qc_F311 (by decide) (by decide) (by decide) (h0 (Or.inr ⟨by rw [g]; decide, g7, g3, g8, g10, g9, g11⟩)))
  · refine br_t (by decide) ⟨il, fun a ea => qc_G458 (by decide) ?_⟩
    rw [e1] at ea
    subst ea
    exact hax g
theorem qc_y4 {l o p : Nat} (hl0 : 1 ≤ l) (hl : l ≤ 3) (ho : o ≤ 4) (hp : p ≤ o) (ep : ypa l = nI p)
    (h5 : t = 5 ∨ t = 6 → J 3 (nI l) (nI o) (x5 + 1) yid ydp ynm yvl yci ycd ypd yqu ygv yls yrs yor yan yno yow ypa)
    (h4 : t = 4 → 0 < p → J 4 (nI l) (nI (o - 1)) (x5 + 1) yid ydp ynm yvl yci ycd ypd yqu ygv yls yrs yor yan yno yow (upd ypa l (nI (p - 1))))
    (h2 : t = 2 → p = 0 → J 2 (nI (l - 1)) (nI o) (x5 + 1) yid ydp ynm yvl yci ycd ypd yqu ygv yls yrs yor yan yno yow ypa)
    (h0 : ¬ (t = 5 ∨ t = 6) → ¬ (t = 4 ∧ 0 < p) → ¬ (t = 2 ∧ p = 0) → post (x5 + 1) (ymo, yn, yw, yle, yfo, yli, yat, ysu, yid, ydp, ynm, yvl, yci, ycd, ypd, yqu, ygv, yls, yrs, yor, yan, yno, yow, ypa)) : wY_wrongPlace_89 post J x1 4 (nI l) (nI o) x5 t ymo yn yw yle yfo yli yat ysu yid ydp ynm yvl yci ycd ypd yqu ygv yls yrs yor yan yno yow ypa := by
  have il : vp_in (nI l) 8 := vp_in_nI (by omega) (by omega)
  have e1 : (nI l).toNatClampNeg = l := nI_clamp (by omega)
  have ep' : ypa (nI l).toNatClampNeg = nI p := by rw [e1]; exact ep
  refine br_f (by decide) (br_f (by decide) (br_f (by decide) (br_f (by decide) (br_f (by decide) ?_))))
  refine br_f (by decide) (br_f (by decide) (br_f (by decide) (br_f (by decide) (br_f (by decide) (br_t (by decide) ?_)))))
  by_cases g5 : t = 5
  · exact br_t g5 (qc_G458 (by decide) (h5 (Or.inl g5)))
  · refine br_f g5 ?_
    by_cases g6 : t = 6
    · exact br_t g6 (qc_G458 (by decide) (h5 (Or.inr g6)))
    · have n56 : ¬ (t = 5 ∨ t = 6) := by rintro (z | z); exact g5 z; exact g6 z
      refine br_f g6 (br_t (by decide) ?_)
      by_cases g4 : t = 4
      · refine br_t g4 ⟨il, ?_⟩
        rw [ep']
        by_cases gp : 0 < p
        · refine br_f (nI_nle gp (by omega)) ⟨il, il, fun a ea => nm_r (sb_m1 (p := o) (by omega)) (qc_G458 (by decide) ?_)⟩
          rw [e1, show nI p - 1 = nI (p - 1) from pk_sub (a := p) (b := 1) (by omega)] at ea
          subst ea
          exact h4 g4 gp
        · refine br_t (by rw [show p = 0 by omega]; decide) (br_t (by decide) (br_f (by rw [g4]; decide) (qc_F407 (by decide) (by decide) (h0 n56 (fun z => gp z.2) (fun z => by rw [g4] at z; exact absurd z.1 (by decide))))))
      · refine br_f g4 (br_t (by decide) ?_)
        by_cases g2 : t = 2
        · refine br_t g2 ⟨il, ?_⟩
          rw [ep']
          by_cases gp : p = 0
          · exact br_t (by rw [gp]; decide) (br_f (nI_nle (by omega) (by omega)) (nm_r (sb_m1 (p := l) (by omega)) (qc_G458 (by decide) (h2 g2 gp))))
          · exact br_f (nI_ne0 (by omega) (by omega)) (qc_F407 (by decide) (by decide) (h0 n56 (fun z => g4 z.1) (fun z => gp z.2)))
        · exact br_f g2 (qc_F407 (by decide) (by decide) (h0 n56 (fun z => g4 z.1) (fun z => g2 z.1)))
end
section
variable {ymo : Int32} {yn : Int32} {yw : Int32} {yle : Int32} {yfo : Int32} {yli : Int32} {yat : Int32} {ysu : Int64} {yid : (Nat → Int32)} {ydp : (Nat → Int32)} {ynm : (Nat → Int32)} {yvl : (Nat → Int32)} {yci : (Nat → Int32)} {ycd : (Nat → Int32)} {ypd : (Nat → Int32)} {yqu : (Nat → Int32)} {ygv : (Nat → Int64)} {yls : (Nat → Int32)} {yrs : (Nat → Int32)} {yor : (Nat → Int32)} {yan : (Nat → Int32)} {yno : (Nat → Int32)} {yow : (Nat → Int32)} {ypa : (Nat → Int32)}
variable {post : Int32 → SY → Prop} {J : Int32 → Int32 → Int32 → Int32 → (Nat → Int32) → (Nat → Int32) → (Nat → Int32) → (Nat → Int32) → (Nat → Int32) → (Nat → Int32) → (Nat → Int32) → (Nat → Int32) → (Nat → Int64) → (Nat → Int32) → (Nat → Int32) → (Nat → Int32) → (Nat → Int32) → (Nat → Int32) → (Nat → Int32) → (Nat → Int32) → Prop} {x1 x2 x3 x4 x5 t : Int32}
theorem qc_yaf {s l o : Nat} {pa : Nat → Nat} {ct : Nat → Bool} (h1 : 1 ≤ l) (h2 : l ≤ 3) (h3 : o ≤ 4) (h4 : o = qc_sm pa l)
    (r3 : ∀ j, 1 ≤ j → j ≤ l → ypa j = nI (pa j)) (r5 : yow 0 = 0) (r6 : ∀ j, 1 ≤ j → j ≤ l → (j < l ∨ s ≤ 3) → yow j = qc_ow (ct j))
    (h0 : (qc_af l o pa ct t).1 = 0 → ∀ ow pa', post (x5 + 1) (ymo, yn, yw, yle, yfo, yli, yat, ysu, yid, ydp, ynm, yvl, yci, ycd, ypd, yqu, ygv, yls, yrs, yor, yan, yno, ow, pa'))
    (hj : (qc_af l o pa ct t).1 ≠ 0 → ∀ x2 x3 x4 ow pa', qc_Y (qc_af l o pa ct t) x2 x3 x4 ow pa' → J x2 x3 x4 (x5 + 1) yid ydp ynm yvl yci ycd ypd yqu ygv yls yrs yor yan yno ow pa') : wY_wrongPlace_89 post J x1 4 (nI l) (nI o) x5 t ymo yn yw yle yfo yli yat ysu yid ydp ynm yvl yci ycd ypd yqu ygv yls yrs yor yan yno yow ypa := by
  have hp := qc_sm_ge pa l h1
  unfold qc_af at h0 hj
  refine qc_y4 (p := pa l) h1 h2 h3 (by omega) (r3 l h1 (Nat.le_refl _)) (fun g => ?_) (fun g gp => ?_) (fun g gp => ?_) (fun g1 g2 g3 => ?_)
  · rw [if_pos g] at hj
    exact hj (by show (4 : Nat) ≠ 0; decide) _ _ _ _ _ ⟨rfl, rfl, rfl, r3, r5, fun j j1 j2 j3 => r6 j j1 j2 (by omega)⟩
  · rw [if_neg (by rw [g]; decide), if_pos ⟨g, gp⟩] at hj
    refine hj (by show (7 : Nat) ≠ 0; decide) _ _ _ _ _ ⟨rfl, rfl, rfl, fun j j1 j2 => ?_, r5, fun j j1 j2 j3 => r6 j j1 j2 (by omega)⟩
    by_cases e : j = l
    · rw [e, pk_us, qc_put_s]
    · rw [pk_un e, qc_put_n e]; exact r3 j j1 j2
  · rw [if_neg (by rw [g]; decide), if_neg (by rw [g]; exact fun z => absurd z.1 (by decide)), if_pos ⟨g, gp⟩] at hj
    exact hj (by show (3 : Nat) ≠ 0; decide) _ _ _ _ _ ⟨rfl, rfl, rfl, fun j j1 j2 => r3 j j1 (by omega), r5, fun j j1 j2 j3 => r6 j j1 (by omega) (by omega)⟩
  · rw [if_neg g1, if_neg g2, if_neg g3] at h0
    exact h0 rfl _ _
theorem qc_ynx {x6 : Int32} {s l o : Nat} {pa : Nat → Nat} {ct : Nat → Bool} (W : qc_W (s, l, o, pa, ct)) (R : qc_Y (s, l, o, pa, ct) x2 x3 x4 yow ypa)
    (h0 : (qc_nx (s, l, o, pa, ct) t).1 = 0 → ∀ ow pa', post (x5 + 1) (ymo, yn, yw, yle, yfo, yli, yat, ysu, yid, ydp, ynm, yvl, yci, ycd, ypd, yqu, ygv, yls, yrs, yor, yan, yno, ow, pa'))
    (hj : (qc_nx (s, l, o, pa, ct) t).1 ≠ 0 → ∀ x2 x3 x4 ow pa', qc_Y (qc_nx (s, l, o, pa, ct) t) x2 x3 x4 ow pa' → J x2 x3 x4 (x5 + 1) yid ydp ynm yvl yci ycd ypd yqu ygv yls yrs yor yan yno ow pa') :
    (x2 = 2 → ((t = 1 → wY_wrongPlace_89 post J x1 x2 x3 x4 x5 t ymo yn yw yle yfo yli yat ysu yid ydp ynm yvl yci ycd ypd yqu ygv yls yrs yor yan yno yow ypa) ∧ (¬ t = 1 → wpY_isAxis (fun r_72 => ((r_72 = 0 → (vp_in x3 8 ∧ ((yow x3.toNatClampNeg = 1 → wY_wrongPlace_88 post J x1 x3 x4 x5 t 4 ymo yn yw yle yfo yli yat ysu yid ydp ynm yvl yci ycd ypd yqu ygv yls yrs yor yan yno yow ypa) ∧ (¬ yow x3.toNatClampNeg = 1 → (vp_in x3 8 ∧ ((yow x3.toNatClampNeg = 2 → wY_wrongPlace_88 post J x1 x3 x4 x5 t 5 ymo yn yw yle yfo yli yat ysu yid ydp ynm yvl yci ycd ypd yqu ygv yls yrs yor yan yno yow ypa) ∧ (¬ yow x3.toNatClampNeg = 2 → wY_wrongPlace_88 post J x1 x3 x4 x5 t 7 ymo yn yw yle yfo yli yat ysu yid ydp ynm yvl yci ycd ypd yqu ygv yls yrs yor yan yno yow ypa))))))) ∧ (¬ r_72 = 0 → wY_wrongPlace_89 post J x1 x2 x3 x4 x5 t ymo yn yw yle yfo yli yat ysu yid ydp ynm yvl yci ycd ypd yqu ygv yls yrs yor yan yno yow ypa))) t))) ∧ (¬ x2 = 2 → wY_wrongPlace_89 post J x1 x2 x3 x4 x5 t ymo yn yw yle yfo yli yat ysu yid ydp ynm yvl yci ycd ypd yqu ygv yls yrs yor yan yno yow ypa) := by
  obtain ⟨w1, w2, w3, w4, w5, w6⟩ := W
  obtain ⟨rfl, rfl, rfl, r3, r5, r6⟩ := R
  have hs : s = 1 ∨ s = 2 ∨ s = 3 ∨ s = 4 ∨ s = 5 ∨ s = 6 ∨ s = 7 := by omega
  have il : vp_in (nI l) 8 := vp_in_nI (by omega) (by omega)
  have e1 : (nI l).toNatClampNeg = l := nI_clamp (by omega)
  rcases hs with rfl | rfl | rfl | rfl | rfl | rfl | rfl
  · rw [qc_nx_1] at h0 hj
    refine br_f (by decide) (qc_y0 (fun g => ?_) (fun g => ?_))
    · rw [if_pos g] at hj
      exact hj (by show (2 : Nat) ≠ 0; decide) _ _ _ _ _ ⟨rfl, rfl, rfl, r3, r5, fun j j1 j2 j3 => r6 j j1 j2 (by omega)⟩
    · rw [if_neg (by rw [g]; decide)] at h0; exact h0 rfl _ _
  · rw [qc_nx_2] at h0 hj
    refine br_f (by decide) (qc_y1 (fun g => ?_) (fun g => ?_))
    · rw [if_pos g] at hj
      exact hj (by show (3 : Nat) ≠ 0; decide) _ _ _ _ _ ⟨rfl, rfl, rfl, r3, r5, fun j j1 j2 j3 => r6 j j1 j2 (by omega)⟩
    · rw [if_neg (by rw [g]; decide)] at h0; exact h0 rfl _ _
  · rw [qc_nx_3] at h0 hj
    refine br_t rfl ?_
    unfold qc_sp at h0 hj
    by_cases g1 : t = 1
    · subst g1
      rw [if_neg (show ¬ qc_ax 1 = true by decide), if_pos rfl] at h0 hj
      refine br_t rfl (qc_y2b w3 (fun g a ea => ?_) (fun g => ?_))
      · rw [if_pos g] at hj
        refine hj (by show (4 : Nat) ≠ 0; decide) _ _ _ _ _ ⟨rfl, rfl, rfl, fun j j1 j2 => ?_, r5, fun j j1 j2 j3 => r6 j j1 (by omega) (by omega)⟩
        rw [ea]
        by_cases e : j = l + 1
        · rw [e, pk_us, qc_put_s]; rfl
        · rw [pk_un e, qc_put_n e]; exact r3 j j1 (by omega)
      · rw [if_neg (by omega)] at h0; exact h0 rfl _ _
    · refine br_f g1 (qc_yax (qa_br (fun g => ?_) (fun g => ?_)))
      · rw [if_neg (by rw [g]; decide), if_neg g1] at h0 hj
        refine ⟨il, ?_⟩
        rw [e1]
        by_cases g0 : l = 0
        · rw [if_pos g0] at h0
          subst g0
          exact br_f (by rw [r5]; decide) ⟨il, br_f (by rw [r5]; decide) (qc_y7 (h0 rfl _ _))⟩
        · rw [if_neg g0] at h0 hj
          have ew := r6 l (by omega) (Nat.le_refl _) (Or.inr (by omega))
          by_cases gc : ct l = true
          · rw [gc] at ew
            rw [if_pos gc] at h0 hj
            refine br_f (by rw [ew]; decide) ⟨il, br_t ew (qc_y5 (fun z => ?_) (fun z => ?_))⟩
            · rw [if_pos z] at hj
              exact hj (by show (6 : Nat) ≠ 0; decide) _ _ _ _ _ ⟨rfl, rfl, rfl, r3, r5, fun j j1 j2 j3 => r6 j j1 j2 (by omega)⟩
            · rw [if_neg (by rw [z]; decide)] at h0; exact h0 rfl _ _
          · rw [show ct l = false from by rw [← Bool.not_eq_true]; exact gc] at ew
            rw [if_neg gc] at h0 hj
            exact br_t ew (qc_yaf (s := 3) (by omega) w3 w4 w5 r3 r5 r6 h0 hj)
      · rw [if_pos g] at hj
        exact qc_y2a g (hj (by show (2 : Nat) ≠ 0; decide) _ _ _ _ _ ⟨rfl, rfl, rfl, r3, r5, fun j j1 j2 j3 => r6 j j1 j2 (by omega)⟩)
  · rw [qc_nx_4] at h0 hj
    have hl := w6 (by omega)
    refine br_f (by decide) (qc_y3 w3 w4 (fun g => ?_) (fun g => ?_) (fun g go => ?_) (fun g => ?_) (fun g => ?_) (fun g => ?_) (fun g => ?_))
    · have hne : t ≠ 7 ∧ t ≠ 3 ∧ ¬ (t = 8 ∨ t = 10) ∧ t ≠ 9 ∧ t ≠ 11 := by
        refine ⟨?_, ?_, ?_, ?_, ?_⟩
        · rintro rfl; exact absurd g (by decide)
        · rintro rfl; exact absurd g (by decide)
        · rintro (rfl | rfl) <;> exact absurd g (by decide)
        · rintro rfl; exact absurd g (by decide)
        · rintro rfl; exact absurd g (by decide)
      unfold qc_op at hj
      rw [if_neg hne.1, if_neg hne.2.1, if_neg hne.2.2.1, if_neg hne.2.2.2.1, if_neg hne.2.2.2.2, if_pos g] at hj
      refine hj (by show (2 : Nat) ≠ 0; decide) _ _ _ _ _ ⟨rfl, rfl, rfl, r3, ?_, fun j j1 j2 j3 => ?_⟩
      · rw [pk_un (by omega)]; exact r5
      · by_cases e : j = l
        · rw [e, pk_us, qc_put_s]; rfl
        · rw [pk_un e, qc_put_n e]; exact r6 j j1 j2 (by omega)
    · subst g
      exact hj (by show (4 : Nat) ≠ 0; decide) _ _ _ _ _ ⟨rfl, rfl, rfl, r3, r5, fun j j1 j2 j3 => r6 j j1 j2 j3⟩
    · subst g
      rw [show qc_op l o pa ct 3 = (if o < 4 then (4, l, o + 1, qc_put pa l (pa l + 1), ct) else (0, l, o, pa, ct)) from rfl, if_pos go] at hj
      refine hj (by show (4 : Nat) ≠ 0; decide) _ _ _ _ _ ⟨rfl, rfl, rfl, fun j j1 j2 => ?_, r5, fun j j1 j2 j3 => r6 j j1 j2 (by omega)⟩
      by_cases e : j = l
      · rw [e, pk_us, qc_put_s, r3 l hl (Nat.le_refl _), nI_1]
      · rw [pk_un e, qc_put_n e]; exact r3 j j1 j2
    · rcases g with rfl | rfl
      · exact hj (by show (5 : Nat) ≠ 0; decide) _ _ _ _ _ ⟨rfl, rfl, rfl, r3, r5, fun j j1 j2 j3 => r6 j j1 j2 (by rcases j3 with z | z; exact Or.inl z; exact absurd z (by show ¬ (5 ≤ 3); omega))⟩
      · exact hj (by show (5 : Nat) ≠ 0; decide) _ _ _ _ _ ⟨rfl, rfl, rfl, r3, r5, fun j j1 j2 j3 => r6 j j1 j2 (by rcases j3 with z | z; exact Or.inl z; exact absurd z (by show ¬ (5 ≤ 3); omega))⟩
    · subst g
      exact hj (by show (7 : Nat) ≠ 0; decide) _ _ _ _ _ ⟨rfl, rfl, rfl, r3, r5, fun j j1 j2 j3 => r6 j j1 j2 (by rcases j3 with z | z; exact Or.inl z; exact absurd z (by show ¬ (7 ≤ 3); omega))⟩
    · subst g
      rw [show qc_op l o pa ct 11 = (1, l, o, pa, qc_put ct l true) from rfl] at hj
      refine hj (by show (1 : Nat) ≠ 0; decide) _ _ _ _ _ ⟨rfl, rfl, rfl, r3, ?_, fun j j1 j2 j3 => ?_⟩
      · rw [pk_un (by omega)]; exact r5
      · by_cases e : j = l
        · rw [e, pk_us, qc_put_s]; rfl
        · rw [pk_un e, qc_put_n e]; exact r6 j j1 j2 (by omega)
    · rcases g with ⟨g, go⟩ | ⟨g1, g2, g3, g4, g5, g6, g7⟩
      · subst g
        rw [show qc_op l o pa ct 3 = (if o < 4 then (4, l, o + 1, qc_put pa l (pa l + 1), ct) else (0, l, o, pa, ct)) from rfl, if_neg (by omega)] at h0
        exact h0 rfl _ _
      · unfold qc_op at h0
        rw [if_neg g2, if_neg g3, if_neg (by rintro (z | z); exact g4 z; exact g5 z), if_neg g6, if_neg g7, if_neg g1] at h0
        exact h0 rfl _ _
  · rw [qc_nx_5] at h0 hj
    refine br_f (by decide) (qc_y5 (fun g => ?_) (fun g => ?_))
    · rw [if_pos g] at hj
      exact hj (by show (6 : Nat) ≠ 0; decide) _ _ _ _ _ ⟨rfl, rfl, rfl, r3, r5, fun j j1 j2 j3 => r6 j j1 j2 (by omega)⟩
    · rw [if_neg (by rw [g]; decide)] at h0; exact h0 rfl _ _
  · rw [qc_nx_6] at h0 hj
    refine br_f (by decide) (qc_y6 (fun g => ?_) (fun g => ?_))
    · rw [if_pos g] at hj
      exact hj (by show (7 : Nat) ≠ 0; decide) _ _ _ _ _ ⟨rfl, rfl, rfl, r3, r5, fun j j1 j2 j3 => r6 j j1 j2 (by omega)⟩
    · rw [if_neg (by rw [g]; decide)] at h0; exact h0 rfl _ _
  · rw [qc_nx_7] at h0 hj
    exact br_f (by decide) (qc_yaf (s := 7) (w6 (by omega)) w3 w4 w5 r3 r5 r6 h0 hj)
theorem qc_ywp {w : Nat} (hw : w ≤ 40) (h : ∀ ow pa, post (nI (qc_wp ypd w 0)) (ymo, yn, yw, yle, yfo, yli, yat, ysu, yid, ydp, ynm, yvl, yci, ycd, ypd, yqu, ygv, yls, yrs, yor, yan, yno, ow, pa)) : wpY_wrongPlace post (ymo, yn, yw, yle, yfo, yli, yat, ysu, yid, ydp, ynm, yvl, yci, ycd, ypd, yqu, ygv, yls, yrs, yor, yan, yno, yow, ypa) (nI w) := by
  have key : ∀ k i x2 x3 x4 ow pa, i + k = w → qc_W (qc_tr ypd i) → qc_Y (qc_tr ypd i) x2 x3 x4 ow pa → (∀ ow pa, post (nI (qc_wp ypd k i)) (ymo, yn, yw, yle, yfo, yli, yat, ysu, yid, ydp, ynm, yvl, yci, ycd, ypd, yqu, ygv, yls, yrs, yor, yan, yno, ow, pa)) → wY_wrongPlace_24 post (nI w) ymo yn yw yle yfo yli yat ysu (k + 1) x2 x3 x4 (nI i) yid ydp ynm yvl yci ycd ypd yqu ygv yls yrs yor yan yno ow pa := by
    intro k
    induction k with
    | zero =>
      intro i x2 x3 x4 ow pa e W R h
      simp only [qc_wp] at h
      refine br_t (nI_le (by omega) (by omega)) ?_
      have hl : x3 = nI (qc_tr ypd i).2.1 := R.2.1
      have hc : x2 = qc_cd (qc_tr ypd i).1 := R.1
      have w1 : 1 ≤ (qc_tr ypd i).1 := W.1
      have w2 : (qc_tr ypd i).1 ≤ 7 := W.2.1
      have w3 : (qc_tr ypd i).2.1 ≤ 3 := W.2.2.1
      have ew : w = i := by omega
      subst ew
      by_cases g : (qc_tr ypd w).1 = 3
      · refine br_t (by rw [hc, g]; decide) ?_
        rw [hl]
        refine pk_eq (qc_tr ypd w).2.1 0 (fun g2 => ?_) (fun g2 => ?_)
        · rw [if_pos ⟨g, g2⟩] at h; exact h _ _
        · rw [if_neg (fun z => g2 z.2)] at h; rw [nI_1]; exact h _ _
      · rw [if_neg (fun z => g z.1)] at h
        refine br_f ?_ (by rw [nI_1]; exact h _ _)
        rw [hc]
        generalize (qc_tr ypd w).1 = s at w1 w2 g
        have hs : s = 1 ∨ s = 2 ∨ s = 4 ∨ s = 5 ∨ s = 6 ∨ s = 7 := by omega
        rcases hs with rfl | rfl | rfl | rfl | rfl | rfl <;> decide
    | succ k ih =>
      intro i x2 x3 x4 ow pa e W R h
      simp only [qc_wp] at h
      refine br_f (nI_ge (by omega) (by omega)) ⟨vp_in_nI (by omega) (by omega), nm_r (e' := ypd i) (by rw [nI_clamp (by omega)]) ?_⟩
      have en : qc_nx (qc_tr ypd i) (ypd i) = qc_tr ypd (i + 1) := rfl
      refine qc_ynx (s := (qc_tr ypd i).1) (l := (qc_tr ypd i).2.1) (o := (qc_tr ypd i).2.2.1) (pa := (qc_tr ypd i).2.2.2.1) (ct := (qc_tr ypd i).2.2.2.2) (x6 := 0) W R (fun g ow' pa' => ?_) (fun g x2' x3' x4' ow' pa' R' => ?_)
      · have g : (qc_tr ypd (i + 1)).1 = 0 := g
        rw [if_pos g] at h
        rw [nI_1]; exact h _ _
      · have g : (qc_tr ypd (i + 1)).1 ≠ 0 := g
        rw [if_neg g] at h
        rw [nI_1]
        exact ih (i + 1) _ _ _ _ _ (by omega) (qc_W_nx W g) R' h
  refine fun a ea b eb => Exists.intro _ (key w 0 0 0 0 a b (by omega) qc_W_0 ⟨rfl, rfl, rfl, fun j j1 j2 => by omega, by rw [ea]; exact pk_us, fun j j1 j2 => by omega⟩ h)
end
