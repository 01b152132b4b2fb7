/-! Y: a predicate at a node, a list kept, a step -/
section
variable {ymo : Int32} {yn : Int32} {yw : Int32} {yle : Int32} {yfo : Int32} {yli : Int32} {yat : Int32} {ysu : Int64} {yid : (Nat → Int32)} {ydp : (Nat → Int32)} {ynm : (Nat → Int32)} {yvl : (Nat → Int32)} {yci : (Nat → Int32)} {ycd : (Nat → Int32)} {ypd : (Nat → Int32)} {yqu : (Nat → Int32)} {ygv : (Nat → Int64)} {yls : (Nat → Int32)} {yrs : (Nat → Int32)} {yor : (Nat → Int32)} {yan : (Nat → Int32)} {yno : (Nat → Int32)} {yow : (Nat → Int32)} {ypa : (Nat → Int32)}
variable {n len : Nat} {i d : Nat → Nat} {po q : Nat → Int32} {g : Nat → Int64}
theorem qs_yp29 {o x p m : Nat} {post : Int32 → SY → Prop} (H : qs_HY n i d yid ydp po len q yqu) (ho : o < len) (h1 : q o = 1) (hx : x < n) (hp : p < 2 ^ 31) (hm : m < 2 ^ 31)
    (Y : qs_YG q len n g ygv ((qc_tr q o).2.1 + 1)) (hg : ∀ t, t < len → qc_ax (q t) = true → ∀ c, c < n → ∀ y, qb (g (t * 40 + c)) y = true → y < n) :
    ∀ f K lv F at' yor yan yno O A Ng, qe_cl q len o - K ≤ f → qw_PO q len o K lv → qe_cl q len o - K < F → qs_RY lv yor yan yno O A Ng →
    (∀ at'' or' an' no', post (qa_b (qs_PE q len i yvl g x p m F K lv O A Ng)) (ymo, nI n, yw, nI len, yfo, yli, at'', ysu, yid, ydp, ynm, yvl, yci, ycd, ypd, yqu, ygv, yls, yrs, or', an', no', yow, ypa)) →
    wY_predicate_29 post (nI x) (nI p) (nI m) (f + 1) (nI lv) (nI K) ymo (nI n) yw (nI len) yfo yli at' ysu yid ydp ynm yvl yci ycd ypd yqu ygv yls yrs yor yan yno yow ypa := by
  obtain ⟨B, hl, G, hq, hy⟩ := id H
  obtain ⟨c1, c2, c3, c4, c5⟩ := qe_cl_spec G ho h1
  intro f
  induction f with
  | zero =>
    intro K lv F at' yor yan yno O A Ng hf P hF R hpost
    have hKc := P.2.1
    have eK : K = qe_cl q len o := by omega
    have iK : vp_in (nI K) 40 := vp_in_nI (by omega) (by omega)
    have e2 : yqu (nI K).toNatClampNeg = q K := by rw [nI_clamp (by omega)]; exact hy K (by omega)
    obtain ⟨F', rfl⟩ : ∃ F', F = F' + 1 := ⟨F - 1, by omega⟩
    have a1 : q K = 2 := by rw [eK]; exact c3
    obtain ⟨r1, r2, r3⟩ := R 0 (by omega)
    rw [qs_PE_2 a1] at hpost
    refine And.intro iK ?_
    rw [e2, r1, r2, qs_or]
    exact br_t a1 ⟨qa_bn _, hpost _ _ _ _⟩
  | succ f ih =>
    intro K lv F at' yor yan yno O A Ng hf P hF R hpost
    have hKc := P.2.1
    have iK : vp_in (nI K) 40 := vp_in_nI (by omega) (by omega)
    have e2 : yqu (nI K).toNatClampNeg = q K := by rw [nI_clamp (by omega)]; exact hy K (by omega)
    obtain ⟨F', rfl⟩ : ∃ F', F = F' + 1 := ⟨F - 1, by omega⟩
    have W := qe_W (k := K) G (by omega)
    have hlv : lv ≤ 4 := by
      have a : lv = (qc_tr q K).2.2.2.1 (qc_tr q K).2.1 := by rw [P.2.2.1]; exact P.2.2.2.1.symm
      have b := qc_sm_ge (qc_tr q K).2.2.2.1 (qc_tr q K).2.1 (by rw [P.2.2.1]; omega)
      have w4 : (qc_tr q K).2.2.1 ≤ 4 := W.2.2.2.1
      have w5 : (qc_tr q K).2.2.1 = qc_sm (qc_tr q K).2.2.2.1 (qc_tr q K).2.1 := W.2.2.2.2.1
      omega
    have il : vp_in (nI lv) 8 := vp_in_nI (by omega) (by omega)
    have el : (nI lv).toNatClampNeg = lv := nI_clamp (by omega)
    obtain ⟨r1, r2, r3⟩ := R lv (Nat.le_refl _)
    refine And.intro iK ?_
    rw [e2]
    rcases qw_next G ho h1 P with ⟨a1, a2, a3⟩ | ⟨a1, a2⟩ | ⟨a1, a2, a3⟩ | ⟨a1, a2⟩ | ⟨a1, a2, a3⟩ | ⟨a1, a2, a3⟩
    · rw [qs_PE_2 a1] at hpost
      obtain ⟨s1, s2, s3⟩ := R 0 (by omega)
      rw [s1, s2, qs_or]
      exact br_t a1 ⟨qa_bn _, hpost _ _ _ _⟩
    · rcases a1 with a1 | a1
      · have h2 := a2.2.1
        rw [qs_PE_5 a1] at hpost
        refine br_f (by rw [a1]; decide) ⟨iK, nm_r (e' := q K) (by rfl) (br_f (by rw [a1]; decide) ?_)⟩
        refine br_f (by rw [a1]; decide) (br_f (by rw [a1]; decide) (br_f (by rw [a1]; decide) (br_t a1 (nm_r (nI_1 K) (br_t rfl ?_)))))
        exact ih (K + 1) lv F' at' yor yan yno O A Ng (by omega) a2 (by omega) R hpost
      · have h2 := a2.2.1
        rw [qs_PE_6 a1] at hpost
        refine br_f (by rw [a1]; decide) ⟨iK, nm_r (e' := q K) (by rfl) (br_f (by rw [a1]; decide) ?_)⟩
        refine br_f (by rw [a1]; decide) (br_f (by rw [a1]; decide) (br_t a1 ⟨il, il, il, fun a ea => ⟨il, fun b eb => nm_r (nI_1 K) (br_t rfl ?_)⟩⟩))
        rw [el, r1, r2, qs_nor] at ea
        rw [el] at eb
        refine ih (K + 1) lv F' at' a b yno (qc_put O lv (O lv || A lv)) (qc_put A lv true) Ng (by omega) a2 (by omega) (fun j hj => ?_) hpost
        rw [ea, eb]
        obtain ⟨s1, s2, s3⟩ := R j hj
        by_cases e3 : j = lv
        · rw [e3, pk_us, pk_us, qc_put_s, qc_put_s]; exact ⟨rfl, rfl, r3⟩
        · rw [pk_un e3, pk_un e3, qc_put_n e3, qc_put_n e3]; exact ⟨s1, s2, s3⟩
    · have h2 := a3.2.1
      rw [qs_PE_4 a1] at hpost
      refine br_f (by rw [a1]; decide) ⟨iK, nm_r (e' := q K) (by rfl) (br_t a1 ?_)⟩
      refine br_f (by rw [a1]; decide) (br_f (by rw [a1]; decide) (br_f (by rw [a1]; decide) (br_f (by rw [a1]; decide) (br_t a1 ⟨il, il, nm_r (e' := qa_b (O lv || A lv)) (by rw [el, r1, r2, qs_or]) (nm_r (sb_m1 (p := lv) (by omega)) (nm_r (nI_1 K) ?_))⟩))))
      refine qs_yjo (lv := lv) (by omega) (by omega) R (fun an no R' => ?_)
      exact ih (K + 1) (lv - 1) F' at' yor an no O _ _ (by omega) a3 (by omega) (fun j hj => R' j (by omega)) hpost
    · have h2 := a2.2.1
      rw [qs_PE_7 a1] at hpost
      refine br_f (by rw [a1]; decide) ⟨iK, nm_r (e' := q K) (by rfl) (br_f (by rw [a1]; decide) ?_)⟩
      refine br_f (by rw [a1]; decide) (br_t a1 ⟨il, ?_⟩)
      rw [el, r3]
      refine qa_br (fun z => ⟨il, fun a ea => nm_r (nI_1 K) (br_t rfl ?_)⟩) (fun z => ⟨il, fun a ea => nm_r (nI_1 K) (br_t rfl ?_)⟩)
      · rw [el] at ea
        refine ih (K + 1) lv F' at' yor yan a O A (qc_put Ng lv (!Ng lv)) (by omega) a2 (by omega) (fun j hj => ?_) hpost
        rw [ea]
        obtain ⟨s1, s2, s3⟩ := R j hj
        by_cases e3 : j = lv
        · rw [e3, pk_us, qc_put_s, z]; exact ⟨r1, r2, rfl⟩
        · rw [pk_un e3, qc_put_n e3]; exact ⟨s1, s2, s3⟩
      · rw [el] at ea
        refine ih (K + 1) lv F' at' yor yan a O A (qc_put Ng lv (!Ng lv)) (by omega) a2 (by omega) (fun j hj => ?_) hpost
        rw [ea]
        obtain ⟨s1, s2, s3⟩ := R j hj
        by_cases e3 : j = lv
        · rw [e3, pk_us, qc_put_s, z]; exact ⟨r1, r2, rfl⟩
        · rw [pk_un e3, qc_put_n e3]; exact ⟨s1, s2, s3⟩
    · have h2 := a3.2.1
      rw [qs_PE_3 a1] at hpost
      have il1 : vp_in (nI (lv + 1)) 8 := vp_in_nI (by omega) (by omega)
      have el1 : (nI (lv + 1)).toNatClampNeg = lv + 1 := nI_clamp (by omega)
      refine br_f (by rw [a1]; decide) ⟨iK, nm_r (e' := q K) (by rfl) (br_f (by rw [a1]; decide) ?_)⟩
      refine br_t a1 (nm_r (nI_1 lv) ⟨il1, fun a ea => ⟨il1, fun b eb => ⟨il1, fun c ec => nm_r (nI_1 K) (br_t rfl ?_)⟩⟩⟩)
      rw [el1] at ea eb ec
      refine ih (K + 1) (lv + 1) F' at' a b c _ _ _ (by omega) a3 (by omega) (fun j hj => ?_) hpost
      rw [ea, eb, ec]
      by_cases e3 : j = lv + 1
      · rw [e3, pk_us, pk_us, pk_us, qc_put_s, qc_put_s, qc_put_s]; exact ⟨rfl, rfl, rfl⟩
      · rw [pk_un e3, pk_un e3, pk_un e3, qc_put_n e3, qc_put_n e3, qc_put_n e3]; exact R j (by omega)
    · rw [qs_PE_A a1] at hpost
      have nn := qs_nn a1
      have aec := a3.2.1
      refine br_f nn.1 ⟨iK, nm_r (e' := q K) (by rfl) (br_f nn.2.2.2.2.2 ?_)⟩
      refine br_f nn.2.1 (br_f nn.2.2.1 (br_f nn.2.2.2.1 (br_f nn.2.2.2.2.1 (br_f nn.2.2.2.2.2 ?_))))
      refine qs_yop H a1 hx hp hm Y hg ?_
      refine qs_yjo (lv := lv) (by omega) (Nat.le_refl _) R (fun an no R' => ?_)
      exact ih (qs_AE q len K) lv F' _ yor an no O _ _ (by omega) a3 (by omega) R' hpost
theorem qs_ypv {o x p m : Nat} {post : Int32 → SY → Prop} (H : qs_HY n i d yid ydp po len q yqu) (ho : o < len) (h1 : q o = 1) (hx : x < n) (hp : p < 2 ^ 31) (hm : m < 2 ^ 31)
    (Y : qs_YG q len n g ygv ((qc_tr q o).2.1 + 1)) (hg : ∀ t, t < len → qc_ax (q t) = true → ∀ c, c < n → ∀ y, qb (g (t * 40 + c)) y = true → y < n)
    (h : ∀ at' or' an' no', post (qa_b (qs_PV q len i yvl g o x p m)) (ymo, nI n, yw, nI len, yfo, yli, at', ysu, yid, ydp, ynm, yvl, yci, ycd, ypd, yqu, ygv, yls, yrs, or', an', no', yow, ypa)) :
    wpY_predicate post (ymo, nI n, yw, nI len, yfo, yli, yat, ysu, yid, ydp, ynm, yvl, yci, ycd, ypd, yqu, ygv, yls, yrs, yor, yan, yno, yow, ypa) (nI o) (nI x) (nI p) (nI m) := by
  obtain ⟨B, hl, G, hq, hy⟩ := id H
  obtain ⟨c1, c2, c3, c4, c5⟩ := qe_cl_spec G ho h1
  refine fun a ea b eb c ec => nm_r (nI_1 o) (Exists.intro (qe_cl q len o - (o + 1) + 1) ?_)
  refine qs_yp29 H ho h1 hx hp hm Y hg _ (o + 1) 0 len yat a b c (fun _ => false) (fun _ => true) (fun _ => false) (Nat.le_refl _) (qw_start G ho h1) (by omega) (fun j hj => ?_) h
  have : j = 0 := by omega
  subst this
  rw [ea, eb, ec, pk_us, pk_us, pk_us]
  exact ⟨rfl, rfl, rfl⟩
/-- Y's list: the set S in the order of the axis -/
def qs_LS (n : Nat) (rv : Bool) (S : Nat → Bool) (ls : Nat → Int32) : Prop := ∀ k, k < n → S (qs_rho n rv k) = true → ls (qt_cn (fun k => S (qs_rho n rv k)) k) = nI (qs_rho n rv k)
theorem qt_cn_lt {C : Nat → Bool} {a b : Nat} (h : a < b) (hc : C a = true) : qt_cn C a < qt_cn C b := by
  have := qt_cn_mono C (a + 1) b h
  simp only [qt_cn, hc, if_true] at this
  omega
theorem qt_cn_sub {C D : Nat → Bool} (h : ∀ k, D k = true → C k = true) : ∀ k, qt_cn D k ≤ qt_cn C k := by
  intro k
  induction k with
  | zero => exact Nat.le_refl _
  | succ k ih =>
    simp only [qt_cn]
    by_cases g : D k = true
    · rw [if_pos g, if_pos (h k g)]; omega
    · rw [if_neg g]; omega
theorem qs_ykp {o : Nat} {rv : Bool} {S : Nat → Bool} {post : SY → Prop} (H : qs_HY n i d yid ydp po len q yqu) (ho : o < len) (h1 : q o = 1)
    (Y : qs_YG q len n g ygv ((qc_tr q o).2.1 + 1)) (hg : ∀ t, t < len → qc_ax (q t) = true → ∀ c, c < n → ∀ y, qb (g (t * 40 + c)) y = true → y < n)
    (L : qs_LS n rv S yls) (h : ∀ at' ls or' an' no', qs_LS n rv (qs_FL q len i yvl g n rv o S) ls → post (ymo, nI n, yw, nI len, yfo, nI (qt_cn (qs_FL q len i yvl g n rv o S) n), at', ysu, yid, ydp, ynm, yvl, yci, ycd, ypd, yqu, ygv, ls, yrs, or', an', no', yow, ypa)) :
    wpY_keep post (ymo, nI n, yw, nI len, yfo, nI (qt_cn S n), yat, ysu, yid, ydp, ynm, yvl, yci, ycd, ypd, yqu, ygv, yls, yrs, yor, yan, yno, yow, ypa) (nI o) := by
  have hn := H.1.1.2
  have hm := qt_cn_le S n
  have hcard := qs_card n rv S
  have hcard2 := qs_card n rv (qs_FL q len i yvl g n rv o S)
  have sub : ∀ k, (fun k => (qs_FL q len i yvl g n rv o S) (qs_rho n rv k)) k = true → (fun k => S (qs_rho n rv k)) k = true := by
    intro k hk
    have hk : (S (qs_rho n rv k) && qs_PV q len i yvl g o (qs_rho n rv k) (qs_pos n rv S (qs_rho n rv k)) (qt_cn S n)) = true := hk
    rw [Bool.and_eq_true] at hk
    exact hk.1
  have key : ∀ f k at' ls or' an' no', k + f = n →
      (∀ x, x < k → (qs_FL q len i yvl g n rv o S) (qs_rho n rv x) = true → ls (qt_cn (fun k => (qs_FL q len i yvl g n rv o S) (qs_rho n rv k)) x) = nI (qs_rho n rv x)) →
      (∀ x, k ≤ x → x < n → S (qs_rho n rv x) = true → ls (qt_cn (fun k => S (qs_rho n rv k)) x) = nI (qs_rho n rv x)) →
      wY_keep_12 post (nI o) (nI (qt_cn S n)) (qt_cn S n - qt_cn (fun k => S (qs_rho n rv k)) k + 1) (nI (qt_cn (fun k => S (qs_rho n rv k)) k)) ymo (nI n) yw (nI len) yfo (nI (qt_cn (fun k => (qs_FL q len i yvl g n rv o S) (qs_rho n rv k)) k)) at' ysu yid ydp ynm yvl yci ycd ypd yqu ygv ls yrs or' an' no' yow ypa := by
    intro f
    induction f with
    | zero =>
      intro k at' ls or' an' no' e L1 L2
      have e : k = n := by omega
      subst e
      rw [hcard, hcard2]
      exact br_t (nI_le (Nat.le_refl _) (by omega)) (h _ _ _ _ _ (fun x hx hs => L1 x hx hs))
    | succ f ih =>
      intro k at' ls or' an' no' e L1 L2
      have hr := qs_rho_lt (n := n) (rv := rv) (k := k) (by omega)
      have hr2 := qs_rho_2 (n := n) (rv := rv) (k := k) (by omega)
      have csT : qt_cn (fun k => S (qs_rho n rv k)) (k + 1) = qt_cn (fun k => S (qs_rho n rv k)) k + if S (qs_rho n rv k) then 1 else 0 := rfl
      have csF : qt_cn (fun k => (qs_FL q len i yvl g n rv o S) (qs_rho n rv k)) (k + 1) = qt_cn (fun k => (qs_FL q len i yvl g n rv o S) (qs_rho n rv k)) k + if (qs_FL q len i yvl g n rv o S) (qs_rho n rv k) then 1 else 0 := rfl
      have leF := qt_cn_sub sub k
      have mT := qt_cn_mono (fun k => S (qs_rho n rv k)) (k + 1) n (by omega)
      rw [hcard] at mT
      by_cases gT : S (qs_rho n rv k) = true
      · rw [gT, if_pos rfl] at csT
        have efu : qt_cn S n - qt_cn (fun k => S (qs_rho n rv k)) k + 1 = (qt_cn S n - qt_cn (fun k => S (qs_rho n rv k)) (k + 1) + 1) + 1 := by omega
        rw [efu]
        have ij : vp_in (nI (qt_cn (fun k => S (qs_rho n rv k)) k)) 40 := vp_in_nI (by omega) (by omega)
        have ej : ls (nI (qt_cn (fun k => S (qs_rho n rv k)) k)).toNatClampNeg = nI (qs_rho n rv k) := by
          rw [nI_clamp (by omega)]; exact L2 k (Nat.le_refl _) (by omega) gT
        refine br_f (nI_ge (by omega) (by omega)) ⟨ij, ?_⟩
        rw [ej, nI_1]
        have epos : qs_pos n rv S (qs_rho n rv k) = qt_cn (fun k => S (qs_rho n rv k)) k + 1 := by
          unfold qs_pos
          rw [hr2, csT]
        refine qs_ypv H ho h1 hr (by omega) (by omega) Y hg (fun at2 or2 an2 no2 => qa_br (fun z => ?_) (fun z => ?_))
        · have fF : (qs_FL q len i yvl g n rv o S) (qs_rho n rv k) = false := by
            show (S (qs_rho n rv k) && _) = false
            rw [gT, epos, z]; rfl
          rw [fF] at csF
          have c := ih (k + 1) at2 ls or2 an2 no2 (by omega) (fun x hx hs => ?_) (fun x hx hx2 hs => L2 x (by omega) hx2 hs)
          · rw [csF, csT] at c
            rw [csT]
            exact nm_e c
          · by_cases e2 : x = k
            · rw [e2, fF] at hs; exact absurd hs (by decide)
            · exact L1 x (by omega) hs
        · have fF : (qs_FL q len i yvl g n rv o S) (qs_rho n rv k) = true := by
            show (S (qs_rho n rv k) && _) = true
            rw [gT, epos, z]; rfl
          rw [fF, if_pos rfl] at csF
          refine nm_r (nI_1 _) ⟨ij, vp_in_nI (by omega) (by omega), fun a ea => ?_⟩
          rw [ej, nI_clamp (by omega)] at ea
          have c := ih (k + 1) at2 a or2 an2 no2 (by omega) (fun x hx hs => ?_) (fun x hx hx2 hs => ?_)
          · rw [csF, csT] at c
            rw [csT]
            exact nm_e c
          · rw [ea]
            by_cases e2 : x = k
            · rw [e2, pk_us]
            · have := qt_cn_lt (C := fun k => (qs_FL q len i yvl g n rv o S) (qs_rho n rv k)) (show x < k by omega) hs
              rw [pk_un (by omega)]
              exact L1 x (by omega) hs
          · rw [ea]
            have := qt_cn_mono (fun k => S (qs_rho n rv k)) (k + 1) x (by omega)
            rw [pk_un (by omega)]
            exact L2 x (by omega) hx2 hs
      · have fT : S (qs_rho n rv k) = false := by rw [← Bool.not_eq_true]; exact gT
        have fF : (qs_FL q len i yvl g n rv o S) (qs_rho n rv k) = false := by
          show (S (qs_rho n rv k) && _) = false
          rw [fT]; rfl
        have csT' : qt_cn (fun k => S (qs_rho n rv k)) (k + 1) = qt_cn (fun k => S (qs_rho n rv k)) k := by rw [csT, fT]; rfl
        have csF' : qt_cn (fun k => (qs_FL q len i yvl g n rv o S) (qs_rho n rv k)) (k + 1) = qt_cn (fun k => (qs_FL q len i yvl g n rv o S) (qs_rho n rv k)) k := by rw [csF, fF]; rfl
        have c := ih (k + 1) at' ls or' an' no' (by omega) (fun x hx hs => ?_) (fun x hx hx2 hs => L2 x (by omega) hx2 hs)
        · rw [csT', csF'] at c; exact c
        · by_cases e2 : x = k
          · rw [e2, fF] at hs; exact absurd hs (by decide)
          · exact L1 x (by omega) hs
  exact Exists.intro _ (key n 0 _ _ _ _ _ (by omega) (fun x hx => by omega) (fun x _ hx hs => L x hx hs))
end
