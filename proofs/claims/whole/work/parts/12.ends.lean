/-! the trace of a query that is whole -/
theorem qc_tr_c {q q' : Nat → Int32} : ∀ k, (∀ x, x < k → q x = q' x) → qc_tr q k = qc_tr q' k := by
  intro k
  induction k with
  | zero => intro _; rfl
  | succ k ih => intro h; simp only [qc_tr]; rw [ih (fun x hx => h x (by omega)), h k (by omega)]
theorem qc_nx_0 (l o : Nat) (pa : Nat → Nat) (ct : Nat → Bool) (t : Int32) : (qc_nx (0, l, o, pa, ct) t).1 = 0 := rfl
theorem qc_tr_back {q : Nat → Int32} {k : Nat} (h : (qc_tr q (k + 1)).1 ≠ 0) : (qc_tr q k).1 ≠ 0 := by
  intro z
  apply h
  show (qc_nx (qc_tr q k) (q k)).1 = 0
  rcases hk : qc_tr q k with ⟨s, l, o, pa, ct⟩
  rw [hk] at z
  have z : s = 0 := z
  subst z
  exact qc_nx_0 l o pa ct (q k)
theorem qc_tr_all {q : Nat → Int32} {n : Nat} (h : (qc_tr q n).1 ≠ 0) : ∀ k, k ≤ n → (qc_tr q k).1 ≠ 0 := by
  induction n with
  | zero => intro k hk; have : k = 0 := by omega
            rw [this]; exact h
  | succ n ih =>
    intro k hk
    by_cases e : k = n + 1
    · rw [e]; exact h
    · exact ih (qc_tr_back h) k (by omega)
theorem qc_tr_W {q : Nat → Int32} : ∀ k, (qc_tr q k).1 ≠ 0 → qc_W (qc_tr q k) := by
  intro k
  induction k with
  | zero => intro _; exact qc_W_0
  | succ k ih => intro h; exact qc_W_nx (ih (qc_tr_back h)) h
/-- what one token does -/
def qc_Step (S S' : qc_St) (t : Int32) : Prop :=
  (t = 1 → S.1 = 3 ∧ S'.1 = 4 ∧ S'.2.1 = S.2.1 + 1 ∧ S'.2.2.2.1 (S.2.1 + 1) = 0) ∧
  (t = 2 → 1 ≤ S.2.1 ∧ S'.1 = 3 ∧ S'.2.1 + 1 = S.2.1 ∧ S.2.2.2.1 S.2.1 = 0) ∧
  (t ≠ 1 → t ≠ 2 → S'.2.1 = S.2.1) ∧
  (∀ j, j < S.2.1 → S'.2.2.2.1 j = S.2.2.2.1 j ∧ S'.2.2.2.2 j = S.2.2.2.2 j) ∧
  (t = 1 → S'.2.2.2.1 S.2.1 = S.2.2.2.1 S.2.1 ∧ S'.2.2.2.2 S.2.1 = S.2.2.2.2 S.2.1)
theorem qc_step_af {l o : Nat} {pa : Nat → Nat} {ct : Nat → Bool} {t : Int32} {s : Nat} (hl : 1 ≤ l) (h : (qc_af l o pa ct t).1 ≠ 0) : qc_Step (s, l, o, pa, ct) (qc_af l o pa ct t) t := by
  unfold qc_af at h ⊢
  by_cases g1 : t = 5 ∨ t = 6
  · rw [if_pos g1]
    refine ⟨?_, ?_, fun _ _ => rfl, fun j _ => ⟨rfl, rfl⟩, ?_⟩
    · rintro rfl; exact absurd g1 (by decide)
    · rintro rfl; exact absurd g1 (by decide)
    · rintro rfl; exact absurd g1 (by decide)
  · rw [if_neg g1] at h ⊢
    by_cases g2 : t = 4 ∧ 0 < pa l
    · rw [if_pos g2]
      refine ⟨?_, ?_, fun _ _ => rfl, fun j hj => ⟨qc_put_n (by have : j < l := hj; omega), rfl⟩, ?_⟩
      · rintro rfl; exact absurd g2.1 (by decide)
      · rintro rfl; exact absurd g2.1 (by decide)
      · rintro rfl; exact absurd g2.1 (by decide)
    · rw [if_neg g2] at h ⊢
      by_cases g3 : t = 2 ∧ pa l = 0
      · rw [if_pos g3]
        refine ⟨?_, fun _ => ⟨hl, rfl, by show l - 1 + 1 = l; omega, g3.2⟩, fun _ z => absurd g3.1 z, fun j _ => ⟨rfl, rfl⟩, ?_⟩
        · rintro rfl; exact absurd g3.1 (by decide)
        · rintro rfl; exact absurd g3.1 (by decide)
      · rw [if_neg g3] at h; exact absurd rfl h
theorem qc_step {S : qc_St} {t : Int32} (W : qc_W S) (h : (qc_nx S t).1 ≠ 0) : qc_Step S (qc_nx S t) t := by
  obtain ⟨s, l, o, pa, ct⟩ := S
  obtain ⟨w1, w2, w3, w4, w5, w6⟩ := W
  have hs : s = 1 ∨ s = 2 ∨ s = 3 ∨ s = 4 ∨ s = 5 ∨ s = 6 ∨ s = 7 := by omega
  rcases hs with rfl | rfl | rfl | rfl | rfl | rfl | rfl
  · rw [qc_nx_1] at h ⊢
    by_cases g : qc_ax t = true
    · rw [if_pos g]
      refine ⟨?_, ?_, fun _ _ => rfl, fun j _ => ⟨rfl, rfl⟩, ?_⟩ <;> (rintro rfl; exact absurd g (by decide))
    · rw [if_neg g] at h; exact absurd rfl h
  · rw [qc_nx_2] at h ⊢
    by_cases g : qc_nm t = true
    · rw [if_pos g]
      refine ⟨?_, ?_, fun _ _ => rfl, fun j _ => ⟨rfl, rfl⟩, ?_⟩ <;> (rintro rfl; exact absurd g (by decide))
    · rw [if_neg g] at h; exact absurd rfl h
  · rw [qc_nx_3] at h ⊢
    by_cases g0 : l = 0
    · unfold qc_sp at h ⊢
      by_cases g : qc_ax t = true
      · rw [if_pos g]
        refine ⟨?_, ?_, fun _ _ => rfl, fun j _ => ⟨rfl, rfl⟩, ?_⟩ <;> (rintro rfl; exact absurd g (by decide))
      · rw [if_neg g] at h ⊢
        by_cases g1 : t = 1
        · rw [if_pos g1] at h ⊢
          by_cases g3 : l < 3
          · rw [if_pos g3]
            refine ⟨fun _ => ⟨rfl, rfl, rfl, qc_put_s⟩, ?_, fun z => absurd g1 z, fun j hj => ⟨qc_put_n (by have : j < l := hj; omega), rfl⟩, fun _ => ⟨qc_put_n (show l ≠ l + 1 by omega), rfl⟩⟩
            rw [g1]; intro z; exact absurd z (by decide)
          · rw [if_neg g3] at h; exact absurd rfl h
        · rw [if_neg g1, if_pos g0] at h; exact absurd rfl h
    · unfold qc_sp at h ⊢
      by_cases g : qc_ax t = true
      · rw [if_pos g]
        refine ⟨?_, ?_, fun _ _ => rfl, fun j _ => ⟨rfl, rfl⟩, ?_⟩ <;> (rintro rfl; exact absurd g (by decide))
      · rw [if_neg g] at h ⊢
        by_cases g1 : t = 1
        · rw [if_pos g1] at h ⊢
          by_cases g3 : l < 3
          · rw [if_pos g3]
            refine ⟨fun _ => ⟨rfl, rfl, rfl, qc_put_s⟩, ?_, fun z => absurd g1 z, fun j hj => ⟨qc_put_n (by have : j < l := hj; omega), rfl⟩, fun _ => ⟨qc_put_n (show l ≠ l + 1 by omega), rfl⟩⟩
            rw [g1]; intro z; exact absurd z (by decide)
          · rw [if_neg g3] at h; exact absurd rfl h
        · rw [if_neg g1, if_neg g0] at h ⊢
          by_cases g2 : ct l = true
          · rw [if_pos g2] at h ⊢
            by_cases g3 : qc_cp t = true
            · rw [if_pos g3]
              refine ⟨?_, ?_, fun _ _ => rfl, fun j _ => ⟨rfl, rfl⟩, ?_⟩ <;> (rintro rfl; exact absurd g3 (by decide))
            · rw [if_neg g3] at h; exact absurd rfl h
          · rw [if_neg g2] at h ⊢
            exact qc_step_af (by omega) h
  · rw [qc_nx_4] at h ⊢
    unfold qc_op at h ⊢
    by_cases g1 : t = 7
    · rw [if_pos g1]
      refine ⟨?_, ?_, fun _ _ => rfl, fun j _ => ⟨rfl, rfl⟩, ?_⟩ <;> (rintro rfl; exact absurd g1 (by decide))
    · rw [if_neg g1] at h ⊢
      by_cases g2 : t = 3
      · rw [if_pos g2] at h ⊢
        by_cases g3 : o < 4
        · rw [if_pos g3]
          refine ⟨?_, ?_, fun _ _ => rfl, fun j hj => ⟨qc_put_n (by have : j < l := hj; omega), rfl⟩, ?_⟩ <;> (rintro rfl; exact absurd g2 (by decide))
        · rw [if_neg g3] at h; exact absurd rfl h
      · rw [if_neg g2] at h ⊢
        by_cases g3 : t = 8 ∨ t = 10
        · rw [if_pos g3]
          refine ⟨?_, ?_, fun _ _ => rfl, fun j _ => ⟨rfl, rfl⟩, ?_⟩ <;> (rintro rfl; exact absurd g3 (by decide))
        · rw [if_neg g3] at h ⊢
          by_cases g4 : t = 9
          · rw [if_pos g4]
            refine ⟨?_, ?_, fun _ _ => rfl, fun j _ => ⟨rfl, rfl⟩, ?_⟩ <;> (rintro rfl; exact absurd g4 (by decide))
          · rw [if_neg g4] at h ⊢
            by_cases g5 : t = 11
            · rw [if_pos g5]
              refine ⟨?_, ?_, fun _ _ => rfl, fun j hj => ⟨rfl, qc_put_n (by have : j < l := hj; omega)⟩, ?_⟩ <;> (rintro rfl; exact absurd g5 (by decide))
            · rw [if_neg g5] at h ⊢
              by_cases g6 : qc_ax t = true
              · rw [if_pos g6]
                refine ⟨?_, ?_, fun _ _ => rfl, fun j hj => ⟨rfl, qc_put_n (by have : j < l := hj; omega)⟩, ?_⟩ <;> (rintro rfl; exact absurd g6 (by decide))
              · rw [if_neg g6] at h; exact absurd rfl h
  · rw [qc_nx_5] at h ⊢
    by_cases g : qc_cp t = true
    · rw [if_pos g]
      refine ⟨?_, ?_, fun _ _ => rfl, fun j _ => ⟨rfl, rfl⟩, ?_⟩ <;> (rintro rfl; exact absurd g (by decide))
    · rw [if_neg g] at h; exact absurd rfl h
  · rw [qc_nx_6] at h ⊢
    by_cases g : qc_nu t = true
    · rw [if_pos g]
      refine ⟨?_, ?_, fun _ _ => rfl, fun j _ => ⟨rfl, rfl⟩, ?_⟩ <;> (rintro rfl; exact absurd g (by decide))
    · rw [if_neg g] at h; exact absurd rfl h
  · rw [qc_nx_7] at h ⊢
    exact qc_step_af (w6 (by omega)) h
/-- a whole query -/
def qe_G (q : Nat → Int32) (len : Nat) : Prop := (qc_tr q len).1 = 3 ∧ (qc_tr q len).2.1 = 0
theorem qe_nz {q : Nat → Int32} {len k : Nat} (G : qe_G q len) (h : k ≤ len) : (qc_tr q k).1 ≠ 0 := qc_tr_all (by rw [G.1]; omega) k h
theorem qe_W {q : Nat → Int32} {len k : Nat} (G : qe_G q len) (h : k ≤ len) : qc_W (qc_tr q k) := qc_tr_W k (qe_nz G h)
theorem qe_st {q : Nat → Int32} {len k : Nat} (G : qe_G q len) (h : k < len) : qc_Step (qc_tr q k) (qc_tr q (k + 1)) (q k) := qc_step (qe_W G (by omega)) (qe_nz (k := k + 1) G (by omega))
/-- where a bracket ends -/
def qe_CL (q : Nat → Int32) (len t m : Nat) : Prop := t < m ∧ m < len ∧ q m = 2 ∧ (qc_tr q (m + 1)).2.1 = (qc_tr q t).2.1 ∧ ∀ x, t < x → x ≤ m → (qc_tr q t).2.1 < (qc_tr q x).2.1
theorem qe_C_ge (q : Nat → Int32) : ∀ f e k, k ≤ qe_C q f e k := by
  intro f
  induction f with
  | zero => intro e k; exact Nat.le_refl _
  | succ f ih =>
    intro e k
    simp only [qe_C]
    split
    · exact Nat.le_trans (by omega) (ih _ _)
    · split
      · split
        · exact Nat.le_refl _
        · exact Nat.le_trans (by omega) (ih _ _)
      · exact Nat.le_trans (by omega) (ih _ _)
theorem qe_C_spec {q : Nat → Int32} {len : Nat} (G : qe_G q len) (L : Nat) : ∀ f e k, k + f = len → L + e = (qc_tr q k).2.1 → 1 ≤ e → qe_C q f e k < len ∧ q (qe_C q f e k) = 2 ∧ (qc_tr q (qe_C q f e k + 1)).2.1 = L ∧ ∀ x, k ≤ x → x ≤ qe_C q f e k → L < (qc_tr q x).2.1 := by
  intro f
  induction f with
  | zero =>
    intro e k hk he h1
    have : k = len := by omega
    rw [this, G.2] at he
    omega
  | succ f ih =>
    intro e k hk he h1
    obtain ⟨s1, s2, s3, _, _⟩ := qe_st G (show k < len by omega)
    simp only [qe_C]
    by_cases g1 : q k = 1
    · rw [if_pos g1]
      obtain ⟨a1, a2, a3, a4⟩ := ih (e + 1) (k + 1) (by omega) (by rw [(s1 g1).2.2.1]; omega) (by omega)
      refine ⟨a1, a2, a3, fun x hx hy => ?_⟩
      by_cases e' : x = k
      · rw [e']; omega
      · exact a4 x (by omega) hy
    · rw [if_neg g1]
      by_cases g2 : q k = 2
      · rw [if_pos g2]
        have := s2 g2
        by_cases g3 : e = 1
        · rw [if_pos g3]
          exact ⟨by omega, g2, by omega, fun x hx hy => by rw [show x = k by omega]; omega⟩
        · rw [if_neg g3]
          obtain ⟨a1, a2, a3, a4⟩ := ih (e - 1) (k + 1) (by omega) (by omega) (by omega)
          refine ⟨a1, a2, a3, fun x hx hy => ?_⟩
          by_cases e' : x = k
          · rw [e']; omega
          · exact a4 x (by omega) hy
      · rw [if_neg g2]
        obtain ⟨a1, a2, a3, a4⟩ := ih e (k + 1) (by omega) (by rw [s3 g1 g2]; omega) h1
        refine ⟨a1, a2, a3, fun x hx hy => ?_⟩
        by_cases e' : x = k
        · rw [e']; omega
        · exact a4 x (by omega) hy
theorem qe_cl_spec {q : Nat → Int32} {len t : Nat} (G : qe_G q len) (ht : t < len) (h1 : q t = 1) : qe_CL q len t (qe_cl q len t) := by
  have s := (qe_st G ht).1 h1
  obtain ⟨a1, a2, a3, a4⟩ := qe_C_spec G (qc_tr q t).2.1 (len - (t + 1)) 1 (t + 1) (by omega) (by rw [s.2.2.1]) (by omega)
  have a5 := qe_C_ge q (len - (t + 1)) 1 (t + 1)
  exact ⟨by unfold qe_cl; omega, a1, a2, a3, fun x hx hy => a4 x (by omega) hy⟩
theorem qe_cl_ge (q : Nat → Int32) (len t : Nat) : t + 1 ≤ qe_cl q len t := qe_C_ge q _ _ _
/-! ends of steps and paths -/
def qe_so (q : Nat → Int32) (len k : Nat) : Nat := qe_S q len (len - k) k
theorem qe_S_fuel (q : Nat → Int32) (len : Nat) : ∀ f k, len - k ≤ f → qe_S q len f k = qe_so q len k := by
  intro f
  induction f using Nat.strongRecOn with
  | _ f ih =>
    intro k h
    unfold qe_so
    have hg := qe_cl_ge q len k
    by_cases g : k < len ∧ q k = 1
    · obtain ⟨f', rfl⟩ : ∃ f', f = f' + 1 := ⟨f - 1, by omega⟩
      obtain ⟨m, hm⟩ : ∃ m, len - k = m + 1 := ⟨len - k - 1, by omega⟩
      rw [hm]
      simp only [qe_S]
      rw [if_pos g, if_pos g, ih f' (by omega) _ (by omega)]
      by_cases e : m < f' + 1
      · rw [ih m (by omega) _ (by omega)]
      · omega
    · have z : ∀ f, qe_S q len f k = k := by
        intro f
        cases f with
        | zero => rfl
        | succ f => simp only [qe_S]; rw [if_neg g]
      rw [z, z]
theorem qe_so_eq (q : Nat → Int32) (len k : Nat) : qe_so q len k = if k < len ∧ q k = 1 then qe_so q len (qe_cl q len k + 1) else k := by
  have hg := qe_cl_ge q len k
  by_cases g : k < len ∧ q k = 1
  · rw [if_pos g]
    obtain ⟨m, hm⟩ : ∃ m, len - k = m + 1 := ⟨len - k - 1, by omega⟩
    rw [show qe_so q len k = qe_S q len (len - k) k from rfl, hm]
    simp only [qe_S]
    rw [if_pos g, qe_S_fuel q len m _ (by omega)]
  · rw [if_neg g, show qe_so q len k = qe_S q len (len - k) k from rfl]
    cases len - k with
    | zero => rfl
    | succ f => simp only [qe_S]; rw [if_neg g]
theorem qe_se_so (q : Nat → Int32) (len t : Nat) : qe_se q len t = qe_so q len (t + 2) := rfl
theorem qe_so_ge (q : Nat → Int32) (len : Nat) : ∀ f k, len - k ≤ f → k ≤ qe_so q len k := by
  intro f
  induction f with
  | zero => intro k h; rw [qe_so_eq, if_neg (by omega)]; exact Nat.le_refl _
  | succ f ih =>
    intro k h
    have hg := qe_cl_ge q len k
    rw [qe_so_eq]
    split
    · have := ih (qe_cl q len k + 1) (by omega); omega
    · exact Nat.le_refl _
theorem qe_se_ge (q : Nat → Int32) (len t : Nat) : t + 2 ≤ qe_se q len t := qe_so_ge q len _ _ (Nat.le_refl _)
theorem qe_P_fuel (q : Nat → Int32) (len : Nat) : ∀ f k, len - k ≤ f → qe_P q len f k = qe_pe q len k := by
  intro f
  induction f using Nat.strongRecOn with
  | _ f ih =>
    intro k h
    unfold qe_pe
    have hg := qe_se_ge q len k
    by_cases g : k < len ∧ qc_ax (q k) = true
    · obtain ⟨f', rfl⟩ : ∃ f', f = f' + 1 := ⟨f - 1, by omega⟩
      obtain ⟨m, hm⟩ : ∃ m, len - k = m + 1 := ⟨len - k - 1, by omega⟩
      rw [hm]
      simp only [qe_P]
      rw [if_pos g, if_pos g, ih f' (by omega) _ (by omega)]
      by_cases e : m < f' + 1
      · rw [ih m (by omega) _ (by omega)]
      · omega
    · have z : ∀ f, qe_P q len f k = k := by
        intro f
        cases f with
        | zero => rfl
        | succ f => simp only [qe_P]; rw [if_neg g]
      rw [z, z]
theorem qe_pe_eq (q : Nat → Int32) (len k : Nat) : qe_pe q len k = if k < len ∧ qc_ax (q k) = true then qe_pe q len (qe_se q len k) else k := by
  have hg := qe_se_ge q len k
  by_cases g : k < len ∧ qc_ax (q k) = true
  · rw [if_pos g]
    obtain ⟨m, hm⟩ : ∃ m, len - k = m + 1 := ⟨len - k - 1, by omega⟩
    rw [show qe_pe q len k = qe_P q len (len - k) k from rfl, hm]
    simp only [qe_P]
    rw [if_pos g, qe_P_fuel q len m _ (by omega)]
  · rw [if_neg g, show qe_pe q len k = qe_P q len (len - k) k from rfl]
    cases len - k with
    | zero => rfl
    | succ f => simp only [qe_P]; rw [if_neg g]
/-- behind the brackets the step is done, at the same level, with what the level knows unchanged -/
def qe_Sm (S S' : qc_St) : Prop := S'.1 = 3 ∧ S'.2.1 = S.2.1 ∧ S'.2.2.2.1 S.2.1 = S.2.2.2.1 S.2.1 ∧ S'.2.2.2.2 S.2.1 = S.2.2.2.2 S.2.1
theorem qe_cl_same {q : Nat → Int32} {len t : Nat} (G : qe_G q len) (ht : t < len) (h1 : q t = 1) : qe_Sm (qc_tr q t) (qc_tr q (qe_cl q len t + 1)) := by
  obtain ⟨c1, c2, c3, c4, c5⟩ := qe_cl_spec G ht h1
  have s := (qe_st G c2).2.1 c3
  refine ⟨s.2.1, c4, ?_⟩
  have key : ∀ d x, x = t + 1 + d → x ≤ qe_cl q len t + 1 → (qc_tr q x).2.2.2.1 (qc_tr q t).2.1 = (qc_tr q t).2.2.2.1 (qc_tr q t).2.1 ∧ (qc_tr q x).2.2.2.2 (qc_tr q t).2.1 = (qc_tr q t).2.2.2.2 (qc_tr q t).2.1 := by
    intro d
    induction d with
    | zero => intro x e _; rw [e]; exact (qe_st G ht).2.2.2.2 h1
    | succ d ih =>
      intro x e hx
      have a := ih (t + 1 + d) rfl (by omega)
      have b := (qe_st G (show t + 1 + d < len by omega)).2.2.2.1 (qc_tr q t).2.1 (c5 _ (by omega) (by omega))
      rw [show x = t + 1 + d + 1 by omega]
      exact ⟨b.1.trans a.1, b.2.trans a.2⟩
  exact key (qe_cl q len t - t) (qe_cl q len t + 1) (by omega) (Nat.le_refl _)
theorem qe_Sm_refl {S : qc_St} (h : S.1 = 3) : qe_Sm S S := ⟨h, rfl, rfl, rfl⟩
theorem qe_Sm_trans {S S' S'' : qc_St} (h : qe_Sm S S') (h' : qe_Sm S' S'') : qe_Sm S S'' := by
  obtain ⟨a1, a2, a3, a4⟩ := h
  obtain ⟨b1, b2, b3, b4⟩ := h'
  rw [a2] at b2 b3 b4
  exact ⟨b1, b2, b3.trans a3, b4.trans a4⟩
theorem qe_so_spec {q : Nat → Int32} {len : Nat} (G : qe_G q len) : ∀ f k, len - k ≤ f → k ≤ len → (qc_tr q k).1 = 3 → qe_so q len k ≤ len ∧ qe_Sm (qc_tr q k) (qc_tr q (qe_so q len k)) ∧ (qe_so q len k < len → q (qe_so q len k) ≠ 1) := by
  intro f
  induction f with
  | zero =>
    intro k h hk hs
    rw [qe_so_eq, if_neg (by omega)]
    exact ⟨hk, qe_Sm_refl hs, fun z => by omega⟩
  | succ f ih =>
    intro k h hk hs
    rw [qe_so_eq]
    by_cases g : k < len ∧ q k = 1
    · rw [if_pos g]
      have c := qe_cl_spec G g.1 g.2
      have c1 := c.1
      have c2 := c.2.1
      have sm := qe_cl_same G g.1 g.2
      obtain ⟨a1, a2, a3⟩ := ih (qe_cl q len k + 1) (by omega) (by omega) sm.1
      exact ⟨a1, qe_Sm_trans sm a2, a3⟩
    · rw [if_neg g]
      exact ⟨hk, qe_Sm_refl hs, fun z y => g ⟨z, y⟩⟩
