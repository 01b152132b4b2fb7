/-! depth sequences: a tree in document order as the row of its depths -/
def qt_E (d : Nat → Nat) (a : Nat) : Nat → Nat → Nat
  | 0, q => q
  | f + 1, q => if d q ≤ a then q else qt_E d a f (q + 1)
def qt_en (n : Nat) (d : Nat → Nat) (r : Nat) : Nat := qt_E d (d r) (n - (r + 1)) (r + 1)
def qt_P (d : Nat → Nat) (a : Nat) : Nat → Nat
  | 0 => 0
  | q + 1 => if d (q + 1) < a then q + 1 else qt_P d a q
def qt_pr (d : Nat → Nat) (r : Nat) : Nat := qt_P d (d r) (r - 1)
def qt_D (n : Nat) (d : Nat → Nat) : Prop := d 0 = 0 ∧ ∀ r, 0 < r → r < n → 1 ≤ d r ∧ d r ≤ d (r - 1) + 1
def qt_PA (d : Nat → Nat) (q r : Nat) : Prop := q < r ∧ d q < d r ∧ ∀ x, q < x → x < r → d r ≤ d x
def qt_EN (n : Nat) (d : Nat → Nat) (r e : Nat) : Prop := r < e ∧ e ≤ n ∧ (∀ x, r < x → x < e → d r < d x) ∧ (e < n → d e ≤ d r)
theorem qt_E_spec (d : Nat → Nat) (a : Nat) : ∀ f q, q ≤ qt_E d a f q ∧ qt_E d a f q ≤ q + f ∧ (∀ x, q ≤ x → x < qt_E d a f q → a < d x) ∧ (qt_E d a f q < q + f → d (qt_E d a f q) ≤ a) := by
  intro f
  induction f with
  | zero => intro q; simp only [qt_E]; exact ⟨by omega, by omega, fun x _ _ => by omega, fun h => by omega⟩
  | succ f ih =>
    intro q
    simp only [qt_E]
    by_cases h : d q ≤ a
    · rw [if_pos h]; exact ⟨by omega, by omega, fun x _ _ => by omega, fun _ => h⟩
    · rw [if_neg h]
      obtain ⟨h1, h2, h3, h4⟩ := ih (q + 1)
      refine ⟨by omega, by omega, fun x hx hy => ?_, fun hh => h4 (by omega)⟩
      by_cases e : x = q
      · subst e; omega
      · exact h3 x (by omega) hy
theorem qt_en_spec {n : Nat} {d : Nat → Nat} {r : Nat} (h : r < n) : qt_EN n d r (qt_en n d r) := by
  obtain ⟨h1, h2, h3, h4⟩ := qt_E_spec d (d r) (n - (r + 1)) (r + 1)
  exact ⟨by unfold qt_en; omega, by unfold qt_en; omega, fun x hx hy => h3 x (by omega) hy, fun hh => h4 (by unfold qt_en at hh; omega)⟩
theorem qt_EN_uniq {n : Nat} {d : Nat → Nat} {r e e' : Nat} (h : qt_EN n d r e) (h' : qt_EN n d r e') : e = e' := by
  obtain ⟨a1, a2, a3, a4⟩ := h
  obtain ⟨b1, b2, b3, b4⟩ := h'
  rcases Nat.lt_trichotomy e e' with g | g | g
  · have := b3 e a1 g; have := a4 (by omega); omega
  · exact g
  · have := a3 e' b1 g; have := b4 (by omega); omega
theorem qt_en_eq {n : Nat} {d : Nat → Nat} {r e : Nat} (h : qt_EN n d r e) : qt_en n d r = e :=
  qt_EN_uniq (qt_en_spec (by have := h.1; have := h.2.1; omega)) h
theorem qt_P_spec (d : Nat → Nat) (a : Nat) (h0 : d 0 < a) : ∀ q, qt_P d a q ≤ q ∧ d (qt_P d a q) < a ∧ ∀ x, qt_P d a q < x → x ≤ q → a ≤ d x := by
  intro q
  induction q with
  | zero => simp only [qt_P]; exact ⟨by omega, h0, fun x _ _ => by omega⟩
  | succ q ih =>
    simp only [qt_P]
    by_cases h : d (q + 1) < a
    · rw [if_pos h]; exact ⟨by omega, h, fun x _ _ => by omega⟩
    · rw [if_neg h]
      obtain ⟨h1, h2, h3⟩ := ih
      refine ⟨by omega, h2, fun x hx hy => ?_⟩
      by_cases e : x = q + 1
      · subst e; omega
      · exact h3 x hx (by omega)
theorem qt_pr_spec {n : Nat} {d : Nat → Nat} {r : Nat} (D : qt_D n d) (h0 : 0 < r) (h : r < n) : qt_PA d (qt_pr d r) r := by
  have hd : d 0 < d r := by have := (D.2 r h0 h).1; have := D.1; omega
  obtain ⟨h1, h2, h3⟩ := qt_P_spec d (d r) hd (r - 1)
  exact ⟨by unfold qt_pr; omega, h2, fun x hx hy => h3 x hx (by omega)⟩
theorem qt_PA_uniq {d : Nat → Nat} {q q' r : Nat} (h : qt_PA d q r) (h' : qt_PA d q' r) : q = q' := by
  obtain ⟨a1, a2, a3⟩ := h
  obtain ⟨b1, b2, b3⟩ := h'
  rcases Nat.lt_trichotomy q q' with g | g | g
  · have := a3 q' g b1; omega
  · exact g
  · have := b3 q g a1; omega
theorem qt_pr_eq {d : Nat → Nat} {q r : Nat} (h : qt_PA d q r) : qt_pr d r = q := by
  obtain ⟨a1, a2, a3⟩ := h
  have key : ∀ k, q ≤ k → k < r → qt_P d (d r) k = q := by
    intro k
    induction k with
    | zero => intro hk _; simp only [qt_P]; omega
    | succ k ih =>
      intro hk hr
      simp only [qt_P]
      by_cases e : q = k + 1
      · subst e; rw [if_pos a2]
      · rw [if_neg (by have := a3 (k + 1) (by omega) hr; omega)]; exact ih (by omega) (by omega)
  exact key (r - 1) (by omega) (by omega)
theorem qt_pr_lt {n : Nat} {d : Nat → Nat} {r : Nat} (D : qt_D n d) (h0 : 0 < r) (h : r < n) : qt_pr d r < r := (qt_pr_spec D h0 h).1
theorem qt_PA_dep {n : Nat} {d : Nat → Nat} {q r : Nat} (D : qt_D n d) (h : r < n) (a : qt_PA d q r) : d r = d q + 1 := by
  obtain ⟨a1, a2, a3⟩ := a
  by_cases e : q + 1 = r
  · have := (D.2 r (by omega) h).2; subst e; simp only [Nat.add_sub_cancel] at this; omega
  · have h1 := a3 (q + 1) (by omega) (by omega)
    have h2 := (D.2 (q + 1) (by omega) (by omega)).2
    simp only [Nat.add_sub_cancel] at h2; omega
theorem qt_child {n : Nat} {d : Nat → Nat} {p r : Nat} (D : qt_D n d) (hp : p < n) (hr : r < n) : qt_PA d p r ↔ (p < r ∧ r < qt_en n d p ∧ d r = d p + 1) := by
  obtain ⟨e1, e2, e3, e4⟩ := qt_en_spec (d := d) hp
  constructor
  · intro a
    refine ⟨a.1, ?_, qt_PA_dep D hr a⟩
    by_cases g : r < qt_en n d p
    · exact g
    · have h1 := e4 (by omega)
      have h2 := a.2.1
      by_cases e : qt_en n d p = r
      · rw [e] at h1; omega
      · have := a.2.2 (qt_en n d p) e1 (by omega); omega
  · intro ⟨a1, a2, a3⟩
    exact ⟨a1, by omega, fun x hx hy => by have := e3 x hx (by omega); omega⟩
theorem qt_D_le {n : Nat} {d : Nat → Nat} (D : qt_D n d) : ∀ r, r < n → d r ≤ r := by
  intro r
  induction r with
  | zero => intro _; have := D.1; omega
  | succ r ih => intro h; have := (D.2 (r + 1) (by omega) h).2; simp only [Nat.add_sub_cancel] at this; have := ih (by omega); omega
theorem qt_en_root {n : Nat} {d : Nat → Nat} (D : qt_D n d) (hn : 0 < n) : qt_en n d 0 = n :=
  qt_en_eq ⟨hn, Nat.le_refl _, fun x hx hy => by have := (D.2 x hx hy).1; have := D.1; omega, fun h => by omega⟩
/-- the subtree of a node inside that of another -/
theorem qt_en_le {n : Nat} {d : Nat → Nat} {p r : Nat} (hp : p < n) (h1 : p < r) (h2 : r < qt_en n d p) : qt_en n d r ≤ qt_en n d p := by
  obtain ⟨e1, e2, e3, e4⟩ := qt_en_spec (d := d) hp
  obtain ⟨f1, f2, f3, f4⟩ := qt_en_spec (n := n) (d := d) (r := r) (by omega)
  by_cases g : qt_en n d r ≤ qt_en n d p
  · exact g
  · have := f3 (qt_en n d p) h2 (by omega); have := e4 (by omega); have := e3 r h1 h2; omega
/-! sizes: a node's size is one and the sizes of its children -/
def qt_S (n : Nat) (d : Nat → Nat) (q : Nat) : Nat → Nat
  | 0 => 0
  | k + 1 => qt_S n d q k + if qt_pr d (n - 1 - k) = q then qt_en n d (n - 1 - k) - (n - 1 - k) else 0
theorem qt_S_skip (n : Nat) (d : Nat → Nat) (q b : Nat) : ∀ c, b ≤ c → c ≤ n → (∀ x, b ≤ x → x < c → qt_pr d x ≠ q) → qt_S n d q (n - b) = qt_S n d q (n - c) := by
  intro c
  induction c with
  | zero => intro h1 _ _; have : b = 0 := by omega
            rw [this]
  | succ c ih =>
    intro h1 h2 h3
    by_cases e : b = c + 1
    · rw [e]
    · rw [ih (by omega) (by omega) (fun x hx hy => h3 x hx (by omega))]
      have e1 : n - c = (n - (c + 1)) + 1 := by omega
      have e2 : n - 1 - (n - (c + 1)) = c := by omega
      rw [e1, qt_S, e2, if_neg (h3 c (by omega) (by omega))]; rfl
theorem qt_S_one (n : Nat) (d : Nat → Nat) (q b : Nat) (h : b < n) : qt_S n d q (n - b) = qt_S n d q (n - (b + 1)) + if qt_pr d b = q then qt_en n d b - b else 0 := by
  have e1 : n - b = (n - (b + 1)) + 1 := by omega
  have e2 : n - 1 - (n - (b + 1)) = b := by omega
  rw [e1, qt_S, e2]
theorem qt_S_all {n : Nat} {d : Nat → Nat} (D : qt_D n d) {q : Nat} (hq : q < n) : ∀ k b, k = qt_en n d q - b → q < b → b ≤ qt_en n d q → (b = qt_en n d q ∨ qt_PA d q b) → qt_S n d q (n - b) = qt_en n d q - b := by
  obtain ⟨e1, e2, e3, e4⟩ := qt_en_spec (d := d) hq
  intro k
  induction k using Nat.strongRecOn with
  | _ k ih =>
    intro b hk h1 h2 h3
    by_cases e : b = qt_en n d q
    · rw [qt_S_skip n d q b n (by omega) (by omega)]
      · rw [Nat.sub_self, qt_S, e]; omega
      · intro x hx hy g
        have := qt_pr_spec D (by omega) hy
        rw [g] at this
        have := (qt_child D hq hy).mp this
        omega
    · have pa : qt_PA d q b := by rcases h3 with g | g; exact absurd g e; exact g
      have hb : b < n := by omega
      obtain ⟨f1, f2, f3, f4⟩ := qt_en_spec (d := d) hb
      have hle := qt_en_le (d := d) hq h1 (by omega)
      rw [qt_S_one n d q b hb, qt_pr_eq pa, if_pos rfl, qt_S_skip n d q (b + 1) (qt_en n d b) (by omega) f2]
      · have hdb := qt_PA_dep D hb pa
        rw [ih (qt_en n d q - qt_en n d b) (by omega) (qt_en n d b) rfl (by omega) hle]
        · omega
        · by_cases g : qt_en n d b = qt_en n d q
          · exact Or.inl g
          · right
            rw [qt_child D hq (by omega)]
            have := f4 (by omega)
            have := e3 (qt_en n d b) (by omega) (by omega)
            exact ⟨by omega, by omega, by omega⟩
      · intro x hx hy g
        have hx' : x < n := by omega
        have pa' := qt_pr_spec D (by omega) hx'
        rw [g] at pa'
        have := pa'.2.2 b h1 (by omega)
        have := f3 x (by omega) hy
        omega
theorem qt_S_size {n : Nat} {d : Nat → Nat} (D : qt_D n d) {q : Nat} (hq : q < n) : qt_S n d q (n - (q + 1)) = qt_en n d q - (q + 1) := by
  obtain ⟨e1, e2, e3, e4⟩ := qt_en_spec (d := d) hq
  refine qt_S_all D hq _ (q + 1) rfl (by omega) (by omega) ?_
  by_cases g : q + 1 = qt_en n d q
  · exact Or.inl g
  · right
    have h1 := e3 (q + 1) (by omega) (by omega)
    exact ⟨by omega, h1, fun x hx hy => by omega⟩
/-! a run cut out -/
def qt_cut (d : Nat → Nat) (p w : Nat) : Nat → Nat := fun x => if x < p then d x else d (x + w)
theorem qt_cut_lo {d : Nat → Nat} {p w x : Nat} (h : x < p) : qt_cut d p w x = d x := if_pos h
theorem qt_cut_hi {d : Nat → Nat} {p w x : Nat} (h : p ≤ x) : qt_cut d p w x = d (x + w) := if_neg (by omega)
theorem qt_cut_D {n : Nat} {d : Nat → Nat} {p w : Nat} (D : qt_D n d) (h0 : 0 < p) (hp : p < n) (hw : p + w = qt_en n d p) : qt_D (n - w) (qt_cut d p w) := by
  obtain ⟨e1, e2, e3, e4⟩ := qt_en_spec (d := d) hp
  refine ⟨by rw [qt_cut_lo h0]; exact D.1, fun r h1 h2 => ?_⟩
  by_cases g : r < p
  · rw [qt_cut_lo g, qt_cut_lo (by omega)]; exact D.2 r h1 (by omega)
  · rw [qt_cut_hi (by omega)]
    have a := D.2 (r + w) (by omega) (by omega)
    by_cases e : r = p
    · subst e
      rw [qt_cut_lo (by omega)]
      have b := D.2 r h0 hp
      rw [hw] at a ⊢
      have := e4 (by omega)
      exact ⟨a.1, by omega⟩
    · rw [qt_cut_hi (by omega)]
      rw [show r - 1 + w = r + w - 1 by omega]; exact a
theorem qt_cut_PA {n : Nat} {d : Nat → Nat} {p w q r : Nat} (D : qt_D n d) (h0 : 0 < p) (hp : p < n) (hw : p + w = qt_en n d p) (hr0 : 0 < r) (hr : r < n - w) (h : qt_PA d q (if r < p then r else r + w)) : qt_PA (qt_cut d p w) (if q < p then q else q - w) r ∧ (p ≤ q → p + w ≤ q) := by
  obtain ⟨e1, e2, e3, e4⟩ := qt_en_spec (d := d) hp
  obtain ⟨a1, a2, a3⟩ := h
  by_cases g : r < p
  · rw [if_pos g] at a1 a2 a3
    rw [if_pos (by omega)]
    refine ⟨⟨a1, by rw [qt_cut_lo (by omega), qt_cut_lo g]; exact a2, fun x hx hy => ?_⟩, fun h => by omega⟩
    rw [qt_cut_lo g, qt_cut_lo (by omega)]; exact a3 x hx hy
  · rw [if_neg g] at a1 a2 a3
    have key : q < p ∨ p + w ≤ q := by
      by_cases k1 : q < p
      · exact Or.inl k1
      · by_cases k2 : p + w ≤ q
        · exact Or.inr k2
        · exfalso
          have h1 := e4 (by omega)
          have h2 : d p ≤ d q := by
            by_cases e : q = p
            · rw [e]; exact Nat.le_refl _
            · have := e3 q (by omega) (by omega); omega
          by_cases e : r = p
          · rw [e, hw] at a2; omega
          · have := a3 (p + w) (by omega) (by omega); rw [hw] at this; omega
    by_cases k1 : q < p
    · rw [if_pos k1]
      refine ⟨⟨by omega, by rw [qt_cut_lo k1, qt_cut_hi (by omega)]; exact a2, fun x hx hy => ?_⟩, fun h => by omega⟩
      rw [qt_cut_hi (x := r) (by omega)]
      by_cases k : x < p
      · rw [qt_cut_lo k]; exact a3 x hx (by omega)
      · rw [qt_cut_hi (by omega)]; exact a3 (x + w) (by omega) (by omega)
    · rw [if_neg k1]
      have k2 : p + w ≤ q := by omega
      refine ⟨⟨by omega, ?_, fun x hx hy => ?_⟩, fun h => by omega⟩
      · rw [qt_cut_hi (by omega), qt_cut_hi (by omega), show q - w + w = q by omega]; exact a2
      · rw [qt_cut_hi (x := r) (by omega), qt_cut_hi (by omega)]; exact a3 (x + w) (by omega) (by omega)
/-! a run put in, as the child of t -/
def qt_ins (d : Nat → Nat) (s w : Nat) (b : Nat → Nat) : Nat → Nat := fun x => if x < s then d x else if x < s + w then b (x - s) else d (x - w)
theorem qt_ins_lo {d b : Nat → Nat} {s w x : Nat} (h : x < s) : qt_ins d s w b x = d x := if_pos h
theorem qt_ins_in {d b : Nat → Nat} {s w x : Nat} (h : s ≤ x) (h2 : x < s + w) : qt_ins d s w b x = b (x - s) := by
  unfold qt_ins; rw [if_neg (by omega), if_pos h2]
theorem qt_ins_hi {d b : Nat → Nat} {s w x : Nat} (h : s + w ≤ x) : qt_ins d s w b x = d (x - w) := by
  unfold qt_ins; rw [if_neg (by omega), if_neg (by omega)]
/-- where a child of t may be put: s is a child of t, or the rank behind its subtree -/
def qt_Sp (n : Nat) (d : Nat → Nat) (t s : Nat) : Prop := t < s ∧ s ≤ qt_en n d t ∧ (s < qt_en n d t → d s = d t + 1)
/-- a run that is a subtree with root depth D -/
def qt_B (w : Nat) (b : Nat → Nat) (D : Nat) : Prop := 0 < w ∧ b 0 = D ∧ ∀ k, 0 < k → k < w → D < b k ∧ b k ≤ b (k - 1) + 1
theorem qt_Sp_le {n : Nat} {d : Nat → Nat} {t s : Nat} (ht : t < n) (h : qt_Sp n d t s) (hs : s < n) : d s ≤ d t + 1 := by
  obtain ⟨e1, e2, e3, e4⟩ := qt_en_spec (d := d) ht
  by_cases g : s < qt_en n d t
  · have := h.2.2 g; omega
  · have e : s = qt_en n d t := by have := h.2.1; omega
    have := e4 (by omega); rw [e]; omega
theorem qt_ins_D {n : Nat} {d b : Nat → Nat} {t s w : Nat} (D : qt_D n d) (ht : t < n) (h : qt_Sp n d t s) (B : qt_B w b (d t + 1)) : qt_D (n + w) (qt_ins d s w b) := by
  obtain ⟨e1, e2, e3, e4⟩ := qt_en_spec (d := d) ht
  have h1 := h.1
  have h2 := h.2.1
  refine ⟨by rw [qt_ins_lo (by omega)]; exact D.1, fun r hr hr2 => ?_⟩
  by_cases g1 : r < s
  · rw [qt_ins_lo g1, qt_ins_lo (by omega)]; exact D.2 r hr (by omega)
  · by_cases g2 : r < s + w
    · rw [qt_ins_in (by omega) g2]
      by_cases e : r = s
      · subst e
        rw [qt_ins_lo (by omega), Nat.sub_self, B.2.1]
        refine ⟨by omega, ?_⟩
        by_cases k : r - 1 = t
        · rw [k]; omega
        · have := e3 (r - 1) (by omega) (by omega); omega
      · rw [qt_ins_in (by omega) (by omega)]
        have := B.2.2 (r - s) (by omega) (by omega)
        rw [show r - 1 - s = r - s - 1 by omega]
        exact ⟨by omega, this.2⟩
    · rw [qt_ins_hi (by omega)]
      by_cases e : r = s + w
      · subst e
        have hs : s < n := by omega
        rw [qt_ins_in (by have := B.1; omega) (by have := B.1; omega), show s + w - w = s by omega]
        have a := D.2 s (by omega) hs
        have c := qt_Sp_le ht h hs
        refine ⟨a.1, ?_⟩
        have : d t + 1 ≤ b (s + w - 1 - s) := by
          by_cases k : w = 1
          · rw [k, show s + 1 - 1 - s = 0 by omega, B.2.1]; exact Nat.le_refl _
          · have := B.2.2 (s + w - 1 - s) (by have := B.1; omega) (by have := B.1; omega); omega
        omega
      · rw [qt_ins_hi (by omega), show r - 1 - w = r - w - 1 by omega]; exact D.2 (r - w) (by omega) (by omega)
theorem qt_ins_PA_lo {n : Nat} {d b : Nat → Nat} {s w q r : Nat} (hr : r < s) (h : qt_PA d q r) : qt_PA (qt_ins d s w b) q r := by
  obtain ⟨a1, a2, a3⟩ := h
  refine ⟨a1, by rw [qt_ins_lo (by omega), qt_ins_lo hr]; exact a2, fun x hx hy => ?_⟩
  rw [qt_ins_lo hr, qt_ins_lo (by omega)]; exact a3 x hx hy
theorem qt_ins_PA_at {n : Nat} {d b : Nat → Nat} {t s w : Nat} (ht : t < n) (h : qt_Sp n d t s) (B : qt_B w b (d t + 1)) : qt_PA (qt_ins d s w b) t s := by
  obtain ⟨e1, e2, e3, e4⟩ := qt_en_spec (d := d) ht
  have es : qt_ins d s w b s = d t + 1 := by rw [qt_ins_in (Nat.le_refl _) (by have := B.1; omega), Nat.sub_self, B.2.1]
  refine ⟨h.1, by rw [es, qt_ins_lo h.1]; omega, fun x hx hy => ?_⟩
  rw [es, qt_ins_lo hy]
  have := e3 x hx (by have := h.2.1; omega); omega
theorem qt_ins_PA_in {d b : Nat → Nat} {s w q k : Nat} (hk : k < w) (h : qt_PA b q k) : qt_PA (qt_ins d s w b) (s + q) (s + k) := by
  obtain ⟨a1, a2, a3⟩ := h
  refine ⟨by omega, ?_, fun x hx hy => ?_⟩
  · rw [qt_ins_in (by omega) (by omega), qt_ins_in (by omega) (by omega), Nat.add_sub_cancel_left, Nat.add_sub_cancel_left]; exact a2
  · rw [qt_ins_in (x := s + k) (by omega) (by omega), qt_ins_in (by omega) (by omega), Nat.add_sub_cancel_left]; exact a3 (x - s) (by omega) (by omega)
theorem qt_ins_PA_hi {n : Nat} {d b : Nat → Nat} {t s w q r : Nat} (ht : t < n) (h : qt_Sp n d t s) (B : qt_B w b (d t + 1)) (hr : s ≤ r) (hn : r < n) (a : qt_PA d q r) : qt_PA (qt_ins d s w b) (if q < s then q else q + w) (r + w) := by
  obtain ⟨a1, a2, a3⟩ := a
  have er : qt_ins d s w b (r + w) = d r := by rw [qt_ins_hi (by omega), Nat.add_sub_cancel]
  by_cases g : q < s
  · rw [if_pos g]
    have hs : s < n := by omega
    have c := qt_Sp_le ht h hs
    have hrs : d r ≤ d t + 1 := by
      by_cases e : r = s
      · rw [e]; exact c
      · have := a3 s g (by omega); omega
    refine ⟨by omega, by rw [er, qt_ins_lo g]; exact a2, fun x hx hy => ?_⟩
    rw [er]
    by_cases g1 : x < s
    · rw [qt_ins_lo g1]; exact a3 x hx (by omega)
    · by_cases g2 : x < s + w
      · rw [qt_ins_in (by omega) g2]
        by_cases k : x = s
        · rw [k, Nat.sub_self, B.2.1]; exact hrs
        · have := B.2.2 (x - s) (by omega) (by omega); omega
      · rw [qt_ins_hi (by omega)]; exact a3 (x - w) (by omega) (by omega)
  · rw [if_neg g]
    refine ⟨by omega, by rw [er, qt_ins_hi (by omega), Nat.add_sub_cancel]; exact a2, fun x hx hy => ?_⟩
    rw [er, qt_ins_hi (by omega)]; exact a3 (x - w) (by omega) (by omega)
/-! counting -/
def qt_cn (C : Nat → Bool) : Nat → Nat
  | 0 => 0
  | r + 1 => qt_cn C r + if C r then 1 else 0
theorem qt_cn_le (C : Nat → Bool) : ∀ r, qt_cn C r ≤ r := by
  intro r
  induction r with
  | zero => exact Nat.le_refl _
  | succ r ih => simp only [qt_cn]; split <;> omega
theorem qt_cn_0 (C : Nat → Bool) : ∀ r, (∀ x, x < r → C x = false) → qt_cn C r = 0 := by
  intro r
  induction r with
  | zero => intro _; rfl
  | succ r ih => intro h; simp only [qt_cn]; rw [ih (fun x hx => h x (by omega)), h r (by omega)]; rfl
theorem qt_cn_mono (C : Nat → Bool) : ∀ a b, a ≤ b → qt_cn C a ≤ qt_cn C b := by
  intro a b h
  induction b with
  | zero => have : a = 0 := by omega
            rw [this]; exact Nat.le_refl _
  | succ b ih =>
    by_cases e : a = b + 1
    · rw [e]; exact Nat.le_refl _
    · have := ih (by omega); simp only [qt_cn]; omega
theorem qt_cn_inj {C : Nat → Bool} {a b : Nat} (ha : C a = true) (hb : C b = true) (h : qt_cn C a = qt_cn C b) : a = b := by
  rcases Nat.lt_trichotomy a b with g | g | g
  · have := qt_cn_mono C (a + 1) b (by omega); simp only [qt_cn, ha, if_true] at this; omega
  · exact g
  · have := qt_cn_mono C (b + 1) a (by omega); simp only [qt_cn, hb, if_true] at this; omega
theorem qt_cn_ex {C : Nat → Bool} {k : Nat} : ∀ n, k < qt_cn C n → ∃ r, r < n ∧ C r = true ∧ qt_cn C r = k := by
  intro n
  induction n with
  | zero => intro h; simp only [qt_cn] at h; omega
  | succ n ih =>
    intro h
    by_cases g : k < qt_cn C n
    · obtain ⟨r, a, b, c⟩ := ih g; exact ⟨r, by omega, b, c⟩
    · simp only [qt_cn] at h
      by_cases e : C n = true
      · rw [if_pos e] at h; exact ⟨n, by omega, e, by omega⟩
      · rw [if_neg e] at h; omega
