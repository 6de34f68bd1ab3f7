/-! orders: letters in the rows, words as numbers -/
def L5 (y : Int32) : Prop := ∃ x, x < 5 ∧ y = nI x
def LTR (f : Ar) : Prop := ∀ g, g < 6 → (f (17 * g + 1) = -1 ∨ L5 (f (17 * g + 1))) ∧ ∀ n, f (17 * g + 4) = nI n → n ≤ 12 → ∀ j, j < n → L5 (f (17 * g + 5 + j))
theorem LTR_DRY : LTR DRY := fun g hg => by
  have e : ∀ k, k < 17 → DRY (17 * g + k) = if k = 1 then -1 else 0 := fun k hk => by
    simp only [DRY]
    rw [show (17 * g + k) % 17 = k by omega]
  refine ⟨Or.inl (e 1 (by omega)), fun n hn h12 j hj => ?_⟩
  rw [e 4 (by omega), if_neg (by omega)] at hn
  have := (nI_eq (a := 0) (by omega) (by omega)).mp hn
  omega
theorem thR_L5 {f : Ar} {g : Nat} {kd x : Int32} (h : LTR f) (hg : g < 6) (hx : L5 x) : thR f g kd x = -1 ∨ L5 (thR f g kd x) := by
  simp only [thR]
  by_cases c : kd = 1
  · rw [if_pos c]; exact (h g hg).1
  · rw [if_neg c]
    by_cases c2 : thP f g kd x = true
    · rw [if_pos c2]; exact Or.inr hx
    · rw [if_neg c2]; exact Or.inl rfl
theorem LTR.th {f : Ar} {g : Nat} {kd x : Int32} (h : LTR f) (hg : g < 6) (hx : L5 x) : LTR (thF f g kd x) := fun i hi => by
  obtain ⟨h1, h2⟩ := h i hi
  refine ⟨?_, fun n hn h12 j hj => ?_⟩
  · by_cases e : i = g
    · rw [e, thF_1]
      by_cases c : kd = 1 ∨ kd = 2 ∨ kd = 4
      · rw [if_pos c]; exact Or.inr hx
      · rw [if_neg c, ← e]; exact h1
    · rw [thF_ge (fun k hk => by omega)]; exact h1
  · rw [thF_ge (fun k hk => by omega)] at hn ⊢
    exact h2 n hn h12 j hj
theorem LTR.out {f : Ar} {g m : Nat} {x : Int32} (h : LTR f) (hL : LN f m) (hm : m ≤ 11) (hg : g < 6) (hx : L5 x) : LTR (outF f g x) := fun i hi => by
  obtain ⟨h1, h2⟩ := h i hi
  obtain ⟨n0, e0, e1⟩ := hL g hg
  refine ⟨?_, fun n hn h12 j hj => ?_⟩
  · rw [outF_ne e0 (by omega) (by omega) (by omega)]; exact h1
  · by_cases e : i = g
    · subst e
      rw [outF_4, e0, ← nI_succ] at hn
      have := (nI_eq (by omega) (by omega)).mp hn
      by_cases ej : j = n0
      · rw [ej, outF_n e0 (by omega)]; exact hx
      · rw [outF_ne e0 (by omega) (by omega) (by omega)]
        exact h2 n0 e0 (by omega) j (by omega)
    · rw [outF_ne e0 (by omega) (by omega) (by omega)] at hn ⊢
      exact h2 n hn h12 j hj
theorem LTR.run {k w : Ar} (hW : WF w) : ∀ (n : Nat) (f : Ar) (m g : Nat) (x : Int32), LTR f → LN f m → m ≤ 11 → g < 6 → L5 x → LTR (runX n f k w g x).2
  | 0, f, m, g, x, h, hL, hm, hg, hx => h
  | n + 1, f, m, g, x, h, hL, hm, hg, hx => by
    simp only [runX]
    by_cases c1 : thR f g (k g) x = -1
    · rw [if_pos c1]; exact h.th hg hx
    · rw [if_neg c1]
      have hx2 := (thR_L5 (kd := k g) h hg hx).resolve_left c1
      by_cases c2 : w g = -1
      · rw [if_pos c2]; exact (h.th hg hx).out hL.th hm hg hx2
      · rw [if_neg c2]
        rcases hW g hg with q | ⟨t, ht, h5, h6⟩
        · exact absurd q c2
        · rw [ht, nI_clamp (by omega)]
          exact LTR.run hW n _ m t _ (h.th hg hx) hL.th hm h6 hx2
/-- the drops of a sequence fall -/
def rsq (k w rg rl : Ar) : List Nat → Ar → Ar
  | [], f => f
  | d :: s, f => rsq k w rg rl s (runX 6 f k w (rg d).toNatClampNeg (rl d)).2
theorem rsq_ok {k w rg rl : Ar} {R : Nat} (hW : WF w) (hg : RG rg R) (hl : LG rl R) : ∀ (s : List Nat) (f : Ar) (m : Nat), (∀ d, d ∈ s → d < R) → LN f m → LTR f → m + s.length ≤ 12 → LN (rsq k w rg rl s f) (m + s.length) ∧ LTR (rsq k w rg rl s f)
  | [], f, m, _, h1, h2, _ => ⟨h1, h2⟩
  | d :: s, f, m, hd, h1, h2, h3 => by
    rw [List.length_cons] at h3 ⊢
    obtain ⟨t, ht, h6⟩ := hg d (hd d List.mem_cons_self)
    obtain ⟨x, hx, h5⟩ := hl d (hd d List.mem_cons_self)
    simp only [rsq]
    rw [ht, nI_clamp (by omega)]
    have := rsq_ok (k := k) hW hg hl s (runX 6 f k w t (rl d)).2 (m + 1) (fun e he => hd e (List.mem_cons_of_mem _ he)) (LN.run hW 6 f m t _ h1 h6 (by omega)) (LTR.run hW 6 f m t _ h2 h1 (by omega) h6 ⟨x, h5, hx⟩) (by omega)
    rw [show m + (s.length + 1) = m + 1 + s.length by omega]
    exact this
def c5 (l : Nat → Nat) : Nat → Nat
  | 0 => 1
  | n + 1 => c5 l n * 5 + l n
def c6 (l : Nat → Nat) : Nat → Nat
  | 0 => 0
  | n + 1 => 6 * c6 l n + l n + 1
theorem c5_cong {l l' : Nat → Nat} : ∀ n, (∀ j, j < n → l j = l' j) → c5 l n = c5 l' n
  | 0, _ => rfl
  | n + 1, h => by simp only [c5]; rw [c5_cong n (fun j hj => h j (by omega)), h n (by omega)]
theorem c6_cong {l l' : Nat → Nat} : ∀ n, (∀ j, j < n → l j = l' j) → c6 l n = c6 l' n
  | 0, _ => rfl
  | n + 1, h => by simp only [c6]; rw [c6_cong n (fun j hj => h j (by omega)), h n (by omega)]
theorem c5_pos (l : Nat → Nat) : ∀ n, 1 ≤ c5 l n
  | 0 => Nat.le_refl _
  | n + 1 => by have := c5_pos l n; simp only [c5]; omega
theorem c5_inj {l l' : Nat → Nat} : ∀ n n', (∀ j, j < n → l j < 5) → (∀ j, j < n' → l' j < 5) → c5 l n = c5 l' n' → n = n' ∧ ∀ j, j < n → l j = l' j
  | 0, 0, _, _, _ => ⟨rfl, fun j hj => by omega⟩
  | 0, n' + 1, _, _, e => by have := c5_pos l' n'; simp only [c5] at e; omega
  | n + 1, 0, _, _, e => by have := c5_pos l n; simp only [c5] at e; omega
  | n + 1, n' + 1, h, h', e => by
    have b1 := h n (by omega)
    have b2 := h' n' (by omega)
    simp only [c5] at e
    obtain ⟨e1, e2⟩ := c5_inj n n' (fun j hj => h j (by omega)) (fun j hj => h' j (by omega)) (by omega)
    subst e1
    refine ⟨rfl, fun j hj => ?_⟩
    by_cases c : j = n
    · rw [c]; omega
    · exact e2 j (by omega)
theorem c6_inj {l l' : Nat → Nat} : ∀ n n', (∀ j, j < n → l j < 5) → (∀ j, j < n' → l' j < 5) → c6 l n = c6 l' n' → n = n' ∧ ∀ j, j < n → l j = l' j
  | 0, 0, _, _, _ => ⟨rfl, fun j hj => by omega⟩
  | 0, n' + 1, _, _, e => by simp only [c6] at e; omega
  | n + 1, 0, _, _, e => by simp only [c6] at e; omega
  | n + 1, n' + 1, h, h', e => by
    have b1 := h n (by omega)
    have b2 := h' n' (by omega)
    simp only [c6] at e
    obtain ⟨e1, e2⟩ := c6_inj n n' (fun j hj => h j (by omega)) (fun j hj => h' j (by omega)) (by omega)
    subst e1
    refine ⟨rfl, fun j hj => ?_⟩
    by_cases c : j = n
    · rw [c]; omega
    · exact e2 j (by omega)
theorem c5_lt {l : Nat → Nat} : ∀ n, (∀ j, j < n → l j < 5) → c5 l n < 2 * 5 ^ n
  | 0, _ => by simp [c5]
  | n + 1, h => by
    have := c5_lt n (fun j hj => h j (by omega))
    have b := h n (by omega)
    simp only [c5, Nat.pow_succ]
    omega
theorem c6_lt {l : Nat → Nat} : ∀ n, (∀ j, j < n → l j < 5) → c6 l n < 6 ^ n
  | 0, _ => by simp [c6]
  | n + 1, h => by
    have := c6_lt n (fun j hj => h j (by omega))
    have b := h n (by omega)
    simp only [c6, Nat.pow_succ]
    omega
/-- a gutter's word: its length, its letters, its numbers -/
def wN (f : Ar) (g : Nat) : Nat := (f (17 * g + 4)).toNatClampNeg
def wL (f : Ar) (g : Nat) : Nat → Nat := fun j => (f (17 * g + 5 + j)).toNatClampNeg
def id5 (g : Nat) (f : Ar) : Nat := c5 (wL f g) (wN f g)
def id6 (g : Nat) (f : Ar) : Nat := c6 (wL f g) (wN f g)
theorem wN_ok {f : Ar} {g m : Nat} (h : LN f m) (hg : g < 6) (hm : m ≤ 12) : f (17 * g + 4) = nI (wN f g) ∧ wN f g ≤ m := by
  obtain ⟨n, e, hn⟩ := h g hg
  simp only [wN]
  rw [e, nI_clamp (by omega)]
  exact ⟨rfl, hn⟩
theorem wL_ok {f : Ar} {g m j : Nat} (h : LN f m) (hl : LTR f) (hg : g < 6) (hm : m ≤ 12) (hj : j < wN f g) : f (17 * g + 5 + j) = nI (wL f g j) ∧ wL f g j < 5 := by
  obtain ⟨e, hn⟩ := wN_ok h hg hm
  obtain ⟨x, hx, ex⟩ := (hl g hg).2 _ e (by omega) j hj
  simp only [wL]
  rw [ex, nI_clamp (by omega)]
  exact ⟨rfl, hx⟩
theorem pow5 {n : Nat} (h : n ≤ 6) : 5 ^ n ≤ 15625 := Nat.pow_le_pow_right (n := 5) (by decide) h
theorem pow6 {n : Nat} (h : n ≤ 6) : 6 ^ n ≤ 46656 := Nat.pow_le_pow_right (n := 6) (by decide) h
theorem id5_lt {f : Ar} {g : Nat} (h : LN f 6) (hl : LTR f) (hg : g < 6) : id5 g f < 31264 := by
  have h1 := c5_lt (l := wL f g) (wN f g) (fun j hj => (wL_ok h hl hg (by omega) hj).2)
  have h2 := pow5 (wN_ok h hg (by omega)).2
  simp only [id5]
  omega
theorem id6_lt {f : Ar} {g : Nat} (h : LN f 6) (hl : LTR f) (hg : g < 6) : id6 g f < 55987 := by
  have h1 := c6_lt (l := wL f g) (wN f g) (fun j hj => (wL_ok h hl hg (by omega) hj).2)
  have h2 := pow6 (wN_ok h hg (by omega)).2
  simp only [id6]
  omega
theorem id56 {f f' : Ar} {g : Nat} (h : LN f 6) (hl : LTR f) (h' : LN f' 6) (hl' : LTR f') (hg : g < 6) : id5 g f = id5 g f' ↔ id6 g f = id6 g f' := by
  have b := fun j hj => (wL_ok h hl hg (by omega) (j := j) hj).2
  have b' := fun j hj => (wL_ok h' hl' hg (by omega) (j := j) hj).2
  refine ⟨fun e => ?_, fun e => ?_⟩
  · obtain ⟨e1, e2⟩ := c5_inj _ _ b b' e
    simp only [id6]
    rw [← e1]
    exact c6_cong _ e2
  · obtain ⟨e1, e2⟩ := c6_inj _ _ b b' e
    simp only [id5]
    rw [← e1]
    exact c5_cong _ e2
theorem wcF_c5 {m : Ar} {l : Nat → Nat} : ∀ n, (∀ j, j < n → m j = nI (l j)) → wcF m n = nI (c5 l n)
  | 0, _ => rfl
  | n + 1, h => by
    simp only [wcF, c5]
    rw [wcF_c5 n (fun j hj => h j (by omega)), h n (by omega), ← nI_add, ← pk_mul]
    rfl
theorem id6_cong {f f' : Ar} {g m : Nat} (h : EqR f f') (hL : LN f m) (hm : m ≤ 12) (hg : g < 6) : id6 g f = id6 g f' := by
  obtain ⟨e, hn⟩ := wN_ok hL hg hm
  have en : wN f g = wN f' g := by simp only [wN]; rw [h (17 * g + 4) (by omega)]
  simp only [id6]
  rw [← en]
  refine c6_cong _ (fun j hj => ?_)
  simp only [wL]
  rw [h (17 * g + 5 + j) (by omega)]
theorem rsq_cong {k k' w w' rg rg' rl rl' : Ar} {R : Nat} (hk : Eqn 6 k k') (hw : Eqn 6 w w') (hW : WF w) (hg : RG rg R) (h1 : Eqn R rg rg') (h2 : Eqn R rl rl') : ∀ (s : List Nat) (f f' : Ar), (∀ d, d ∈ s → d < R) → EqR f f' → EqR (rsq k w rg rl s f) (rsq k' w' rg' rl' s f')
  | [], _, _, _, h => h
  | d :: s, f, f', hd, h => by
    obtain ⟨t, ht, h6⟩ := hg d (hd d List.mem_cons_self)
    simp only [rsq]
    rw [← h1 d (hd d List.mem_cons_self), ← h2 d (hd d List.mem_cons_self), ht, nI_clamp (by omega)]
    exact rsq_cong hk hw hW hg h1 h2 s _ _ (fun e he => hd e (List.mem_cons_of_mem _ he)) (runX_cong hk hw hW 6 f f' t _ h h6).2
