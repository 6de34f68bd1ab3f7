/-! what lies in range decides -/
def EqR (f f' : Ar) : Prop := ∀ i, i < 102 → f i = f' i
def Eqn (n : Nat) (a b : Ar) : Prop := ∀ j, j < n → a j = b j
theorem EqR.rfl' {f : Ar} : EqR f f := fun _ _ => rfl
theorem EqR.symm {f f' : Ar} (h : EqR f f') : EqR f' f := fun i hi => (h i hi).symm
theorem EqR.trans {f f' f2 : Ar} (h : EqR f f') (h2 : EqR f' f2) : EqR f f2 := fun i hi => (h i hi).trans (h2 i hi)
theorem thP_cong {f f' : Ar} {g : Nat} {kd x : Int32} (h : EqR f f') (hg : g < 6) : thP f g kd x = thP f' g kd x := by
  unfold thP
  rw [h (17 * g + 1) (by omega), h (17 * g + 2) (by omega)]
theorem thR_cong {f f' : Ar} {g : Nat} {kd x : Int32} (h : EqR f f') (hg : g < 6) : thR f g kd x = thR f' g kd x := by
  unfold thR
  rw [h (17 * g + 1) (by omega), thP_cong h hg]
theorem thF_cong {f f' : Ar} {g : Nat} {kd x : Int32} (h : EqR f f') (hg : g < 6) : EqR (thF f g kd x) (thF f' g kd x) := fun i hi => by
  simp only [thF]
  rw [h i hi, h (17 * g + 1) (by omega), thP_cong h hg]
theorem outF_cong {f f' : Ar} {g : Nat} {x : Int32} (h : EqR f f') (hg : g < 6) : EqR (outF f g x) (outF f' g x) := fun i hi => by
  simp only [outF]
  rw [h i hi, h (17 * g + 4) (by omega)]
theorem runX_cong {k k' w w' : Ar} (hk : Eqn 6 k k') (hw : Eqn 6 w w') (hW : WF w) : ∀ (n : Nat) (f f' : Ar) (g : Nat) (x : Int32), EqR f f' → g < 6 → (runX n f k w g x).1 = (runX n f' k' w' g x).1 ∧ EqR (runX n f k w g x).2 (runX n f' k' w' g x).2
  | 0, f, f', g, x, h, hg => ⟨rfl, h⟩
  | n + 1, f, f', g, x, h, hg => by
    simp only [runX]
    rw [← hk g hg, ← hw g hg, ← thR_cong h hg]
    by_cases c1 : thR f g (k g) x = -1
    · rw [if_pos c1, if_pos c1]
      exact ⟨rfl, thF_cong h hg⟩
    · rw [if_neg c1, if_neg c1]
      by_cases c2 : w g = -1
      · rw [if_pos c2, if_pos c2]
        exact ⟨rfl, outF_cong (thF_cong h hg) hg⟩
      · rw [if_neg c2, if_neg c2]
        rcases hW g hg with q | ⟨t, ht, h5, h6⟩
        · exact absurd q c2
        · rw [ht, nI_clamp (by omega)]
          exact runX_cong hk hw hW n _ _ t _ (thF_cong h hg) h6
theorem fallF_cong {k k' w w' rg rg' rl rl' f f' : Ar} (hk : Eqn 6 k k') (hw : Eqn 6 w w') (hW : WF w) (hf : EqR f f') : ∀ n, RG rg n → Eqn n rg rg' → Eqn n rl rl' → EqR (fallF k w rg rl f n) (fallF k' w' rg' rl' f' n)
  | 0, _, _, _ => hf
  | n + 1, h1, h2, h3 => by
    obtain ⟨t, ht, h6⟩ := h1 n (by omega)
    simp only [fallF]
    rw [← h2 n (by omega), ← h3 n (by omega), ht, nI_clamp (by omega)]
    exact (runX_cong hk hw hW 6 _ _ t _ (fallF_cong hk hw hW hf n (fun j hj => h1 j (by omega)) (fun j hj => h2 j (by omega)) (fun j hj => h3 j (by omega))) h6).2
theorem dryF_DRY {f : Ar} : EqR (dryF f) DRY := fun i hi => by simp only [dryF, DRY]; rw [if_pos hi]
/-- the rows behind all the rain -/
def FALL (k w rg rl : Ar) (n : Nat) : Ar := fallF k w rg rl DRY n
theorem LN_DRY {m : Nat} : LN DRY m := fun g hg => ⟨0, by simp only [DRY]; rw [if_neg (by omega)]; rfl, Nat.zero_le _⟩
theorem SR.cong {u d : Fm} {f f' : Ar} (h : SR u d f) (hf : EqR f f') : SR u d f' := fun g hg => by
  obtain ⟨a1, a2, a3, a4, a5, a6⟩ := h g hg
  rw [hf (17 * g) (by omega)] at a1
  rw [hf (17 * g + 1) (by omega)] at a2
  rw [hf (17 * g + 2) (by omega)] at a3
  rw [hf (17 * g + 3) (by omega)] at a4
  rw [hf (17 * g + 4) (by omega)] at a5 a6
  exact ⟨a1, a2, a3, a4, a5, fun j hj hl => by rw [← hf (17 * g + 5 + j) (by omega)]; exact a6 j hj hl⟩
theorem LN.cong {f f' : Ar} {m : Nat} (h : LN f m) (hf : EqR f f') : LN f' m := fun g hg => by
  obtain ⟨n, h1, h2⟩ := h g hg
  exact ⟨n, by rw [← hf (17 * g + 4) (by omega)]; exact h1, h2⟩
theorem outS_cong {f f' : Ar} (h : EqR f f') : ∀ n, n ≤ 6 → outS f n = outS f' n
  | 0, _ => rfl
  | n + 1, hn => by simp only [outS]; rw [outS_cong h n (by omega), h (17 * n + 4) (by omega)]
theorem smI_outS {u d : Fm} {f : Ar} (h : SR u d f) : ∀ n, n ≤ 6 → smI (u 6) n = outS f n
  | 0, _ => rfl
  | n + 1, hn => by simp only [smI, outS]; rw [smI_outS h n (by omega), (h n (by omega)).2.2.2.2.1]
/-- what is found goes with the rows -/
def fitM (f fn fr : Ar) : Nat → Bool
  | 0 => true
  | g + 1 => fitM f fn fr g && (decide (fn g = -1) || (decide (f (17 * g + 4) = fn g) && (List.range (fn g).toNatClampNeg).all (fun j => decide (f (17 * g + 5 + j) = fr (8 * g + j)))))
theorem all_cong {p q : Nat → Bool} {n : Nat} (h : ∀ j, j < n → p j = q j) : (List.range n).all p = (List.range n).all q := by
  rw [Bool.eq_iff_iff, List.all_eq_true, List.all_eq_true]
  exact ⟨fun z j hj => by rw [← h j (List.mem_range.mp hj)]; exact z j hj, fun z j hj => by rw [h j (List.mem_range.mp hj)]; exact z j hj⟩
theorem fitM_cong {f f' fn fr : Ar} (hF : FN fn) (h : EqR f f') : ∀ n, n ≤ 6 → fitM f fn fr n = fitM f' fn fr n
  | 0, _ => rfl
  | g + 1, hn => by
    simp only [fitM]
    rw [fitM_cong hF h g (by omega), h (17 * g + 4) (by omega)]
    congr 3
    rcases hF g (by omega) with q | ⟨n, q, q8⟩
    · rw [q]; rfl
    · rw [q, nI_clamp (by omega)]
      exact all_cong (fun j hj => by rw [h (17 * g + 5 + j) (by omega)])
def FD (fn : Ar) (fd : Fm) (fr : Ar) : Prop := ∀ g, g < 6 → ∀ n, fn g = nI n → n ≤ 8 → ∀ j, j < n → fd g j = fr (8 * g + j)
theorem fitB_fitM {u d fd : Fm} {f fn fn' fr : Ar} (hS : SR u d f) (hF : FN fn) (he : Eqn 6 fn' fn) (hD : FD fn fd fr) : ∀ n, n ≤ 6 → fitB fn' fd u d n = fitM f fn fr n
  | 0, _ => rfl
  | g + 1, hn => by
    rw [fitB_succ, fitB_fitM hS hF he hD g (by omega), he g (by omega)]
    simp only [fitM]
    rcases hF g (by omega) with q | ⟨n, q, q8⟩
    · rw [q]; simp
    · congr 2
      rw [q, nI_clamp (by omega)]
      simp only [wdB]
      obtain ⟨-, -, -, -, a5, a6⟩ := hS g (by omega)
      rw [a5]
      by_cases e : f (17 * g + 4) = nI n
      · rw [e]
        simp only [decide_true, Bool.true_and]
        exact all_cong (fun j hj => by rw [a6 j (by omega) (by rw [e]; exact nI_lt hj (by omega)), hD g (by omega) n q q8 j hj])
      · simp [e]
