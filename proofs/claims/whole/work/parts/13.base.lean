/-! pure rows, and the smallest contracts -/
abbrev Ar : Type := Nat → Int32
theorem forDn {P : Nat → Prop} {N : Nat} (hN : P N) (hs : ∀ k, k < N → P (k + 1) → P k) : ∀ k, k ≤ N → P k := by
  intro k hk
  obtain ⟨m, hm⟩ : ∃ m, m = N - k := ⟨_, rfl⟩
  induction m generalizing k with
  | zero =>
    have : k = N := by omega
    subst this
    exact hN
  | succ m ih => exact hs k (by omega) (ih (k + 1) (by omega) (by omega))
def fil (L : Nat) (x : Int32) (f : Ar) : Ar := fun j => if j < L then x else f j
theorem fil_0 {x : Int32} {f : Ar} : fil 0 x f = f := by funext j; simp [fil]
theorem fil_succ {k : Nat} {x : Int32} {f : Ar} : upd (fil k x f) k x = fil (k + 1) x f := by
  funext j
  simp only [upd, fil]
  by_cases h : j = k
  · subst h; simp
  · by_cases h2 : j < k
    · simp [h, h2, Nat.lt_succ_of_lt h2]
    · simp [h, h2, show ¬ j < k + 1 by omega]
/-- what copying the first n of g over f gives -/
def cpn (n : Nat) (g f : Ar) : Ar := fun j => if j < n then g j else f j
theorem cpn_0 {g f : Ar} : cpn 0 g f = f := by funext j; simp [cpn]
theorem cpn_succ {k : Nat} {g f : Ar} : upd (cpn k g f) k (g k) = cpn (k + 1) g f := by
  funext j
  simp only [upd, cpn]
  by_cases h : j = k
  · subst h; simp
  · by_cases h2 : j < k
    · simp [h, h2, Nat.lt_succ_of_lt h2]
    · simp [h, h2, show ¬ j < k + 1 by omega]
theorem va_cpy_0 (g f : Ar) (n : Nat) : va_cpy g f 0 0 n = cpn n g f := by
  funext j
  simp [va_cpy, cpn]
/-- a sum of the first n -/
def smI (f : Ar) : Nat → Int32
  | 0 => 0
  | n + 1 => smI f n + f n
theorem le_rfl32 (x : Int32) : x ≤ x := Int32.le_refl x
theorem t_fill {G : GG} {ad : Nat → Nat} {L : Nat} {f : Ar} {x : Int32} {Q : Option Value → va_W → Prop} (hL : L < 2 ^ 31) (h : Q none (arW G ad 0 L (fil L x f))) : J G mJ7_fill_53178 0 [(0, .ref (ad 0)), (1, .int x)] [] (arW G ad 0 L f) Q := by
  refine sg_J7_fill_53178_0 ?_
  have H : ∀ k, k ≤ L → J G mJ7_fill_53178 5 [(0, .ref (ad 0)), (1, .int x), (2, .int (nI k)), (3, .int (nI L))] [] (arW G ad 0 L (fil k x f)) Q := by
    refine forDn ?_ (fun k hk ih => ?_)
    · exact sg_J7_fill_53178_5 (br_t (le_rfl32 _) h)
    · refine sg_J7_fill_53178_5 (br_f (nI_ge hk hL) ⟨vp_in_nI hk hL, ?_⟩)
      rw [nI_clamp (by omega), fil_succ, ← nI_succ]
      exact ih
  have := H 0 (Nat.zero_le _)
  rw [fil_0] at this
  exact this
theorem t_copy {G : GG} {ad : Nat → Nat} {L : Nat} {f g : Ar} {Q : Option Value → va_W → Prop} (hL : L < 2 ^ 31) (h : Q none (arW G ad 0 L g ++ (arW G ad 1 L (cpn L g f)))) : J G mX7_copy 0 [(0, .ref (ad 0)), (1, .ref (ad 1))] [] (arW G ad 0 L g ++ (arW G ad 1 L f)) Q := by
  refine sg_X7_copy_0 ?_
  have H : ∀ k, k ≤ L → J G mX7_copy 2 [(0, .ref (ad 0)), (1, .ref (ad 1)), (2, .int (nI k))] [] (arW G ad 0 L g ++ (arW G ad 1 L (cpn k g f))) Q := by
    refine forDn ?_ (fun k hk ih => ?_)
    · exact sg_X7_copy_2 (br_t (le_rfl32 _) h)
    · refine sg_X7_copy_2 (br_f (nI_ge hk hL) ⟨vp_in_nI hk hL, vp_in_nI hk hL, ?_⟩)
      rw [nI_clamp (by omega), cpn_succ, ← nI_succ]
      exact ih
  have := H 0 (Nat.zero_le _)
  rw [cpn_0] at this
  exact this
theorem t_sum {G : GG} {ad : Nat → Nat} {L : Nat} {f : Ar} {Q : Option Value → va_W → Prop} (hL : L < 2 ^ 31) (h : Q (some (.int (smI f L))) (arW G ad 0 L f)) : J G mX4_sum 0 [(0, .ref (ad 0))] [] (arW G ad 0 L f) Q := by
  refine sg_X4_sum_0 ?_
  have H : ∀ k, k ≤ L → J G mX4_sum 10 [(0, .ref (ad 0)), (1, .int (smI f k)), (2, .ref (ad 0)), (3, .int (nI L)), (4, .int (nI k))] [] (arW G ad 0 L f) Q := by
    refine forDn ?_ (fun k hk ih => ?_)
    · exact sg_X4_sum_10 (br_t (le_rfl32 _) h)
    · refine sg_X4_sum_10 (br_f (nI_ge hk hL) ⟨vp_in_nI hk hL, ?_⟩)
      rw [nI_clamp (by omega), ← nI_succ]
      exact ih
  exact H 0 (Nat.zero_le _)
/-- in(v, low, high), of ints -/
theorem wide_le (a b : Int32) : a.toInt64 ≤ b.toInt64 ↔ a ≤ b := by
  rw [Int64.le_iff_toInt_le, Int32.le_iff_toInt_le, Int32.toInt_toInt64, Int32.toInt_toInt64]
theorem wide_lt (a b : Int32) : a.toInt64 < b.toInt64 ↔ a < b := by
  rw [Int64.lt_iff_toInt_lt, Int32.lt_iff_toInt_lt, Int32.toInt_toInt64, Int32.toInt_toInt64]
theorem t_in {G : GG} {x : Int32} {L H : Int64} {Q : Option Value → va_W → Prop} (lo hi : Int32) (h1 : lo.toInt64 = L) (h2 : hi.toInt64 = H) (h : Q (some (.int (if lo ≤ x ∧ x ≤ hi then 1 else 0))) []) : J G mX7_in 0 [(0, .long x.toInt64), (2, .long L), (4, .long H)] [] ([] : va_W) Q := by
  subst h1; subst h2
  refine sg_X7_in_0 (ad := fun q => q) ⟨fun c => ?_, fun c => ⟨fun c2 => ?_, fun c2 => ?_⟩⟩
  · rw [lg_cmp_lt, wide_lt] at c
    rw [if_neg (fun q => absurd q.1 (Int32.not_le.mpr c))] at h
    exact h
  · rw [lg_cmp_gt, wide_lt] at c2
    rw [if_neg (fun q => absurd q.2 (Int32.not_le.mpr c2))] at h
    exact h
  · rw [lg_cmp_lt, wide_lt] at c
    rw [lg_cmp_gt, wide_lt] at c2
    rw [if_pos ⟨Int32.not_lt.mp c, Int32.not_lt.mp c2⟩] at h
    exact h
theorem br_ite {c A B : Prop} [Decidable c] (h1 : ¬ c → A) (h2 : c → B) : ((if c then (1 : Int32) else 0) = 0 → A) ∧ (¬ (if c then (1 : Int32) else 0) = 0 → B) := by
  by_cases h : c
  · rw [if_pos h]; exact ⟨fun q => absurd q (by decide), fun _ => h2 h⟩
  · rw [if_neg h]; exact ⟨fun _ => h1 h, fun q => absurd rfl q⟩
theorem br_iten {c A B : Prop} [Decidable c] (h1 : ¬ c → A) (h2 : c → B) : (¬ (if c then (1 : Int32) else 0) = 0 → B) ∧ ((if c then (1 : Int32) else 0) = 0 → A) := (br_ite h1 h2).symm
