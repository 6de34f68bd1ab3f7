/-! orders: the sequences of drops, and how many words are unlike -/
def fac : Nat → Nat
  | 0 => 1
  | n + 1 => fac n * (n + 1)
theorem fac_pos : ∀ n, 0 < fac n
  | 0 => Nat.one_pos
  | n + 1 => Nat.mul_pos (fac_pos n) (Nat.succ_pos n)
/-- what is left when place p is taken and the last put there -/
def lft (le : Nat → Nat) (p n : Nat) : Nat → Nat := fun i => if i = p then le n else le i
def sq : Nat → (Nat → Nat) → Nat → List Nat
  | 0, _, _ => []
  | n + 1, le, r => le (r % (n + 1)) :: sq n (lft le (r % (n + 1)) n) (r / (n + 1))
theorem sq_len : ∀ n le r, (sq n le r).length = n
  | 0, _, _ => rfl
  | n + 1, le, r => by simp only [sq, List.length_cons]; rw [sq_len n]
theorem sq_mem : ∀ n le r x, x ∈ sq n le r → ∃ p, p < n ∧ le p = x
  | 0, _, _, x, h => by simp [sq] at h
  | n + 1, le, r, x, h => by
    simp only [sq, List.mem_cons] at h
    have hq : r % (n + 1) < n + 1 := Nat.mod_lt r (Nat.succ_pos n)
    rcases h with h | h
    · exact ⟨_, hq, h.symm⟩
    · obtain ⟨p, hp, e⟩ := sq_mem n _ _ x h
      simp only [lft] at e
      by_cases c : p = r % (n + 1)
      · rw [if_pos c] at e; exact ⟨n, by omega, e⟩
      · rw [if_neg c] at e; exact ⟨p, by omega, e⟩
theorem sq_sur : ∀ n le r p, p < n → le p ∈ sq n le r
  | 0, _, _, p, h => by omega
  | n + 1, le, r, p, h => by
    simp only [sq, List.mem_cons]
    have hq : r % (n + 1) < n + 1 := Nat.mod_lt r (Nat.succ_pos n)
    by_cases c : p = r % (n + 1)
    · exact Or.inl (by rw [← c])
    · right
      by_cases c2 : p = n
      · have := sq_sur n (lft le (r % (n + 1)) n) (r / (n + 1)) (r % (n + 1)) (by omega)
        have e : lft le (r % (n + 1)) n (r % (n + 1)) = le p := by simp [lft, c2]
        rw [e] at this
        exact this
      · have := sq_sur n (lft le (r % (n + 1)) n) (r / (n + 1)) p (by omega)
        have e : lft le (r % (n + 1)) n p = le p := by simp [lft, c]
        rw [e] at this
        exact this
def Inj (le : Nat → Nat) (n : Nat) : Prop := ∀ i j, i < n → j < n → le i = le j → i = j
theorem ph : ∀ (n : Nat) (le : Nat → Nat) (s : List Nat), Inj le n → (∀ p, p < n → le p ∈ s) → n ≤ s.length
  | 0, _, _, _, _ => Nat.zero_le _
  | n + 1, le, s, hi, hs => by
    have h1 := hs n (by omega)
    have h2 := ph n le (s.erase (le n)) (fun i j a b e => hi i j (by omega) (by omega) e) (fun p hp => (List.mem_erase_of_ne (fun e => by have := hi p n (by omega) (by omega) e; omega)).mpr (hs p (by omega)))
    rw [List.length_erase_of_mem h1] at h2
    have := List.length_pos_of_mem h1
    omega
theorem sq_onto : ∀ (n : Nat) (le : Nat → Nat) (s : List Nat), Inj le n → s.length = n → (∀ p, p < n → le p ∈ s) → ∃ o, o < fac n ∧ sq n le o = s
  | 0, le, s, hi, hl, hs => ⟨0, by decide, by simp only [sq]; exact (List.eq_nil_of_length_eq_zero hl).symm⟩
  | n + 1, le, [], hi, hl, hs => by simp at hl
  | n + 1, le, x :: s, hi, hl, hs => by
    have hl : s.length = n := by simpa using hl
    have hx : ∃ p, p < n + 1 ∧ le p = x := by
      refine Decidable.byContradiction (fun hno => ?_)
      have := ph (n + 1) le s hi (fun p hp => by
        have h := hs p hp
        rw [List.mem_cons] at h
        exact h.resolve_left (fun e => hno ⟨p, hp, e⟩))
      omega
    obtain ⟨p, hp, ep⟩ := hx
    have hinj : Inj (lft le p n) n := by
      intro i j h1 h2 e
      simp only [lft] at e
      by_cases c1 : i = p
      · by_cases c2 : j = p
        · omega
        · rw [if_pos c1, if_neg c2] at e
          have := hi n j (by omega) (by omega) e
          omega
      · by_cases c2 : j = p
        · rw [if_neg c1, if_pos c2] at e
          have := hi i n (by omega) (by omega) e
          omega
        · rw [if_neg c1, if_neg c2] at e
          exact hi i j (by omega) (by omega) e
    obtain ⟨o, ho, eo⟩ := sq_onto n (lft le p n) s hinj hl (fun q hq => by
      have key : ∀ r, r < n + 1 → r ≠ p → le r ∈ s := fun r hr hne => by
        have h := hs r hr
        rw [List.mem_cons] at h
        exact h.resolve_left (fun e => hne (hi r p hr hp (by rw [e, ep])))
      simp only [lft]
      by_cases c : q = p
      · rw [if_pos c]; exact key n (by omega) (by omega)
      · rw [if_neg c]; exact key q (by omega) c)
    refine ⟨p + (n + 1) * o, ?_, ?_⟩
    · simp only [fac]
      have : (n + 1) * (o + 1) ≤ (n + 1) * fac n := Nat.mul_le_mul_left _ ho
      rw [Nat.mul_add, Nat.mul_one] at this
      rw [Nat.mul_comm (fac n)]
      omega
    · simp only [sq]
      have e1 : (p + (n + 1) * o) % (n + 1) = p := by rw [Nat.add_mul_mod_self_left, Nat.mod_eq_of_lt hp]
      have e2 : (p + (n + 1) * o) / (n + 1) = o := by rw [Nat.add_mul_div_left _ _ (Nat.succ_pos n), Nat.div_eq_of_lt hp, Nat.zero_add]
      rw [e1, e2, ep, eo]
def dgs (m : Nat) : Nat → Nat → List Nat
  | 0, _ => []
  | k + 1, c => c % m :: dgs m k (c / m)
theorem dgs_len (m : Nat) : ∀ k c, (dgs m k c).length = k
  | 0, _ => rfl
  | k + 1, c => by simp only [dgs, List.length_cons]; rw [dgs_len m k]
theorem dgs_lt {m : Nat} (hm : 0 < m) : ∀ k c x, x ∈ dgs m k c → x < m
  | 0, _, x, h => by simp [dgs] at h
  | k + 1, c, x, h => by
    simp only [dgs, List.mem_cons] at h
    rcases h with h | h
    · rw [h]; exact Nat.mod_lt _ hm
    · exact dgs_lt hm k _ x h
theorem dgs_onto {m : Nat} : ∀ s : List Nat, (∀ x, x ∈ s → x < m) → ∃ c, c < m ^ s.length ∧ dgs m s.length c = s
  | [], _ => ⟨0, by simp, rfl⟩
  | x :: s, h => by
    obtain ⟨c, hc, e⟩ := dgs_onto s (fun y hy => h y (List.mem_cons_of_mem _ hy))
    have hx := h x List.mem_cons_self
    have hm : 0 < m := by omega
    refine ⟨x + m * c, ?_, ?_⟩
    · rw [List.length_cons, Nat.pow_succ]
      have : m * (c + 1) ≤ m * m ^ s.length := Nat.mul_le_mul_left _ hc
      rw [Nat.mul_add, Nat.mul_one] at this
      rw [Nat.mul_comm (m ^ s.length)]
      omega
    · simp only [List.length_cons, dgs]
      rw [Nat.add_mul_mod_self_left, Nat.mod_eq_of_lt hx, Nat.add_mul_div_left _ _ hm, Nat.div_eq_of_lt hx, Nat.zero_add, e]
def SQ (m : Nat) (s : List Nat) : Prop := s.length = m ∧ ∀ p, p < m → p ∈ s
theorem SQ_lt {m : Nat} {s : List Nat} (h : SQ m s) {x : Nat} (hx : x ∈ s) : x < m := by
  refine Decidable.byContradiction (fun hno => ?_)
  have h2 := ph m id (s.erase x) (fun i j _ _ e => e) (fun p hp => (List.mem_erase_of_ne (fun e : p = x => hno (by omega))).mpr (h.2 p hp))
  rw [List.length_erase_of_mem hx, h.1] at h2
  have := List.length_pos_of_mem hx
  rw [h.1] at this
  omega
theorem sq_SQ {m o : Nat} : SQ m (sq m id o) := ⟨sq_len _ _ _, fun p hp => sq_sur m id o p hp⟩
/-- how many unlike -/
def cd : List Nat → Nat
  | [] => 0
  | x :: l => cd l + if x ∈ l then 0 else 1
theorem cd_le : ∀ l, cd l ≤ l.length
  | [] => Nat.le_refl _
  | x :: l => by
    have := cd_le l
    simp only [cd, List.length_cons]
    split <;> omega
theorem cd_filter (x : Nat) : ∀ L, cd L = cd (L.filter (fun y => decide (y ≠ x))) + if x ∈ L then 1 else 0
  | [] => by simp [cd]
  | y :: l => by
    have ih := cd_filter x l
    by_cases c : y = x
    · subst c
      rw [List.filter_cons_of_neg (by simp)]
      simp only [cd, List.mem_cons, true_or, if_true]
      rw [ih]
      by_cases c2 : y ∈ l
      · rw [if_pos c2, if_pos c2]
      · rw [if_neg c2, if_neg c2]
    · rw [List.filter_cons_of_pos (by simp [c])]
      simp only [cd]
      rw [ih]
      have e1 : (y ∈ l.filter (fun y => decide (y ≠ x))) ↔ y ∈ l := by simp [c]
      have e2 : (x ∈ y :: l) ↔ x ∈ l := by
        rw [List.mem_cons]
        exact ⟨fun z => z.resolve_left (fun e => c e.symm), Or.inr⟩
      by_cases c2 : y ∈ l
      · rw [if_pos c2, if_pos (e1.mpr c2)]
        by_cases c3 : x ∈ l
        · rw [if_pos c3, if_pos (e2.mpr c3)]
        · rw [if_neg c3, if_neg (fun q => c3 (e2.mp q))]
      · rw [if_neg c2, if_neg (fun q => c2 (e1.mp q))]
        by_cases c3 : x ∈ l
        · rw [if_pos c3, if_pos (e2.mpr c3)]
        · rw [if_neg c3, if_neg (fun q => c3 (e2.mp q))]
theorem cd_eq : ∀ L L' : List Nat, (∀ x, x ∈ L ↔ x ∈ L') → cd L = cd L'
  | [], L', h => by
    have : L' = [] := List.eq_nil_iff_forall_not_mem.mpr (fun x hx => absurd ((h x).mpr hx) (by simp))
    rw [this]
  | x :: l, L', h => by
    by_cases c : x ∈ l
    · simp only [cd]
      rw [if_pos c, Nat.add_zero]
      refine cd_eq l L' (fun y => ?_)
      rw [← h y, List.mem_cons]
      exact ⟨Or.inr, fun z => z.elim (fun e => by rw [e]; exact c) id⟩
    · simp only [cd]
      rw [if_neg c, cd_filter x L', if_pos ((h x).mp List.mem_cons_self)]
      congr 1
      refine cd_eq l _ (fun y => ?_)
      rw [List.mem_filter, ← h y, List.mem_cons]
      simp only [ne_eq, decide_eq_true_eq]
      exact ⟨fun z => ⟨Or.inr z, fun e => c (by rw [← e]; exact z)⟩, fun z => z.1.resolve_left z.2⟩
theorem cd_map {f h : List Nat → Nat} : ∀ L : List (List Nat), (∀ s, s ∈ L → ∀ s', s' ∈ L → (f s = f s' ↔ h s = h s')) → cd (L.map f) = cd (L.map h)
  | [], _ => rfl
  | x :: l, hh => by
    simp only [List.map_cons, cd]
    rw [cd_map l (fun s hs s' hs' => hh s (List.mem_cons_of_mem _ hs) s' (List.mem_cons_of_mem _ hs'))]
    have e : (f x ∈ l.map f) ↔ (h x ∈ l.map h) := by
      rw [List.mem_map, List.mem_map]
      exact ⟨fun ⟨s, hs, e⟩ => ⟨s, hs, (hh s (List.mem_cons_of_mem _ hs) x List.mem_cons_self).mp e⟩, fun ⟨s, hs, e⟩ => ⟨s, hs, (hh s (List.mem_cons_of_mem _ hs) x List.mem_cons_self).mpr e⟩⟩
    by_cases c : f x ∈ l.map f
    · rw [if_pos c, if_pos (e.mp c)]
    · rw [if_neg c, if_neg (fun q => c (e.mpr q))]
/-- the class's sequences, the reference's -/
def LC (m : Nat) : Nat → List (List Nat)
  | 0 => []
  | o + 1 => sq m id o :: LC m o
def LM (m : Nat) : Nat → List (List Nat)
  | 0 => []
  | c + 1 => if ∀ p, p < m → p ∈ dgs m m c then dgs m m c :: LM m c else LM m c
theorem LC_mem (m : Nat) (s : List Nat) : ∀ n, s ∈ LC m n ↔ ∃ o, o < n ∧ sq m id o = s
  | 0 => by simp [LC]
  | n + 1 => by
    simp only [LC, List.mem_cons]
    rw [LC_mem m s n]
    refine ⟨fun z => ?_, fun ⟨o, ho, e⟩ => ?_⟩
    · rcases z with z | ⟨o, ho, e⟩
      · exact ⟨n, by omega, z.symm⟩
      · exact ⟨o, by omega, e⟩
    · by_cases c : o = n
      · left; rw [← e, c]
      · right; exact ⟨o, by omega, e⟩
theorem LM_mem (m : Nat) (s : List Nat) : ∀ n, s ∈ LM m n ↔ ∃ c, c < n ∧ (∀ p, p < m → p ∈ dgs m m c) ∧ dgs m m c = s
  | 0 => by simp [LM]
  | n + 1 => by
    have ih := LM_mem m s n
    simp only [LM]
    by_cases q : ∀ p, p < m → p ∈ dgs m m n
    · rw [if_pos q, List.mem_cons, ih]
      refine ⟨fun z => ?_, fun ⟨o, ho, e1, e⟩ => ?_⟩
      · rcases z with z | ⟨o, ho, e⟩
        · exact ⟨n, by omega, q, z.symm⟩
        · exact ⟨o, by omega, e⟩
      · by_cases c : o = n
        · left; rw [← e, c]
        · right; exact ⟨o, by omega, e1, e⟩
    · rw [if_neg q, ih]
      refine ⟨fun ⟨o, ho, e⟩ => ⟨o, by omega, e⟩, fun ⟨o, ho, e1, e⟩ => ?_⟩
      by_cases c : o = n
      · rw [c] at e1; exact absurd e1 q
      · exact ⟨o, by omega, e1, e⟩
theorem LC_SQ {m n : Nat} {s : List Nat} (h : s ∈ LC m n) : SQ m s := by
  obtain ⟨o, -, e⟩ := (LC_mem m s n).mp h
  rw [← e]; exact sq_SQ
theorem LM_SQ {m n : Nat} {s : List Nat} (h : s ∈ LM m n) : SQ m s := by
  obtain ⟨c, -, e1, e⟩ := (LM_mem m s n).mp h
  rw [← e]; exact ⟨dgs_len _ _ _, e1⟩
theorem orders_eq (m : Nat) (f : List Nat → Nat) : cd ((LC m (fac m)).map f) = cd ((LM m (m ^ m)).map f) := by
  refine cd_eq _ _ (fun x => ?_)
  rw [List.mem_map, List.mem_map]
  refine ⟨fun ⟨s, hs, e⟩ => ⟨s, ?_, e⟩, fun ⟨s, hs, e⟩ => ⟨s, ?_, e⟩⟩
  · have h := LC_SQ hs
    obtain ⟨c, hc, ec⟩ := dgs_onto (m := m) s (fun x hx => SQ_lt h hx)
    rw [h.1] at hc ec
    exact (LM_mem m s _).mpr ⟨c, hc, by rw [ec]; exact h.2, ec⟩
  · have h := LM_SQ hs
    exact (LC_mem m s _).mpr (sq_onto m id s (fun i j _ _ e => e) h.1 h.2)
