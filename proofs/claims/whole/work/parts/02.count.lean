/-! counting: how many m below n have P -/
noncomputable def tr_cp (P : Nat → Prop) : Nat → Nat
  | 0 => 0
  | n + 1 => tr_cp P n + @ite Nat (P n) (Classical.propDecidable _) 1 0
theorem tr_cp_t {P : Nat → Prop} {n : Nat} (h : P n) : tr_cp P (n + 1) = tr_cp P n + 1 := by
  rw [tr_cp, if_pos h]
theorem tr_cp_f {P : Nat → Prop} {n : Nat} (h : ¬ P n) : tr_cp P (n + 1) = tr_cp P n := by
  rw [tr_cp, if_neg h, Nat.add_zero]
theorem tr_cp_congr {P Q : Nat → Prop} : ∀ n, (∀ m, m < n → (P m ↔ Q m)) → tr_cp P n = tr_cp Q n := by
  intro n
  induction n with
  | zero => intro _; rfl
  | succ n ih =>
    intro h
    have e := ih (fun m hm => h m (by omega))
    have hn := h n (by omega)
    by_cases hp : P n
    · rw [tr_cp_t hp, tr_cp_t (hn.mp hp), e]
    · rw [tr_cp_f hp, tr_cp_f (fun q => hp (hn.mpr q)), e]
theorem tr_cp_le (P : Nat → Prop) : ∀ n, tr_cp P n ≤ n := by
  intro n
  induction n with
  | zero => exact Nat.le_refl _
  | succ n ih =>
    by_cases hp : P n
    · rw [tr_cp_t hp]; omega
    · rw [tr_cp_f hp]; omega
theorem tr_cp_mono {P Q : Nat → Prop} : ∀ n, (∀ m, m < n → P m → Q m) → tr_cp P n ≤ tr_cp Q n := by
  intro n
  induction n with
  | zero => intro _; exact Nat.le_refl _
  | succ n ih =>
    intro h
    have e := ih (fun m hm => h m (by omega))
    have hn := h n (by omega)
    by_cases hp : P n
    · rw [tr_cp_t hp, tr_cp_t (hn hp)]; omega
    · rw [tr_cp_f hp]
      by_cases hq : Q n
      · rw [tr_cp_t hq]; omega
      · rw [tr_cp_f hq]; omega
theorem tr_cp_lt {P Q : Nat → Prop} (a : Nat) (ha : Q a) (hb : ¬ P a) : ∀ n, (∀ m, m < n → P m → Q m) → a < n → tr_cp P n < tr_cp Q n := by
  intro n
  induction n with
  | zero => intro _ h; omega
  | succ n ih =>
    intro h han
    have hn := h n (by omega)
    by_cases e : a = n
    · subst e
      rw [tr_cp_f hb, tr_cp_t ha]
      have := tr_cp_mono a (fun m hm => h m (by omega) : ∀ m, m < a → P m → Q m)
      omega
    · have e := ih (fun m hm => h m (by omega)) (by omega)
      by_cases hp : P n
      · rw [tr_cp_t hp, tr_cp_t (hn hp)]; omega
      · rw [tr_cp_f hp]
        by_cases hq : Q n
        · rw [tr_cp_t hq]; omega
        · rw [tr_cp_f hq]; omega
theorem tr_cp_add {P Q : Nat → Prop} (a : Nat) (hb : ¬ P a) : ∀ n, (∀ m, m < n → (Q m ↔ (P m ∨ m = a))) → a < n → tr_cp Q n = tr_cp P n + 1 := by
  intro n
  induction n with
  | zero => intro _ h; omega
  | succ n ih =>
    intro h han
    have hn := h n (by omega)
    by_cases e : a = n
    · subst e
      rw [tr_cp_f hb, tr_cp_t (hn.mpr (Or.inr rfl))]
      rw [tr_cp_congr a (fun m hm => ?_)]
      have := h m (by omega)
      constructor
      · intro q
        rcases this.mp q with z | z
        · exact z
        · omega
      · intro q; exact this.mpr (Or.inl q)
    · have i := ih (fun m hm => h m (by omega)) (by omega)
      by_cases hp : P n
      · rw [tr_cp_t hp, tr_cp_t (hn.mpr (Or.inl hp)), i]
      · rw [tr_cp_f hp, tr_cp_f (fun q => by rcases hn.mp q with z | z; exact hp z; omega), i]
theorem tr_cp_pos {P : Nat → Prop} (a : Nat) (h : P a) : ∀ n, a < n → 1 ≤ tr_cp P n := by
  intro n
  induction n with
  | zero => intro h; omega
  | succ n ih =>
    intro han
    by_cases hp : P n
    · rw [tr_cp_t hp]; omega
    · rw [tr_cp_f hp]
      by_cases e : a = n
      · subst e; exact absurd h hp
      · exact ih (by omega)
theorem tr_cp_none {P : Nat → Prop} : ∀ n, (∀ m, m < n → ¬ P m) → tr_cp P n = 0 := by
  intro n
  induction n with
  | zero => intro _; rfl
  | succ n ih =>
    intro h
    rw [tr_cp_f (h n (by omega))]
    exact ih (fun m hm => h m (by omega))
theorem tr_cp_ex {P : Nat → Prop} : ∀ n, tr_cp P n < n → ∃ m, m < n ∧ ¬ P m := by
  intro n
  induction n with
  | zero => intro h; omega
  | succ n ih =>
    intro h
    by_cases hp : P n
    · rw [tr_cp_t hp] at h
      obtain ⟨m, hm, z⟩ := ih (by omega)
      exact ⟨m, by omega, z⟩
    · exact ⟨n, by omega, hp⟩
theorem tr_cp_all {P : Nat → Prop} : ∀ n, tr_cp P n = n → ∀ m, m < n → P m := by
  intro n
  induction n with
  | zero => intro _ m h; omega
  | succ n ih =>
    intro h m hm
    have := tr_cp_le P n
    by_cases hp : P n
    · rw [tr_cp_t hp] at h
      by_cases e : m = n
      · subst e; exact hp
      · exact ih (by omega) m (by omega)
    · rw [tr_cp_f hp] at h; omega
/-! sums below k -/
def tr_sm (g : Nat → Nat) : Nat → Nat
  | 0 => 0
  | n + 1 => tr_sm g n + g n
theorem tr_sm_add {f g : Nat → Nat} {w : Nat} (h : ∀ k, f k = g k + (if k < w then 1 else 0)) : ∀ n, tr_sm f n = tr_sm g n + (if w ≤ n then w else n) := by
  intro n
  induction n with
  | zero => rw [tr_sm, tr_sm]; split <;> omega
  | succ n ih =>
    rw [tr_sm, tr_sm, ih, h n]
    split <;> split <;> split <;> omega
theorem tr_sm_zero {g : Nat → Nat} (h : ∀ k, g k = 0) : ∀ n, tr_sm g n = 0 := by
  intro n
  induction n with
  | zero => rfl
  | succ n ih => rw [tr_sm, ih, h n]
theorem tr_sm_congr {f g : Nat → Nat} : ∀ n, (∀ k, k < n → f k = g k) → tr_sm f n = tr_sm g n := by
  intro n
  induction n with
  | zero => intro _; rfl
  | succ n ih =>
    intro h
    rw [tr_sm, tr_sm, ih (fun k hk => h k (by omega)), h n (by omega)]
theorem tr_sm_le {g : Nat → Nat} {c : Nat} : ∀ n, (∀ k, k < n → g k ≤ c) → tr_sm g n ≤ c * n := by
  intro n
  induction n with
  | zero => intro _; exact Nat.le_refl _
  | succ n ih =>
    intro h
    rw [tr_sm, Nat.mul_succ]
    exact Nat.add_le_add (ih (fun k hk => h k (by omega))) (h n (by omega))
