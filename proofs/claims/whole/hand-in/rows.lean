section
/-! rows that began as the pasted rows of kit/rows (pk_) -/
theorem pk_us {f : Nat → Int32} {k : Nat} {x : Int32} : upd f k x k = x := if_pos rfl
theorem pk_un {f : Nat → Int32} {k j : Nat} {x : Int32} (h : j ≠ k) : upd f k x j = f j := if_neg h
theorem pk_sub {a b : Nat} (h : b ≤ a) : nI a - nI b = nI (a - b) := by
  obtain ⟨c, rfl⟩ : ∃ c, a = c + b := ⟨a - b, by omega⟩
  rw [← nI_add, Int32.add_sub_cancel, Nat.add_sub_cancel]
theorem pk_m1 (n : Nat) : nI (n + 1) + (-1) = nI n := by
  rw [← nI_1, Int32.add_assoc, show (1 : Int32) + (-1) = 0 from rfl, Int32.add_zero]
theorem pk_mul (a b : Nat) : nI a * nI b = nI (a * b) := (Int32.ofNat_mul a b).symm
theorem pk_div {a d : Nat} (ha : a < 2 ^ 31) (h0 : 0 < d) (hd : d < 2 ^ 31) : nI a / nI d = nI (a / d) := by
  apply Int32.toInt_inj.mp
  rw [lg_idiv_nonneg (by rw [nI_toInt ha]; omega) (by rw [nI_toInt hd]; omega), nI_toInt ha, nI_toInt hd, nI_toInt (Nat.lt_of_le_of_lt (Nat.div_le_self a d) ha)]
  first | rfl | exact (Int.natCast_ediv _ _).symm
theorem pk_rem {a d : Nat} (ha : a < 2 ^ 31) (h0 : 0 < d) (hd : d < 2 ^ 31) : nI a - nI a / nI d * nI d = nI (a % d) := by
  rw [pk_div ha h0 hd, pk_mul, pk_sub (Nat.div_mul_le_self a d)]
  exact congrArg nI (by have := Nat.div_add_mod' a d; omega)
theorem pk_sub_toInt {a b : Nat} (ha : a < 2 ^ 30) (hb : b < 2 ^ 30) : (nI a - nI b).toInt = (a : Int) - b := by
  rw [Int32.toInt_sub, nI_toInt (by omega), nI_toInt (by omega)]
  exact Int.bmod_eq_of_le (by omega) (by omega)
theorem pk_sneg {a b : Nat} (hb : b < 2 ^ 30) (h : a < b) : nI a - nI b < 0 := by
  rw [Int32.lt_iff_toInt_lt, pk_sub_toInt (by omega) hb, show (0 : Int32).toInt = 0 from by decide]
  omega
theorem pk_ix (x : Int32) {n : Nat} (hn : n < 2 ^ 31) : x < 0 ∨ nI n ≤ x ∨ ∃ j : Nat, j < n ∧ x = nI j := by
  by_cases h : x < 0
  · exact Or.inl h
  · obtain ⟨j, hj, rfl⟩ := nI_of h
    by_cases h2 : j < n
    · exact Or.inr (Or.inr ⟨j, h2, rfl⟩)
    · exact Or.inr (Or.inl (nI_le (by omega) hj))
theorem pk_le {x y : Int32} {A B : Prop} (a b : Nat) (f : a ≤ b → A) (g : b < a → B) (hx : x = nI a := by rfl) (hy : y = nI b := by rfl) (ha : a < 2 ^ 31 := by omega) (hb : b < 2 ^ 31 := by omega) : (x ≤ y → A) ∧ (¬ x ≤ y → B) := by
  subst hx hy
  rw [nI_leI ha hb]
  exact ⟨f, fun z => g (by omega)⟩
theorem pk_lt {x y : Int32} {A B : Prop} (a b : Nat) (f : a < b → A) (g : b ≤ a → B) (hx : x = nI a := by rfl) (hy : y = nI b := by rfl) (ha : a < 2 ^ 31 := by omega) (hb : b < 2 ^ 31 := by omega) : (x < y → A) ∧ (¬ x < y → B) := by
  subst hx hy
  rw [nI_ltI ha hb]
  exact ⟨f, fun z => g (by omega)⟩
theorem pk_eq {x y : Int32} {A B : Prop} (a b : Nat) (f : a = b → A) (g : a ≠ b → B) (hx : x = nI a := by rfl) (hy : y = nI b := by rfl) (ha : a < 2 ^ 31 := by omega) (hb : b < 2 ^ 31 := by omega) : (x = y → A) ∧ (¬ x = y → B) := by
  subst hx hy
  rw [nI_eq ha hb]
  exact ⟨f, g⟩
theorem pk_in {x : Int32} (n N : Nat) (h : n < N) (hx : x = nI n := by rfl) (hN : N < 2 ^ 31 := by omega) : vp_in x N := by
  subst hx
  exact vp_in_nI h hN
theorem pk_cl {x : Int32} (n : Nat) (hx : x = nI n := by rfl) (h : n < 2 ^ 31 := by omega) : x.toNatClampNeg = n := by
  subst hx
  exact nI_clamp h
theorem pk_loop {σ : Type} (W : Nat → Nat → σ → Prop) (I : Nat → σ → Prop) (e i0 : Nat) (s : σ) (hi : i0 ≤ e) (h0 : I i0 s) (hx : ∀ n s, I e s → W (n + 1) e s)
    (hs : ∀ n i s, i < e → I i s → (∀ s', I (i + 1) s' → W n (i + 1) s') → W (n + 1) i s) : ∃ n, W n i0 s :=
  ⟨e + 1, loop_i W I e hx hs (e + 1) i0 s hi (by omega) h0⟩
theorem pk_loopD {σ : Type} (W : Nat → Nat → σ → Prop) (I : Nat → σ → Prop) (hx : ∀ n s, I 0 s → W (n + 1) 0 s)
    (hs : ∀ n i s, I (i + 1) s → (∀ s', I i s' → W n i s') → W (n + 1) (i + 1) s) : ∀ (e : Nat) (s : σ), I e s → W (e + 1) e s := by
  intro e
  induction e with
  | zero => exact fun s h => hx 0 s h
  | succ e ih => exact fun s h => hs (e + 1) e s h (fun s' h' => ih s' h')
theorem pk_least (P : Nat → Prop) (h : ∃ k, P k) : ∃ k, P k ∧ ∀ j, j < k → ¬ P j := by
  obtain ⟨k, hk⟩ := h
  induction k using Nat.strongRecOn with
  | ind k ih =>
    by_cases e : ∃ j, j < k ∧ P j
    · obtain ⟨j, hj, pj⟩ := e
      exact ih j hj pj
    · exact ⟨k, hk, fun j hj pj => e ⟨j, hj, pj⟩⟩
end
section
/-! counting: how many m below n have P -/
noncomputable def tr_cp (P : Nat → Prop) : Nat → Nat
  | 0 => 0
  | n + 1 => tr_cp P n + @ite Nat (P n) (Classical.propDecidable _) 1 0
theorem tr_cp_t {P : Nat → Prop} {n : Nat} (h : P n) : tr_cp P (n + 1) = tr_cp P n + 1 := by
  rw [tr_cp, if_pos h]
theorem tr_cp_f {P : Nat → Prop} {n : Nat} (h : ¬ P n) : tr_cp P (n + 1) = tr_cp P n := by
  rw [tr_cp, if_neg h, Nat.add_zero]
theorem tr_cp_congr {P Q : Nat → Prop} : ∀ n, (∀ m, m < n → (P m ↔ Q m)) → tr_cp P n = tr_cp Q n := by
  intro n
  induction n with
  | zero => intro _; rfl
  | succ n ih =>
    intro h
    have e := ih (fun m hm => h m (by omega))
    have hn := h n (by omega)
    by_cases hp : P n
    · rw [tr_cp_t hp, tr_cp_t (hn.mp hp), e]
    · rw [tr_cp_f hp, tr_cp_f (fun q => hp (hn.mpr q)), e]
theorem tr_cp_le (P : Nat → Prop) : ∀ n, tr_cp P n ≤ n := by
  intro n
  induction n with
  | zero => exact Nat.le_refl _
  | succ n ih =>
    by_cases hp : P n
    · rw [tr_cp_t hp]; omega
    · rw [tr_cp_f hp]; omega
theorem tr_cp_mono {P Q : Nat → Prop} : ∀ n, (∀ m, m < n → P m → Q m) → tr_cp P n ≤ tr_cp Q n := by
  intro n
  induction n with
  | zero => intro _; exact Nat.le_refl _
  | succ n ih =>
    intro h
    have e := ih (fun m hm => h m (by omega))
    have hn := h n (by omega)
    by_cases hp : P n
    · rw [tr_cp_t hp, tr_cp_t (hn hp)]; omega
    · rw [tr_cp_f hp]
      by_cases hq : Q n
      · rw [tr_cp_t hq]; omega
      · rw [tr_cp_f hq]; omega
theorem tr_cp_lt {P Q : Nat → Prop} (a : Nat) (ha : Q a) (hb : ¬ P a) : ∀ n, (∀ m, m < n → P m → Q m) → a < n → tr_cp P n < tr_cp Q n := by
  intro n
  induction n with
  | zero => intro _ h; omega
  | succ n ih =>
    intro h han
    have hn := h n (by omega)
    by_cases e : a = n
    · subst e
      rw [tr_cp_f hb, tr_cp_t ha]
      have := tr_cp_mono a (fun m hm => h m (by omega) : ∀ m, m < a → P m → Q m)
      omega
    · have e := ih (fun m hm => h m (by omega)) (by omega)
      by_cases hp : P n
      · rw [tr_cp_t hp, tr_cp_t (hn hp)]; omega
      · rw [tr_cp_f hp]
        by_cases hq : Q n
        · rw [tr_cp_t hq]; omega
        · rw [tr_cp_f hq]; omega
theorem tr_cp_add {P Q : Nat → Prop} (a : Nat) (hb : ¬ P a) : ∀ n, (∀ m, m < n → (Q m ↔ (P m ∨ m = a))) → a < n → tr_cp Q n = tr_cp P n + 1 := by
  intro n
  induction n with
  | zero => intro _ h; omega
  | succ n ih =>
    intro h han
    have hn := h n (by omega)
    by_cases e : a = n
    · subst e
      rw [tr_cp_f hb, tr_cp_t (hn.mpr (Or.inr rfl))]
      rw [tr_cp_congr a (fun m hm => ?_)]
      have := h m (by omega)
      constructor
      · intro q
        rcases this.mp q with z | z
        · exact z
        · omega
      · intro q; exact this.mpr (Or.inl q)
    · have i := ih (fun m hm => h m (by omega)) (by omega)
      by_cases hp : P n
      · rw [tr_cp_t hp, tr_cp_t (hn.mpr (Or.inl hp)), i]
      · rw [tr_cp_f hp, tr_cp_f (fun q => by rcases hn.mp q with z | z; exact hp z; omega), i]
theorem tr_cp_pos {P : Nat → Prop} (a : Nat) (h : P a) : ∀ n, a < n → 1 ≤ tr_cp P n := by
  intro n
  induction n with
  | zero => intro h; omega
  | succ n ih =>
    intro han
    by_cases hp : P n
    · rw [tr_cp_t hp]; omega
    · rw [tr_cp_f hp]
      by_cases e : a = n
      · subst e; exact absurd h hp
      · exact ih (by omega)
theorem tr_cp_none {P : Nat → Prop} : ∀ n, (∀ m, m < n → ¬ P m) → tr_cp P n = 0 := by
  intro n
  induction n with
  | zero => intro _; rfl
  | succ n ih =>
    intro h
    rw [tr_cp_f (h n (by omega))]
    exact ih (fun m hm => h m (by omega))
theorem tr_cp_ex {P : Nat → Prop} : ∀ n, tr_cp P n < n → ∃ m, m < n ∧ ¬ P m := by
  intro n
  induction n with
  | zero => intro h; omega
  | succ n ih =>
    intro h
    by_cases hp : P n
    · rw [tr_cp_t hp] at h
      obtain ⟨m, hm, z⟩ := ih (by omega)
      exact ⟨m, by omega, z⟩
    · exact ⟨n, by omega, hp⟩
theorem tr_cp_all {P : Nat → Prop} : ∀ n, tr_cp P n = n → ∀ m, m < n → P m := by
  intro n
  induction n with
  | zero => intro _ m h; omega
  | succ n ih =>
    intro h m hm
    have := tr_cp_le P n
    by_cases hp : P n
    · rw [tr_cp_t hp] at h
      by_cases e : m = n
      · subst e; exact hp
      · exact ih (by omega) m (by omega)
    · rw [tr_cp_f hp] at h; omega
/-! sums below k -/
def tr_sm (g : Nat → Nat) : Nat → Nat
  | 0 => 0
  | n + 1 => tr_sm g n + g n
theorem tr_sm_add {f g : Nat → Nat} {w : Nat} (h : ∀ k, f k = g k + (if k < w then 1 else 0)) : ∀ n, tr_sm f n = tr_sm g n + (if w ≤ n then w else n) := by
  intro n
  induction n with
  | zero => rw [tr_sm, tr_sm]; split <;> omega
  | succ n ih =>
    rw [tr_sm, tr_sm, ih, h n]
    split <;> split <;> split <;> omega
theorem tr_sm_zero {g : Nat → Nat} (h : ∀ k, g k = 0) : ∀ n, tr_sm g n = 0 := by
  intro n
  induction n with
  | zero => rfl
  | succ n ih => rw [tr_sm, ih, h n]
theorem tr_sm_congr {f g : Nat → Nat} : ∀ n, (∀ k, k < n → f k = g k) → tr_sm f n = tr_sm g n := by
  intro n
  induction n with
  | zero => intro _; rfl
  | succ n ih =>
    intro h
    rw [tr_sm, tr_sm, ih (fun k hk => h k (by omega)), h n (by omega)]
theorem tr_sm_le {g : Nat → Nat} {c : Nat} : ∀ n, (∀ k, k < n → g k ≤ c) → tr_sm g n ≤ c * n := by
  intro n
  induction n with
  | zero => intro _; exact Nat.le_refl _
  | succ n ih =>
    intro h
    rw [tr_sm, Nat.mul_succ]
    exact Nat.add_le_add (ih (fun k hk => h k (by omega))) (h n (by omega))
end
section
/-! towns that can be come to, the least of them, and labels that spread in rounds -/
def tr_cl (E : Nat → Nat → Prop) (S : Nat → Prop) : Prop := ∀ a b, S a → E a b → S b
def tr_cn (E : Nat → Nat → Prop) (a b : Nat) : Prop := ∀ S : Nat → Prop, tr_cl E S → S a → S b
theorem tr_cn_r {E : Nat → Nat → Prop} (a : Nat) : tr_cn E a a := fun _ _ h => h
theorem tr_cn_s {E : Nat → Nat → Prop} {a b c : Nat} (h : tr_cn E a b) (e : E b c) : tr_cn E a c := fun S hS ha => hS b c (h S hS ha) e
theorem tr_cn_t {E : Nat → Nat → Prop} {a b c : Nat} (h : tr_cn E a b) (e : tr_cn E b c) : tr_cn E a c := fun S hS ha => e S hS (h S hS ha)
theorem tr_cn_c {E : Nat → Nat → Prop} (a : Nat) : tr_cl E (tr_cn E a) := fun _ _ h e => tr_cn_s h e
theorem tr_cn_y {E : Nat → Nat → Prop} (sy : ∀ a b, E a b → E b a) {a b : Nat} (h : tr_cn E a b) : tr_cn E b a := by
  apply h (fun x => tr_cn E x a)
  · intro x y hx e
    exact tr_cn_t (tr_cn_s (tr_cn_r y) (sy x y e)) hx
  · exact tr_cn_r a
/-- the least town that can be come to -/
noncomputable def tr_lb (E : Nat → Nat → Prop) (u : Nat) : Nat := Classical.choose (pk_least (tr_cn E u) ⟨u, tr_cn_r u⟩)
theorem tr_lb_c (E : Nat → Nat → Prop) (u : Nat) : tr_cn E u (tr_lb E u) := (Classical.choose_spec (pk_least (tr_cn E u) ⟨u, tr_cn_r u⟩)).1
theorem tr_lb_m {E : Nat → Nat → Prop} {u j : Nat} (h : tr_cn E u j) : tr_lb E u ≤ j := by
  have z := (Classical.choose_spec (pk_least (tr_cn E u) ⟨u, tr_cn_r u⟩)).2 j
  have z2 : ¬ j < tr_lb E u := fun q => z q h
  omega
theorem tr_lb_le (E : Nat → Nat → Prop) (u : Nat) : tr_lb E u ≤ u := tr_lb_m (tr_cn_r u)
theorem tr_lb_eq {E : Nat → Nat → Prop} (sy : ∀ a b, E a b → E b a) {a b : Nat} (h : tr_cn E a b) : tr_lb E a = tr_lb E b := by
  have h1 : tr_lb E a ≤ tr_lb E b := tr_lb_m (tr_cn_t h (tr_lb_c E b))
  have h2 : tr_lb E b ≤ tr_lb E a := tr_lb_m (tr_cn_t (tr_cn_y sy h) (tr_lb_c E a))
  omega
theorem tr_lb_lb {E : Nat → Nat → Prop} (sy : ∀ a b, E a b → E b a) (u : Nat) : tr_lb E (tr_lb E u) = tr_lb E u := (tr_lb_eq sy (tr_lb_c E u)).symm
theorem tr_lb_S {E : Nat → Nat → Prop} (sy : ∀ a b, E a b → E b a) {S : Nat → Prop} (hS : tr_cl E S) (u : Nat) : S u ↔ S (tr_lb E u) :=
  ⟨fun h => tr_lb_c E u S hS h, fun h => tr_cn_y sy (tr_lb_c E u) S hS h⟩
/-- labels that never leave what can be come to -/
def tr_so (E : Nat → Nat → Prop) (p : Nat → Nat) : Prop := ∀ u, tr_cn E u (p u)
theorem tr_so_0 (E : Nat → Nat → Prop) : tr_so E (fun u => u) := fun u => tr_cn_r u
theorem tr_so_u {E : Nat → Nat → Prop} {p p' : Nat → Nat} {u v : Nat} (h : tr_so E p) (e : E u v) (hp : ∀ x, p' x = if x = u then p v else p x) : tr_so E p' := by
  intro x
  rw [hp x]
  by_cases z : x = u
  · rw [if_pos z, z]
    exact tr_cn_t (tr_cn_s (tr_cn_r u) e) (h v)
  · rw [if_neg z]
    exact h x
/-- after r rounds -/
def tr_Iv (E : Nat → Nat → Prop) (n r : Nat) (p : Nat → Nat) : Prop :=
  (∀ u, p u ≤ u) ∧ tr_so E p ∧ ∀ m, tr_lb E m = m → (∀ u, tr_cn E m u → p u = m) ∨ (r + 1 ≤ tr_cp (fun u => tr_cn E m u ∧ p u = m) n) ∨ n ≤ m
theorem tr_Iv_0 (E : Nat → Nat → Prop) (n : Nat) : tr_Iv E n 0 (fun u => u) := by
  refine ⟨fun u => Nat.le_refl _, tr_so_0 E, fun m hm => ?_⟩
  by_cases z : n ≤ m
  · exact Or.inr (Or.inr z)
  · exact Or.inr (Or.inl (tr_cp_pos m ⟨tr_cn_r m, rfl⟩ n (by omega)))
theorem tr_Iv_s {E : Nat → Nat → Prop} {n : Nat} (hn : ∀ a b, E a b → b < n) {r : Nat} {p p' : Nat → Nat} (I : tr_Iv E n r p) (hs : tr_so E p') (h1 : ∀ u, p' u ≤ p u) (h2 : ∀ b a, E b a → p' b ≤ p a) (sy : ∀ a b, E a b → E b a) : tr_Iv E n (r + 1) p' := by
  obtain ⟨i1, i2, i3⟩ := I
  refine ⟨fun u => Nat.le_trans (h1 u) (i1 u), hs, fun m hm => ?_⟩
  have low : ∀ (q : Nat → Nat), tr_so E q → ∀ u, tr_cn E m u → m ≤ q u := by
    intro q hq u hu
    have := tr_lb_m (tr_cn_t hu (hq u))
    omega
  by_cases al : ∀ u, tr_cn E m u → p u = m
  · left
    intro u hu
    have a := low p' hs u hu
    have b := h1 u
    rw [al u hu] at b
    omega
  · rcases i3 m hm with z | z | z
    · exact absurd z al
    · right; left
      have ex : ∃ a b, (tr_cn E m a ∧ p a = m) ∧ E a b ∧ p b ≠ m := by
        apply Classical.byContradiction
        intro no
        apply al
        intro u hu
        refine (hu (fun x => tr_cn E m x ∧ p x = m) ?_ ⟨tr_cn_r m, ?_⟩).2
        · intro a b ha e
          refine ⟨tr_cn_s ha.1 e, ?_⟩
          apply Classical.byContradiction
          intro q
          exact no ⟨a, b, ha, e, q⟩
        · have a := low p i2 m (tr_cn_r m)
          have b := i1 m
          omega
      obtain ⟨a, b, ⟨ca, pa⟩, e, pb⟩ := ex
      have cb : tr_cn E m b := tr_cn_s ca e
      have pb' : p' b = m := by
        have x := low p' hs b cb
        have y := h2 b a (sy a b e)
        omega
      have lt := tr_cp_lt (P := fun u => tr_cn E m u ∧ p u = m) (Q := fun u => tr_cn E m u ∧ p' u = m) b ⟨cb, pb'⟩ (fun q => pb q.2) n (fun u _ hu => ⟨hu.1, by
        have x := low p' hs u hu.1
        have y := h1 u
        have z := hu.2
        omega⟩) (hn a b e)
      omega
    · exact Or.inr (Or.inr z)
theorem tr_Iv_n {E : Nat → Nat → Prop} {n : Nat} {p : Nat → Nat} (sy : ∀ a b, E a b → E b a) (I : tr_Iv E n n p) : ∀ u, u < n → p u = tr_lb E u := by
  intro u hu
  have le := tr_lb_le E u
  rcases I.2.2 (tr_lb E u) (tr_lb_lb sy u) with z | z | z
  · exact z u (tr_cn_y sy (tr_lb_c E u))
  · have := tr_cp_le (fun x => tr_cn E (tr_lb E u) x ∧ p x = tr_lb E u) n
    omega
  · omega
/-- the labels seen in J -/
noncomputable def tr_D (E : Nat → Nat → Prop) (n : Nat) (J : Nat → Prop) : Nat := tr_cp (fun m => ∃ u, J u ∧ tr_lb E u = m) n
/-- the number of parts -/
noncomputable def tr_C (E : Nat → Nat → Prop) (n : Nat) : Nat := tr_cp (fun u => tr_lb E u = u) n
theorem tr_D_all {E : Nat → Nat → Prop} (sy : ∀ a b, E a b → E b a) {n : Nat} {J : Nat → Prop} (h : ∀ u, u < n → J u) : tr_D E n J = tr_C E n := by
  refine tr_cp_congr n (fun m hm => ⟨?_, fun q => ⟨m, h m hm, q⟩⟩)
  rintro ⟨u, _, e⟩
  rw [← e]
  exact tr_lb_lb sy u
theorem tr_D_one {E : Nat → Nat → Prop} {n : Nat} (hn : 0 < n) {J : Nat → Prop} (h : ∀ u, J u ↔ u = 0) : tr_D E n J = 1 := by
  have z : tr_lb E 0 = 0 := Nat.le_zero.mp (tr_lb_le E 0)
  have a := tr_cp_add (P := fun _ => False) (Q := fun m => ∃ u, J u ∧ tr_lb E u = m) 0 (fun q => q) n (fun m _ => ⟨fun ⟨u, hu, e⟩ => Or.inr (by
    have := (h u).mp hu
    subst this
    omega), fun q => by
    rcases q with q | q
    · exact absurd q (fun q => q)
    · exact ⟨0, (h 0).mpr rfl, by omega⟩⟩) hn
  rw [tr_cp_none n (fun m _ q => q)] at a
  exact a
theorem tr_D_pos {E : Nat → Nat → Prop} {n : Nat} {J : Nat → Prop} {a : Nat} (ha : J a) (hn : a < n) : 1 ≤ tr_D E n J :=
  tr_cp_pos (tr_lb E a) ⟨a, ha, rfl⟩ n (Nat.lt_of_le_of_lt (tr_lb_le E a) hn)
theorem tr_D_same {E : Nat → Nat → Prop} (sy : ∀ a b, E a b → E b a) {n v u0 : Nat} {J J' : Nat → Prop} (hJ : ∀ u, J' u ↔ (J u ∨ u = v)) (hu : J u0) (e : E u0 v) : tr_D E n J' = tr_D E n J := by
  refine tr_cp_congr n (fun m _ => ⟨?_, fun ⟨u, hu, q⟩ => ⟨u, (hJ u).mpr (Or.inl hu), q⟩⟩)
  rintro ⟨u, hj, q⟩
  rcases (hJ u).mp hj with z | z
  · exact ⟨u, z, q⟩
  · refine ⟨u0, hu, ?_⟩
    rw [← q, z]
    exact tr_lb_eq sy (tr_cn_s (tr_cn_r u0) e)
theorem tr_D_new {E : Nat → Nat → Prop} (sy : ∀ a b, E a b → E b a) {n v : Nat} {J J' : Nat → Prop} (hJ : ∀ u, J' u ↔ (J u ∨ u = v)) (hv : ¬ J v) (hn : v < n) (c : tr_cl E J) : tr_D E n J' = tr_D E n J + 1 := by
  refine tr_cp_add (tr_lb E v) ?_ n (fun m _ => ⟨?_, ?_⟩) (Nat.lt_of_le_of_lt (tr_lb_le E v) hn)
  · rintro ⟨u, hu, q⟩
    have a := (tr_lb_S sy c u).mp hu
    rw [q] at a
    exact hv ((tr_lb_S sy c v).mpr a)
  · rintro ⟨u, hu, q⟩
    rcases (hJ u).mp hu with z | z
    · exact Or.inl ⟨u, z, q⟩
    · exact Or.inr (by rw [← q, z])
  · intro h
    rcases h with ⟨u, hu, q⟩ | z
    · exact ⟨u, (hJ u).mpr (Or.inl hu), q⟩
    · exact ⟨v, (hJ v).mpr (Or.inr rfl), z.symm⟩
/-! pairs of towns whose length is at most k -/
def tr_E (L : Nat → Nat) (n k a b : Nat) : Prop := a < n ∧ b < n ∧ a ≠ b ∧ L (7 * a + b) ≤ k
def tr_Sy (L : Nat → Nat) : Prop := ∀ a b, a < 7 → b < 7 → L (7 * a + b) = L (7 * b + a)
theorem tr_E_y {L : Nat → Nat} {n : Nat} (h : tr_Sy L) (hn : n ≤ 7) (k : Nat) : ∀ a b, tr_E L n k a b → tr_E L n k b a := by
  rintro a b ⟨h1, h2, h3, h4⟩
  exact ⟨h2, h1, fun q => h3 q.symm, by rw [h b a (by omega) (by omega)]; exact h4⟩
/-- the sum of the net and its longest pair, as far as the towns in J are joined -/
def tr_Nt (L : Nat → Nat) (n : Nat) (J : Nat → Prop) (s m : Nat) : Prop :=
  s = tr_sm (fun k => tr_D (tr_E L n k) n J - 1) 60 ∧ (∀ k, tr_D (tr_E L n k) n J = 1 ↔ m ≤ k) ∧ m ≤ 60
theorem tr_Nt_0 {L : Nat → Nat} {n : Nat} (hn : 0 < n) {J : Nat → Prop} (h : ∀ u, J u ↔ u = 0) : tr_Nt L n J 0 0 := by
  refine ⟨?_, fun k => ⟨fun _ => Nat.zero_le _, fun _ => tr_D_one hn h⟩, by omega⟩
  rw [tr_sm_zero]
  intro k
  show tr_D _ n J - 1 = 0
  rw [tr_D_one hn h]
theorem tr_Nt_s {L : Nat → Nat} {n : Nat} (sy : tr_Sy L) (hn : n ≤ 7) {J J' : Nat → Prop} {s m v w : Nat} (I : tr_Nt L n J s m)
    (hJ : ∀ u, J' u ↔ (J u ∨ u = v)) (hv : ¬ J v) (hvn : v < n) (hJn : ∀ u, J u → u < n) (h0 : J 0)
    (hw : ∃ u, J u ∧ L (7 * u + v) = w) (hm : ∀ a b, J a → ¬ J b → b < n → w ≤ L (7 * a + b)) (h60 : w ≤ 60) :
    tr_Nt L n J' (s + w) (if m < w then w else m) := by
  have st : ∀ k, tr_D (tr_E L n k) n J' = tr_D (tr_E L n k) n J + (if k < w then 1 else 0) := by
    intro k
    have y := tr_E_y sy hn k
    by_cases z : k < w
    · rw [if_pos z]
      refine tr_D_new y hJ hv hvn ?_
      intro a b ha e
      apply Classical.byContradiction
      intro q
      have := hm a b ha q e.2.1
      have := e.2.2.2
      omega
    · rw [if_neg z]
      obtain ⟨u, hu, e⟩ := hw
      exact tr_D_same y hJ hu ⟨hJn u hu, hvn, fun q => hv (q ▸ hu), by omega⟩
  have ps : ∀ k, 1 ≤ tr_D (tr_E L n k) n J := fun k => tr_D_pos h0 (hJn 0 h0)
  obtain ⟨i1, i2, i3⟩ := I
  refine ⟨?_, fun k => ?_, by split <;> omega⟩
  · rw [tr_sm_add (g := fun k => tr_D (tr_E L n k) n J - 1) (w := w) (fun k => ?_) 60, ← i1, if_pos h60]
    show tr_D (tr_E L n k) n J' - 1 = tr_D (tr_E L n k) n J - 1 + _
    have := ps k
    rw [st k]
    omega
  · rw [st k]
    have p := ps k
    have q := i2 k
    by_cases z : k < w
    · rw [if_pos z]
      constructor
      · intro h; omega
      · intro h
        split at h <;> omega
    · rw [if_neg z, Nat.add_zero, q]
      split <;> omega
/-- the answers: parts for each k -/
noncomputable def tr_P (L : Nat → Nat) (n k : Nat) : Nat := tr_C (tr_E L n k) n
theorem tr_Nt_e {L : Nat → Nat} {n : Nat} (sy : tr_Sy L) (hn : n ≤ 7) {J : Nat → Prop} {s m : Nat} (I : tr_Nt L n J s m) (h : ∀ u, u < n → J u) :
    s = tr_sm (fun k => tr_P L n k - 1) 60 ∧ (∀ k, tr_P L n k = 1 ↔ m ≤ k) ∧ m ≤ 60 := by
  have e : ∀ k, tr_D (tr_E L n k) n J = tr_P L n k := fun k => tr_D_all (tr_E_y sy hn k) h
  obtain ⟨i1, i2, i3⟩ := I
  refine ⟨?_, fun k => ?_, i3⟩
  · rw [i1]
    exact tr_sm_congr 60 (fun k _ => by rw [e k])
  · rw [← e k]
    exact i2 k
end
section
/-! the table of trips, row by row, as the reference lengthens it -/
def tr_get : List Nat → Nat → Nat
  | [], _ => 0
  | x :: _, 0 => x
  | _ :: xs, k + 1 => tr_get xs k
def tr_row : List (List Nat) → Nat → List Nat
  | [], _ => []
  | r :: _, 0 => r
  | _ :: rs, t + 1 => tr_row rs t
theorem tr_get_l (v : Nat) : ∀ (r : List Nat) (k : Nat), k < r.length → tr_get (r ++ [v]) k = tr_get r k := by
  intro r
  induction r with
  | nil => intro k h; exact absurd h (Nat.not_lt_zero _)
  | cons x xs ih =>
    intro k h
    cases k with
    | zero => rfl
    | succ k => exact ih k (Nat.lt_of_succ_lt_succ h)
theorem tr_get_e (v : Nat) : ∀ (r : List Nat), tr_get (r ++ [v]) r.length = v := by
  intro r
  induction r with
  | nil => rfl
  | cons x xs ih => exact ih
theorem tr_row_l (x : List Nat) : ∀ (rs : List (List Nat)) (t : Nat), t < rs.length → tr_row (rs ++ [x]) t = tr_row rs t := by
  intro rs
  induction rs with
  | nil => intro k h; exact absurd h (Nat.not_lt_zero _)
  | cons r rs ih =>
    intro k h
    cases k with
    | zero => rfl
    | succ k => exact ih k (Nat.lt_of_succ_lt_succ h)
theorem tr_row_e (x : List Nat) : ∀ (rs : List (List Nat)), tr_row (rs ++ [x]) rs.length = x := by
  intro rs
  induction rs with
  | nil => rfl
  | cons r rs ih => exact ih
theorem tr_row_m : ∀ (rs : List (List Nat)) (t : Nat), t < rs.length → tr_row rs t ∈ rs := by
  intro rs
  induction rs with
  | nil => intro k h; exact absurd h (Nat.not_lt_zero _)
  | cons r rs ih =>
    intro k h
    cases k with
    | zero => exact List.mem_cons_self
    | succ k => exact List.mem_cons_of_mem _ (ih k (Nat.lt_of_succ_lt_succ h))
theorem tr_row_x {r : List Nat} : ∀ (rs : List (List Nat)), r ∈ rs → ∃ t, t < rs.length ∧ tr_row rs t = r := by
  intro rs
  induction rs with
  | nil => intro h; exact absurd h List.not_mem_nil
  | cons q rs ih =>
    intro h
    rcases List.mem_cons.mp h with z | z
    · exact ⟨0, Nat.succ_pos _, z.symm⟩
    · obtain ⟨t, ht, e⟩ := ih z
      exact ⟨t + 1, Nat.succ_lt_succ ht, e⟩
theorem tr_row_t : ∀ (rs : List (List Nat)) (t : Nat), t < rs.length → rs.take (t + 1) = rs.take t ++ [tr_row rs t] := by
  intro rs
  induction rs with
  | nil => intro k h; exact absurd h (Nat.not_lt_zero _)
  | cons r rs ih =>
    intro k h
    cases k with
    | zero => rfl
    | succ k =>
      rw [List.take_succ_cons, List.take_succ_cons, ih k (Nat.lt_of_succ_lt_succ h)]
      rfl
/-- does v stand in the first k places of r -/
def tr_has (r : List Nat) (v : Nat) : Nat → Bool
  | 0 => false
  | k + 1 => tr_has r v k || Nat.beq (tr_get r k) v
/-- the rows that row r gives, with the towns below v -/
def tr_in (r : List Nat) : Nat → List (List Nat)
  | 0 => []
  | v + 1 => tr_in r v ++ (match tr_has r v r.length with | true => [] | false => [r ++ [v]])
def tr_st (n : Nat) (rs : List (List Nat)) : List (List Nat) := rs.flatMap (fun r => tr_in r n)
/-- the rows of s + 1 towns -/
def tr_tb (n : Nat) : Nat → List (List Nat)
  | 0 => [[0]]
  | s + 1 => tr_st n (tr_tb n s)
/-- the rows after tv steps -/
def tr_ac (n : Nat) (rs : List (List Nat)) (tv : Nat) : List (List Nat) :=
  (rs.take (tv / n)).flatMap (fun r => tr_in r n) ++ tr_in (tr_row rs (tv / n)) (tv % n)
theorem tr_ac_0 (n : Nat) (rs : List (List Nat)) : tr_ac n rs 0 = [] := by
  unfold tr_ac
  rw [Nat.zero_div, Nat.zero_mod]
  rfl
theorem tr_ac_s {n tv : Nat} {rs : List (List Nat)} (hn : 0 < n) (h : tv / n < rs.length) :
    tr_ac n rs (tv + 1) = tr_ac n rs tv ++ (match tr_has (tr_row rs (tv / n)) (tv % n) (tr_row rs (tv / n)).length with | true => [] | false => [tr_row rs (tv / n) ++ [tv % n]]) := by
  have dm := Nat.div_add_mod tv n
  have lt := Nat.mod_lt tv hn
  by_cases z : tv % n + 1 = n
  · have e : tv + 1 = n * (tv / n + 1) := by rw [Nat.mul_succ]; omega
    have e1 : (tv + 1) / n = tv / n + 1 := by rw [e, Nat.mul_div_cancel_left _ hn]
    have e2 : (tv + 1) % n = 0 := by rw [e, Nat.mul_mod_right]
    have i : ∀ r, tr_in r n = tr_in r (tv % n + 1) := fun r => by rw [z]
    unfold tr_ac
    rw [e1, e2, tr_row_t rs _ h, List.flatMap_append]
    have j : ([tr_row rs (tv / n)] : List (List Nat)).flatMap (fun r => tr_in r n) = tr_in (tr_row rs (tv / n)) (tv % n + 1) := by
      rw [List.flatMap_cons, List.flatMap_nil, List.append_nil, i]
    rw [j]
    show (_ ++ (tr_in _ (tv % n) ++ _)) ++ [] = _
    rw [List.append_nil, List.append_assoc]
  · have e : tv + 1 = (tv % n + 1) + n * (tv / n) := by omega
    have e1 : (tv + 1) / n = tv / n := by
      rw [e, Nat.add_mul_div_left _ _ hn, Nat.div_eq_of_lt (by omega), Nat.zero_add]
    have e2 : (tv + 1) % n = tv % n + 1 := by
      rw [e, Nat.add_mul_mod_self_left, Nat.mod_eq_of_lt (by omega)]
    unfold tr_ac
    rw [e1, e2]
    show _ ++ (tr_in _ (tv % n) ++ _) = _
    rw [List.append_assoc]
theorem tr_ac_e {n : Nat} (rs : List (List Nat)) (hn : 0 < n) : tr_ac n rs (rs.length * n) = tr_st n rs := by
  unfold tr_ac
  rw [Nat.mul_div_cancel _ hn, Nat.mul_mod_left, List.take_length]
  show _ ++ [] = _
  rw [List.append_nil]
  rfl
theorem tr_dv {n a b : Nat} (h : a < b * n) : a / n < b := Nat.div_lt_of_lt_mul (by rw [Nat.mul_comm]; exact h)
theorem tr_ac_l {n : Nat} (rs : List (List Nat)) (hn : 0 < n) (tv : Nat) : ∀ d, tv + d ≤ rs.length * n → (tr_ac n rs tv).length ≤ (tr_ac n rs (tv + d)).length := by
  intro d
  induction d with
  | zero => intro _; exact Nat.le_refl _
  | succ d ih =>
    intro h
    have a := ih (by omega)
    rw [← Nat.add_assoc, tr_ac_s hn (tr_dv (by omega)), List.length_append]
    omega
/-- a step of the table never has more rows than its end has -/
theorem tr_ac_b {n tv : Nat} (rs : List (List Nat)) (hn : 0 < n) (h : tv ≤ rs.length * n) : (tr_ac n rs tv).length ≤ (tr_st n rs).length := by
  have a := tr_ac_l rs hn tv (rs.length * n - tv) (by omega)
  rw [show tv + (rs.length * n - tv) = rs.length * n by omega, tr_ac_e rs hn] at a
  exact a
/-! the next trip -/
def tr_gr (f : Nat → Nat) : Nat → Nat
  | 0 => 0
  | i + 1 => if f (i + 1) < f (i + 2) then i + 1 else tr_gr f i
def tr_gt (f : Nat → Nat) (p : Nat) : Nat → Nat
  | 0 => p
  | d + 1 => if f p < f (p + (d + 1)) then p + (d + 1) else tr_gt f p d
def tr_sw (f : Nat → Nat) (i j : Nat) : Nat → Nat := fun x => if x = j then f i else if x = i then f j else f x
def tr_rv (f : Nat → Nat) (n p : Nat) : Nat → Nat → Nat
  | 0 => f
  | m + 1 => tr_sw (tr_rv f n p m) (p + (m + 1)) (n - (m + 1))
def tr_nx (n : Nat) (f : Nat → Nat) (p o : Nat) : Nat → Nat := tr_rv (tr_sw f p o) n p ((n - 1 - p) / 2)
def tr_eq (f g : Nat → Nat) : Nat → Bool
  | 0 => true
  | k + 1 => match Nat.beq (f k) (g k) with | true => tr_eq f g k | false => false
def tr_c1 (n : Nat) (f : Nat → Nat) : Bool := Nat.beq (tr_gr f (n - 2)) 0
def tr_c2 (n : Nat) (f g : Nat → Nat) : Bool :=
  match tr_gr f (n - 2) with
  | 0 => false
  | p + 1 => match tr_gt f (p + 1) (n - 1 - (p + 1)) with
    | 0 => false
    | o + 1 => tr_eq (tr_nx n f (p + 1) (o + 1)) g n
def tr_ck (n : Nat) : List (List Nat) → Bool
  | [] => true
  | r :: rs => match (match rs with | [] => tr_c1 n (tr_get r) | q :: _ => tr_c2 n (tr_get r) (tr_get q)) with
    | true => tr_ck n rs
    | false => false
theorem tr_eq_t {f g : Nat → Nat} : ∀ n, tr_eq f g n = true → ∀ k, k < n → f k = g k := by
  intro n
  induction n with
  | zero => intro _ k h; omega
  | succ n ih =>
    intro h k hk
    rw [tr_eq] at h
    cases e : Nat.beq (f n) (g n) with
    | false => rw [e] at h; exact absurd (show false = true from h) Bool.false_ne_true
    | true =>
      rw [e] at h
      by_cases z : k = n
      · rw [z]; exact Nat.eq_of_beq_eq_true e
      · exact ih h k (by omega)
theorem tr_ck_s {n : Nat} : ∀ (rs : List (List Nat)) (t : Nat), tr_ck n rs = true → t + 1 < rs.length → tr_c2 n (tr_get (tr_row rs t)) (tr_get (tr_row rs (t + 1))) = true := by
  intro rs
  induction rs with
  | nil => intro t _ h; exact absurd h (Nat.not_lt_zero _)
  | cons r rs ih =>
    intro t h ht
    cases rs with
    | nil => exact absurd (Nat.lt_of_succ_lt_succ ht) (Nat.not_lt_zero _)
    | cons q qs =>
      have h' : (match tr_c2 n (tr_get r) (tr_get q) with | true => tr_ck n (q :: qs) | false => false) = true := h
      cases e : tr_c2 n (tr_get r) (tr_get q) with
      | false => rw [e] at h'; exact absurd (show false = true from h') Bool.false_ne_true
      | true =>
        rw [e] at h'
        cases t with
        | zero => exact e
        | succ t => exact ih t h' (Nat.lt_of_succ_lt_succ ht)
theorem tr_ck_e {n : Nat} : ∀ (rs : List (List Nat)) (t : Nat), tr_ck n rs = true → t + 1 = rs.length → tr_c1 n (tr_get (tr_row rs t)) = true := by
  intro rs
  induction rs with
  | nil => intro t _ h; exact absurd h (Nat.succ_ne_zero _)
  | cons r rs ih =>
    intro t h ht
    cases rs with
    | nil =>
      have h' : (match tr_c1 n (tr_get r) with | true => tr_ck n [] | false => false) = true := h
      have z : t = 0 := by simpa using ht
      subst z
      cases e : tr_c1 n (tr_get r) with
      | false => rw [e] at h'; exact absurd (show false = true from h') Bool.false_ne_true
      | true => exact e
    | cons q qs =>
      have h' : (match tr_c2 n (tr_get r) (tr_get q) with | true => tr_ck n (q :: qs) | false => false) = true := h
      cases e : tr_c2 n (tr_get r) (tr_get q) with
      | false => rw [e] at h'; exact absurd (show false = true from h') Bool.false_ne_true
      | true =>
        rw [e] at h'
        cases t with
        | zero => exact absurd ht (by simp)
        | succ t => exact ih t h' (Nat.succ.inj ht)
/-! which trips use two towns side by side -/
def tr_nk (n k : Nat) : Nat := if k + 1 = n then 0 else k + 1
def tr_pr (a b u v : Nat) : Prop := (a = u ∧ b = v) ∨ (a = v ∧ b = u)
def tr_us (f : Nat → Nat) (n u v : Nat) : Prop := ∃ k, k < n ∧ tr_pr (f k) (f (tr_nk n k)) u v
def tr_pb (a b u v : Nat) : Bool := (Nat.beq a u && Nat.beq b v) || (Nat.beq a v && Nat.beq b u)
def tr_ub (f : Nat → Nat) (n u v : Nat) : Nat → Bool
  | 0 => false
  | k + 1 => match tr_pb (f k) (f (tr_nk n k)) u v with | true => true | false => tr_ub f n u v k
theorem tr_pb_i (a b u v : Nat) : tr_pb a b u v = true ↔ tr_pr a b u v := by
  unfold tr_pb tr_pr
  rw [Bool.or_eq_true, Bool.and_eq_true, Bool.and_eq_true, Nat.beq_eq, Nat.beq_eq, Nat.beq_eq, Nat.beq_eq]
theorem tr_ub_i (f : Nat → Nat) (n u v : Nat) : ∀ m, tr_ub f n u v m = true ↔ ∃ k, k < m ∧ tr_pr (f k) (f (tr_nk n k)) u v := by
  intro m
  induction m with
  | zero => exact ⟨fun h => absurd (show false = true from h) Bool.false_ne_true, fun ⟨k, h, _⟩ => absurd h (Nat.not_lt_zero _)⟩
  | succ m ih =>
    rw [tr_ub]
    cases e : tr_pb (f m) (f (tr_nk n m)) u v with
    | true => exact ⟨fun _ => ⟨m, Nat.lt_succ_self _, (tr_pb_i _ _ _ _).mp e⟩, fun _ => rfl⟩
    | false =>
      refine ⟨fun h => ?_, fun ⟨k, h, q⟩ => ?_⟩
      · obtain ⟨k, hk, q⟩ := ih.mp h
        exact ⟨k, by omega, q⟩
      · refine ih.mpr ⟨k, ?_, q⟩
        by_cases z : k = m
        · rw [z] at q
          rw [(tr_pb_i _ _ _ _).mpr q] at e
          exact absurd e (fun w => Bool.false_ne_true w.symm)
        · omega
/-! what the tables of 3 to 7 towns are: looked through once, by the kernel -/
def tr_wf (n s : Nat) : List (List Nat) → Bool
  | [] => true
  | r :: rs => match Nat.beq r.length s && r.all (fun x => Nat.ble (x + 1) n) with | true => tr_wf n s rs | false => false
def tr_wa (n : Nat) : Nat → Bool
  | 0 => true
  | s + 1 => tr_wf n (s + 1) (tr_tb n s) && Nat.ble (tr_tb n s).length 720 && tr_wa n s
def tr_an (f : List Nat → Bool) : List (List Nat) → Bool
  | [] => false
  | r :: rs => match f r with | true => true | false => tr_an f rs
def tr_xv (n : Nat) (rs : List (List Nat)) (u : Nat) : Nat → Bool
  | 0 => true
  | v + 1 => (Nat.beq u v || (tr_an (fun r => tr_ub (tr_get r) n u v n) rs && (Nat.beq n 3 || tr_an (fun r => !(tr_ub (tr_get r) n u v n)) rs))) && tr_xv n rs u v
def tr_xu (n : Nat) (rs : List (List Nat)) : Nat → Bool
  | 0 => true
  | u + 1 => tr_xv n rs u n && tr_xu n rs u
def tr_gd (n : Nat) : Bool :=
  tr_wa n n && tr_ck n (tr_tb n (n - 1)) && tr_xu n (tr_tb n (n - 1)) n && tr_eq (tr_get (tr_row (tr_tb n (n - 1)) 0)) (fun k => k) n && Nat.ble 1 (tr_tb n (n - 1)).length
theorem tr_g3 : tr_gd 3 = true := by decide +kernel
theorem tr_g4 : tr_gd 4 = true := by decide +kernel
theorem tr_g5 : tr_gd 5 = true := by decide +kernel
theorem tr_g6 : tr_gd 6 = true := by decide +kernel
theorem tr_g7 : tr_gd 7 = true := by decide +kernel
end
section
/-! what the kernel saw, said of each row -/
theorem tr_g {n : Nat} (h3 : 3 ≤ n) (h7 : n ≤ 7) : tr_gd n = true := by
  have h : n = 3 ∨ n = 4 ∨ n = 5 ∨ n = 6 ∨ n = 7 := by omega
  rcases h with rfl | rfl | rfl | rfl | rfl
  · exact tr_g3
  · exact tr_g4
  · exact tr_g5
  · exact tr_g6
  · exact tr_g7
theorem tr_al {n : Nat} : ∀ (r : List Nat), r.all (fun x => Nat.ble (x + 1) n) = true → ∀ k, k < r.length → tr_get r k < n := by
  intro r
  induction r with
  | nil => intro _ k h; exact absurd h (Nat.not_lt_zero _)
  | cons x xs ih =>
    intro h k hk
    rw [List.all_cons, Bool.and_eq_true] at h
    cases k with
    | zero => exact Nat.le_of_ble_eq_true h.1
    | succ k => exact ih h.2 k (Nat.lt_of_succ_lt_succ hk)
theorem tr_wf_t {n s : Nat} : ∀ (rs : List (List Nat)), tr_wf n s rs = true → ∀ t, t < rs.length → (tr_row rs t).length = s ∧ ∀ k, k < s → tr_get (tr_row rs t) k < n := by
  intro rs
  induction rs with
  | nil => intro _ k h; exact absurd h (Nat.not_lt_zero _)
  | cons r rs ih =>
    intro h t ht
    rw [tr_wf] at h
    cases e : (Nat.beq r.length s && r.all (fun x => Nat.ble (x + 1) n)) with
    | false => rw [e] at h; exact absurd (show false = true from h) Bool.false_ne_true
    | true =>
      rw [e] at h
      cases t with
      | zero =>
        rw [Bool.and_eq_true] at e
        have l : r.length = s := Nat.eq_of_beq_eq_true e.1
        exact ⟨l, fun k hk => tr_al r e.2 k (by omega)⟩
      | succ t => exact ih h t (Nat.lt_of_succ_lt_succ ht)
theorem tr_wa_t {n : Nat} : ∀ m, tr_wa n m = true → ∀ s, s < m → tr_wf n (s + 1) (tr_tb n s) = true ∧ (tr_tb n s).length ≤ 720 := by
  intro m
  induction m with
  | zero => intro _ s h; omega
  | succ m ih =>
    intro h s hs
    rw [tr_wa, Bool.and_eq_true, Bool.and_eq_true] at h
    by_cases z : s = m
    · subst z
      exact ⟨h.1.1, Nat.le_of_ble_eq_true h.1.2⟩
    · exact ih h.2 s (by omega)
theorem tr_an_t {f : List Nat → Bool} : ∀ (rs : List (List Nat)), tr_an f rs = true → ∃ t, t < rs.length ∧ f (tr_row rs t) = true := by
  intro rs
  induction rs with
  | nil => intro h; exact absurd (show false = true from h) Bool.false_ne_true
  | cons r rs ih =>
    intro h
    rw [tr_an] at h
    cases e : f r with
    | true => exact ⟨0, Nat.succ_pos _, e⟩
    | false =>
      rw [e] at h
      obtain ⟨t, ht, q⟩ := ih h
      exact ⟨t + 1, Nat.succ_lt_succ ht, q⟩
theorem tr_xv_t {n u : Nat} {rs : List (List Nat)} : ∀ m, tr_xv n rs u m = true → ∀ v, v < m → u ≠ v → tr_an (fun r => tr_ub (tr_get r) n u v n) rs = true ∧ (n ≠ 3 → tr_an (fun r => !(tr_ub (tr_get r) n u v n)) rs = true) := by
  intro m
  induction m with
  | zero => intro _ s h; omega
  | succ m ih =>
    intro h v hv huv
    rw [tr_xv, Bool.and_eq_true, Bool.or_eq_true, Bool.and_eq_true, Bool.or_eq_true, Nat.beq_eq, Nat.beq_eq] at h
    by_cases z : v = m
    · subst z
      rcases h.1 with q | q
      · exact absurd q huv
      · refine ⟨q.1, fun n3 => ?_⟩
        rcases q.2 with w | w
        · exact absurd w n3
        · exact w
    · exact ih h.2 v (by omega) huv
theorem tr_xu_t {n : Nat} {rs : List (List Nat)} : ∀ m, tr_xu n rs m = true → ∀ u, u < m → tr_xv n rs u n = true := by
  intro m
  induction m with
  | zero => intro _ s h; omega
  | succ m ih =>
    intro h u hu
    rw [tr_xu, Bool.and_eq_true] at h
    by_cases z : u = m
    · subst z
      exact h.1
    · exact ih h.2 u (by omega)
/-- the number of trips, and trip t -/
def tr_T (n : Nat) : Nat := (tr_tb n (n - 1)).length
def tr_R (n t : Nat) : Nat → Nat := tr_get (tr_row (tr_tb n (n - 1)) t)
theorem tr_gs {n : Nat} (h3 : 3 ≤ n) (h7 : n ≤ 7) : tr_wa n n = true ∧ tr_ck n (tr_tb n (n - 1)) = true ∧ tr_xu n (tr_tb n (n - 1)) n = true ∧ tr_eq (tr_get (tr_row (tr_tb n (n - 1)) 0)) (fun k => k) n = true ∧ Nat.ble 1 (tr_tb n (n - 1)).length = true := by
  have h := tr_g h3 h7
  rw [tr_gd, Bool.and_eq_true, Bool.and_eq_true, Bool.and_eq_true, Bool.and_eq_true] at h
  exact ⟨h.1.1.1.1, h.1.1.1.2, h.1.1.2, h.1.2, h.2⟩
theorem tr_Tb {n : Nat} (h3 : 3 ≤ n) (h7 : n ≤ 7) {s : Nat} (hs : s < n) : (tr_tb n s).length ≤ 720 ∧ ∀ t, t < (tr_tb n s).length → (tr_row (tr_tb n s) t).length = s + 1 ∧ ∀ k, k < s + 1 → tr_get (tr_row (tr_tb n s) t) k < n := by
  have a := tr_wa_t n (tr_gs h3 h7).1 s hs
  exact ⟨a.2, tr_wf_t _ a.1⟩
theorem tr_T_b {n : Nat} (h3 : 3 ≤ n) (h7 : n ≤ 7) : 1 ≤ tr_T n ∧ tr_T n ≤ 720 :=
  ⟨Nat.le_of_ble_eq_true (tr_gs h3 h7).2.2.2.2, (tr_Tb h3 h7 (s := n - 1) (by omega)).1⟩
theorem tr_R_b {n t k : Nat} (h3 : 3 ≤ n) (h7 : n ≤ 7) (ht : t < tr_T n) (hk : k < n) : tr_R n t k < n :=
  ((tr_Tb h3 h7 (s := n - 1) (by omega)).2 t ht).2 k (by omega)
theorem tr_R_0 {n k : Nat} (h3 : 3 ≤ n) (h7 : n ≤ 7) (hk : k < n) : tr_R n 0 k = k :=
  tr_eq_t n (tr_gs h3 h7).2.2.2.1 k hk
theorem tr_R_e {n t : Nat} (h3 : 3 ≤ n) (h7 : n ≤ 7) (ht : t + 1 = tr_T n) : tr_gr (tr_R n t) (n - 2) = 0 :=
  Nat.eq_of_beq_eq_true (tr_ck_e _ t (tr_gs h3 h7).2.1 ht)
theorem tr_R_s {n t : Nat} (h3 : 3 ≤ n) (h7 : n ≤ 7) (ht : t + 1 < tr_T n) :
    tr_gr (tr_R n t) (n - 2) ≠ 0 ∧ ∀ k, k < n → tr_nx n (tr_R n t) (tr_gr (tr_R n t) (n - 2)) (tr_gt (tr_R n t) (tr_gr (tr_R n t) (n - 2)) (n - 1 - tr_gr (tr_R n t) (n - 2))) k = tr_R n (t + 1) k := by
  have h : tr_c2 n (tr_R n t) (tr_R n (t + 1)) = true := tr_ck_s _ t (tr_gs h3 h7).2.1 ht
  rw [tr_c2] at h
  cases e : tr_gr (tr_R n t) (n - 2) with
  | zero => rw [e] at h; exact absurd (show false = true from h) Bool.false_ne_true
  | succ p =>
    rw [e] at h
    dsimp only at h
    refine ⟨Nat.succ_ne_zero _, ?_⟩
    cases e2 : tr_gt (tr_R n t) (p + 1) (n - 1 - (p + 1)) with
    | zero => rw [e2] at h; exact absurd (show false = true from h) Bool.false_ne_true
    | succ o =>
      rw [e2] at h
      exact tr_eq_t n h
theorem tr_R_u {n u v : Nat} (h3 : 3 ≤ n) (h7 : n ≤ 7) (hu : u < n) (hv : v < n) (huv : u ≠ v) :
    (∃ t, t < tr_T n ∧ tr_us (tr_R n t) n u v) ∧ (n ≠ 3 → ∃ t, t < tr_T n ∧ ¬ tr_us (tr_R n t) n u v) := by
  have h := tr_xv_t n (tr_xu_t n (tr_gs h3 h7).2.2.1 u hu) v hv huv
  refine ⟨?_, fun n3 => ?_⟩
  · obtain ⟨t, ht, q⟩ := tr_an_t _ h.1
    exact ⟨t, ht, (tr_ub_i _ n u v n).mp q⟩
  · obtain ⟨t, ht, q⟩ := tr_an_t _ (h.2 n3)
    refine ⟨t, ht, fun z => ?_⟩
    rw [(tr_ub_i (tr_get (tr_row (tr_tb n (n - 1)) t)) n u v n).mpr z] at q
    exact absurd (show false = true from q) Bool.false_ne_true
theorem tr_gr_le (f : Nat → Nat) : ∀ i, tr_gr f i ≤ i := by
  intro i
  induction i with
  | zero => exact Nat.le_refl _
  | succ i ih => rw [tr_gr]; split <;> omega
theorem tr_gt_b (f : Nat → Nat) (p : Nat) : ∀ d, p ≤ tr_gt f p d ∧ tr_gt f p d ≤ p + d := by
  intro d
  induction d with
  | zero => exact ⟨Nat.le_refl _, Nat.le_refl _⟩
  | succ d ih => rw [tr_gt]; split <;> omega
/-! the length of a trip -/
def tr_tm (L : Nat → Nat) (f : Nat → Nat) (n k : Nat) : Nat := L (7 * f k + f (tr_nk n k))
def tr_ln (L : Nat → Nat) (n t : Nat) : Nat := tr_sm (tr_tm L (tr_R n t) n) n
theorem tr_nk_lt {n k : Nat} (h : k < n) : tr_nk n k < n := by
  unfold tr_nk; split <;> omega
theorem tr_cell {a b n : Nat} (ha : a < n) (hb : b < n) (h7 : n ≤ 7) : 7 * a + b < 49 := by omega
theorem tr_tm_b {L f : Nat → Nat} {n k : Nat} (hL : ∀ j, j < 49 → L j ≤ 60) (hf : ∀ k, k < n → f k < n) (h7 : n ≤ 7) (hk : k < n) : tr_tm L f n k ≤ 60 :=
  hL _ (tr_cell (hf k hk) (hf _ (tr_nk_lt hk)) h7)
theorem tr_ln_b {L : Nat → Nat} {n t : Nat} (hL : ∀ j, j < 49 → L j ≤ 60) (h3 : 3 ≤ n) (h7 : n ≤ 7) (ht : t < tr_T n) : tr_ln L n t ≤ 420 := by
  have a := tr_sm_le (c := 60) (g := tr_tm L (tr_R n t) n) n (fun k hk => tr_tm_b hL (fun k hk => tr_R_b h3 h7 ht hk) h7 hk)
  unfold tr_ln
  omega
/-! the best trip so far -/
def tr_BX (ln : Nat → Nat) (Q : Nat → Prop) (i b c : Nat) (F : Nat → Prop) : Prop :=
  (∀ t, t < i → Q t → b ≤ ln t) ∧ c = tr_cp (fun t => Q t ∧ ln t = b) i ∧
  ((b = 1000 ∧ ∀ t, t < i → ¬ Q t) ∨ (b < 1000 ∧ ∃ f, f < i ∧ Q f ∧ ln f = b ∧ (∀ t, t < f → Q t → b < ln t) ∧ F f))
theorem tr_BX_0 (ln : Nat → Nat) (Q : Nat → Prop) (F : Nat → Prop) : tr_BX ln Q 0 1000 0 F :=
  ⟨fun t h => absurd h (Nat.not_lt_zero _), rfl, Or.inl ⟨rfl, fun t h => absurd h (Nat.not_lt_zero _)⟩⟩
theorem tr_lt1 {P : Nat → Prop} {i : Nat} (h : ∀ t, t < i → P t) (hi : P i) : ∀ t, t < i + 1 → P t := by
  intro t ht
  by_cases z : t = i
  · rw [z]; exact hi
  · exact h t (by omega)
theorem tr_BX_n {ln : Nat → Nat} {Q : Nat → Prop} {i b c : Nat} {F : Nat → Prop} (I : tr_BX ln Q i b c F) (h : ¬ Q i) : tr_BX ln Q (i + 1) b c F := by
  obtain ⟨i1, i2, i3⟩ := I
  refine ⟨tr_lt1 i1 (fun q => absurd q h), ?_, ?_⟩
  · rw [tr_cp_f (fun q => h q.1)]; exact i2
  · rcases i3 with ⟨z, q⟩ | ⟨hb, f, h1, h2, h3, h4, h5⟩
    · exact Or.inl ⟨z, tr_lt1 q h⟩
    · exact Or.inr ⟨hb, f, by omega, h2, h3, h4, h5⟩
theorem tr_BX_g {ln : Nat → Nat} {Q : Nat → Prop} {i b c : Nat} {F : Nat → Prop} (I : tr_BX ln Q i b c F) (hl : ln i < 1000) (h : b < ln i) : tr_BX ln Q (i + 1) b c F := by
  obtain ⟨i1, i2, i3⟩ := I
  refine ⟨tr_lt1 i1 (fun q => by omega), ?_, ?_⟩
  · rw [tr_cp_f (fun q => by omega)]; exact i2
  · rcases i3 with ⟨z, q⟩ | ⟨hb, f, h1, h2, h3, h4, h5⟩
    · omega
    · exact Or.inr ⟨hb, f, by omega, h2, h3, h4, h5⟩
theorem tr_BX_e {ln : Nat → Nat} {Q : Nat → Prop} {i b c : Nat} {F : Nat → Prop} (I : tr_BX ln Q i b c F) (hl : ln i < 1000) (hq : Q i) (h : ln i = b) : tr_BX ln Q (i + 1) b (c + 1) F := by
  obtain ⟨i1, i2, i3⟩ := I
  refine ⟨tr_lt1 i1 (fun q => by omega), ?_, ?_⟩
  · rw [tr_cp_t (⟨hq, h⟩ : Q i ∧ ln i = b), i2]
  · rcases i3 with ⟨z, q⟩ | ⟨hb, f, h1, h2, h3, h4, h5⟩
    · omega
    · exact Or.inr ⟨hb, f, by omega, h2, h3, h4, h5⟩
theorem tr_BX_l {ln : Nat → Nat} {Q : Nat → Prop} {i b c : Nat} {F F' : Nat → Prop} (I : tr_BX ln Q i b c F) (hl : ln i < 1000) (hq : Q i) (h : ln i < b) (hF : F' i) : tr_BX ln Q (i + 1) (ln i) 1 F' := by
  obtain ⟨i1, i2, i3⟩ := I
  refine ⟨tr_lt1 (fun t ht q => by have := i1 t ht q; omega) (fun q => Nat.le_refl _), ?_, ?_⟩
  · rw [tr_cp_t (⟨hq, rfl⟩ : Q i ∧ ln i = ln i), tr_cp_none i (fun m hm q => by have := i1 m hm q.1; omega)]
  · exact Or.inr ⟨hl, i, by omega, hq, rfl, fun t ht q => by have := i1 t ht q; omega, hF⟩
/-- the end: the first of the trips with the least length -/
theorem tr_BX_x {ln : Nat → Nat} {Q : Nat → Prop} {T b c : Nat} {F : Nat → Prop} (I : tr_BX ln Q T b c F) (h : ∃ t, t < T ∧ Q t) :
    (∀ t, t < T → Q t → b ≤ ln t) ∧ c = tr_cp (fun t => Q t ∧ ln t = b) T ∧ b < 1000 ∧ ∃ f, f < T ∧ Q f ∧ ln f = b ∧ (∀ t, t < f → Q t → b < ln t) ∧ F f := by
  obtain ⟨i1, i2, i3⟩ := I
  rcases i3 with ⟨z, q⟩ | z
  · obtain ⟨t, ht, hq⟩ := h
    exact absurd hq (q t ht)
  · exact ⟨i1, i2, z⟩
/-! a length set for two towns -/
def tr_pt (L : Nat → Nat) (u v x : Nat) : Nat → Nat := fun j => if j = 7 * v + u then x else if j = 7 * u + v then x else L j
theorem tr_pt_y {L : Nat → Nat} {u v x : Nat} (h : tr_Sy L) (hu : u < 7) (hv : v < 7) : tr_Sy (tr_pt L u v x) := by
  intro a b ha hb
  have e := h a b ha hb
  unfold tr_pt
  by_cases z1 : 7 * a + b = 7 * v + u
  · have w : 7 * b + a = 7 * u + v := by omega
    rw [if_pos z1, if_pos w]
    split <;> rfl
  · by_cases z2 : 7 * a + b = 7 * u + v
    · have w : 7 * b + a = 7 * v + u := by omega
      rw [if_neg z1, if_pos z2, if_pos w]
    · have w1 : ¬ 7 * b + a = 7 * v + u := by omega
      have w2 : ¬ 7 * b + a = 7 * u + v := by omega
      rw [if_neg z1, if_neg z2, if_neg w1, if_neg w2, e]
theorem tr_pt_b {L : Nat → Nat} {u v x : Nat} (h : ∀ j, j < 49 → L j ≤ 60) (hx : x ≤ 60) : ∀ j, j < 49 → tr_pt L u v x j ≤ 60 := by
  intro j hj
  have := h j hj
  unfold tr_pt
  split
  · exact hx
  · split
    · exact hx
    · exact this
/-- an array that holds L in its first m cells -/
def tr_Rp (m : Nat) (a : Nat → Int32) (L : Nat → Nat) : Prop := ∀ j, j < m → a j = nI (L j)
theorem tr_Rp_pt {a : Nat → Int32} {L : Nat → Nat} {u v x : Nat} {m : Nat} (h : tr_Rp m a L) : tr_Rp m (upd (upd a (7 * u + v) (nI x)) (7 * v + u) (nI x)) (tr_pt L u v x) := by
  intro j hj
  unfold upd tr_pt
  by_cases z1 : j = 7 * v + u
  · rw [if_pos z1, if_pos z1]
  · by_cases z2 : j = 7 * u + v
    · rw [if_neg z1, if_pos z2, if_neg z1, if_pos z2]
    · rw [if_neg z1, if_neg z2, if_neg z1, if_neg z2, h j hj]
theorem tr_Rp_u {a : Nat → Int32} {L L' : Nat → Nat} {i x : Nat} {m : Nat} (h : tr_Rp m a L) (e : ∀ j, j < m → L' j = if j = i then x else L j) : tr_Rp m (upd a i (nI x)) L' := by
  intro j hj
  unfold upd
  rw [e j hj]
  by_cases z : j = i
  · rw [if_pos z, if_pos z]
  · rw [if_neg z, if_neg z, h j hj]
theorem tr_Rp_m {a : Nat → Int32} {L : Nat → Nat} {m m' : Nat} (h : tr_Rp m a L) (e : m' ≤ m) : tr_Rp m' a L := fun j hj => h j (by omega)
theorem tr_Rp_c {a : Nat → Int32} {L L' : Nat → Nat} {m : Nat} (h : tr_Rp m a L) (e : ∀ j, j < m → L j = L' j) : tr_Rp m a L' := fun j hj => by rw [h j hj, e j hj]
end
section
/-! one round of the labels, pair by pair -/
def tr_Rd (L : Nat → Nat) (n k : Nat) (p0 p : Nat → Nat) (uv : Nat) : Prop :=
  tr_so (tr_E L n k) p ∧ (∀ x, p x ≤ p0 x) ∧ ∀ b a, tr_E L n k b a → 7 * b + a < uv → p b ≤ p0 a
theorem tr_Rd_0 {L : Nat → Nat} {n k : Nat} {p0 : Nat → Nat} (h : tr_so (tr_E L n k) p0) : tr_Rd L n k p0 p0 0 :=
  ⟨h, fun _ => Nat.le_refl _, fun _ _ _ h => absurd h (Nat.not_lt_zero _)⟩
theorem tr_Rd_k {L : Nat → Nat} {n k : Nat} {p0 p : Nat → Nat} {u v : Nat} (h7 : n ≤ 7) (hv : v < 7) (I : tr_Rd L n k p0 p (7 * u + v)) (h : tr_E L n k u v → p u ≤ p v) : tr_Rd L n k p0 p (7 * u + v + 1) := by
  obtain ⟨i1, i2, i3⟩ := I
  refine ⟨i1, i2, fun b a e hb => ?_⟩
  have ha := e.2.1
  by_cases z : 7 * b + a < 7 * u + v
  · exact i3 b a e z
  · have e1 : b = u := by omega
    have e2 : a = v := by omega
    subst e1 e2
    exact Nat.le_trans (h e) (i2 _)
theorem tr_Rd_u {L : Nat → Nat} {n k : Nat} {p0 p p' : Nat → Nat} {u v : Nat} (h7 : n ≤ 7) (hv : v < 7) (I : tr_Rd L n k p0 p (7 * u + v)) (e : tr_E L n k u v) (h : p v < p u) (hp : ∀ x, p' x = if x = u then p v else p x) : tr_Rd L n k p0 p' (7 * u + v + 1) := by
  obtain ⟨i1, i2, i3⟩ := I
  have le : ∀ x, p' x ≤ p x := by
    intro x
    rw [hp x]
    by_cases z : x = u
    · rw [if_pos z, z]; omega
    · rw [if_neg z]; exact Nat.le_refl _
  refine ⟨tr_so_u i1 e hp, fun x => Nat.le_trans (le x) (i2 x), fun b a q hb => ?_⟩
  have ha := q.2.1
  by_cases z : 7 * b + a < 7 * u + v
  · exact Nat.le_trans (le b) (i3 b a q z)
  · have e1 : b = u := by omega
    have e2 : a = v := by omega
    subst e1 e2
    rw [hp b, if_pos rfl]
    exact i2 _
theorem tr_Rd_e {L : Nat → Nat} {n k r : Nat} {p0 p : Nat → Nat} (h7 : n ≤ 7) (sy : tr_Sy L) (I : tr_Iv (tr_E L n k) n r p0) (R : tr_Rd L n k p0 p 49) : tr_Iv (tr_E L n k) n (r + 1) p :=
  tr_Iv_s (fun a b e => e.2.1) I R.1 R.2.1 (fun b a e => R.2.2 b a e (by have := e.1; have := e.2.1; omega)) (tr_E_y sy h7 k)
theorem tr_P_pos {L : Nat → Nat} {n k : Nat} (hn : 0 < n) : 1 ≤ tr_P L n k :=
  tr_cp_pos (P := fun u => tr_lb (tr_E L n k) u = u) 0 (Nat.le_zero.mp (tr_lb_le _ 0)) n hn
theorem tr_P_le (L : Nat → Nat) (n k : Nat) : tr_P L n k ≤ n := tr_cp_le _ n
/-! the net grows: gaps of the towns outside J -/
def tr_Gp (L : Nat → Nat) (n : Nat) (J : Nat → Prop) (g : Nat → Nat) : Prop :=
  ∀ t, t < n → ¬ J t → (∀ u, J u → g t ≤ L (7 * u + t)) ∧ (g t = 1000 ∨ ∃ u, J u ∧ g t = L (7 * u + t))
theorem tr_Gp_0 (L : Nat → Nat) (n : Nat) {J : Nat → Prop} {g : Nat → Nat} (hJ : ∀ u, ¬ J u) (hg : ∀ t, t < n → g t = 1000) : tr_Gp L n J g :=
  fun t ht _ => ⟨fun u hu => absurd hu (hJ u), Or.inl (hg t ht)⟩
theorem tr_Gp_s {L : Nat → Nat} {n v : Nat} {J J' : Nat → Prop} {g g' : Nat → Nat} (I : tr_Gp L n J g) (hJ : ∀ u, J' u ↔ (J u ∨ u = v))
    (hg : ∀ t, t < n → ¬ J' t → g' t = if L (7 * v + t) < g t then L (7 * v + t) else g t) : tr_Gp L n J' g' := by
  intro t ht hn
  obtain ⟨i1, i2⟩ := I t ht (fun q => hn ((hJ t).mpr (Or.inl q)))
  rw [hg t ht hn]
  by_cases z : L (7 * v + t) < g t
  · rw [if_pos z]
    refine ⟨fun u hu => ?_, Or.inr ⟨v, (hJ v).mpr (Or.inr rfl), rfl⟩⟩
    rcases (hJ u).mp hu with q | q
    · have := i1 u q; omega
    · rw [q]; exact Nat.le_refl _
  · rw [if_neg z]
    refine ⟨fun u hu => ?_, ?_⟩
    · rcases (hJ u).mp hu with q | q
      · exact i1 u q
      · rw [q]; omega
    · rcases i2 with q | ⟨u, hu, q⟩
      · exact Or.inl q
      · exact Or.inr ⟨u, (hJ u).mpr (Or.inl hu), q⟩
/-- where J holds town 0, a gap is a true length -/
theorem tr_Gp_w {L : Nat → Nat} {n : Nat} {J : Nat → Prop} {g : Nat → Nat} (I : tr_Gp L n J g) (hL : ∀ j, j < 49 → L j ≤ 60) (h7 : n ≤ 7) (h0 : J 0) {t : Nat} (ht : t < n) (hn : ¬ J t) :
    g t ≤ 60 ∧ ∃ u, J u ∧ L (7 * u + t) = g t := by
  obtain ⟨i1, i2⟩ := I t ht hn
  have a := i1 0 h0
  have b := hL (7 * 0 + t) (by omega)
  refine ⟨by omega, ?_⟩
  rcases i2 with q | ⟨u, hu, q⟩
  · omega
  · exact ⟨u, hu, q.symm⟩
/-- the search for the nearest town outside -/
def tr_Ns (n : Nat) (J : Nat → Prop) (g : Nat → Nat) (t v l : Nat) : Prop :=
  (l = 1000 ∧ v = 0 ∧ ∀ x, 1 ≤ x → x < t → J x) ∨ (1 ≤ v ∧ v < t ∧ ¬ J v ∧ l = g v ∧ l < 1000 ∧ ∀ x, 1 ≤ x → x < t → ¬ J x → g v ≤ g x)
theorem tr_Ns_0 (n : Nat) (J : Nat → Prop) (g : Nat → Nat) : tr_Ns n J g 1 0 1000 := Or.inl ⟨rfl, rfl, fun x h1 h2 => by omega⟩
theorem tr_Ns_j {n : Nat} {J : Nat → Prop} {g : Nat → Nat} {t v l : Nat} (I : tr_Ns n J g t v l) (h : J t) : tr_Ns n J g (t + 1) v l := by
  rcases I with ⟨a, b, c⟩ | ⟨a, b, c, d, e, f⟩
  · refine Or.inl ⟨a, b, fun x h1 h2 => ?_⟩
    by_cases z : x = t
    · rw [z]; exact h
    · exact c x h1 (by omega)
  · refine Or.inr ⟨a, by omega, c, d, e, fun x h1 h2 hx => ?_⟩
    by_cases z : x = t
    · rw [z] at hx; exact absurd h hx
    · exact f x h1 (by omega) hx
theorem tr_Ns_g {n : Nat} {J : Nat → Prop} {g : Nat → Nat} {t v l : Nat} (I : tr_Ns n J g t v l) (h : l ≤ g t) (hg : g t < 1000) : tr_Ns n J g (t + 1) v l := by
  rcases I with ⟨a, b, c⟩ | ⟨a, b, c, d, e, f⟩
  · omega
  · refine Or.inr ⟨a, by omega, c, d, e, fun x h1 h2 hx => ?_⟩
    by_cases z : x = t
    · rw [z]; omega
    · exact f x h1 (by omega) hx
theorem tr_Ns_l {n : Nat} {J : Nat → Prop} {g : Nat → Nat} {t v l : Nat} (I : tr_Ns n J g t v l) (h1 : 1 ≤ t) (hj : ¬ J t) (h : g t < l) : tr_Ns n J g (t + 1) t (g t) := by
  rcases I with ⟨a, b, c⟩ | ⟨a, b, c, d, e, f⟩
  · refine Or.inr ⟨h1, by omega, hj, rfl, by omega, fun x h1 h2 hx => ?_⟩
    by_cases z : x = t
    · rw [z]; exact Nat.le_refl _
    · exact absurd (c x h1 (by omega)) hx
  · refine Or.inr ⟨h1, by omega, hj, rfl, by omega, fun x h1 h2 hx => ?_⟩
    by_cases z : x = t
    · rw [z]; exact Nat.le_refl _
    · have := f x h1 (by omega) hx
      omega
theorem tr_Ns_e {n : Nat} {J : Nat → Prop} {g : Nat → Nat} {v l : Nat} (I : tr_Ns n J g n v l) (h0 : J 0) (h : tr_cp J n < n) :
    v < n ∧ ¬ J v ∧ ∀ x, x < n → ¬ J x → g v ≤ g x := by
  rcases I with ⟨a, b, c⟩ | ⟨a, b, c, d, e, f⟩
  · obtain ⟨m, hm, q⟩ := tr_cp_ex n h
    by_cases z : m = 0
    · rw [z] at q; exact absurd h0 q
    · exact absurd (c m (by omega) hm) q
  · refine ⟨b, c, fun x h1 hx => ?_⟩
    by_cases z : x = 0
    · rw [z] at hx; exact absurd h0 hx
    · exact f x (by omega) h1 hx
/-- all that the growing net keeps -/
def tr_Pm (L : Nat → Nat) (n i : Nat) (J : Nat → Prop) (g : Nat → Nat) (s m : Nat) : Prop :=
  J 0 ∧ (∀ u, J u → u < n) ∧ tr_cp J n = i ∧ tr_Gp L n J g ∧ tr_Nt L n J s m
theorem tr_Pm_s {L : Nat → Nat} {n i : Nat} {J J' : Nat → Prop} {g g' : Nat → Nat} {s m v : Nat} (sy : tr_Sy L) (hL : ∀ j, j < 49 → L j ≤ 60) (h7 : n ≤ 7) (I : tr_Pm L n i J g s m)
    (hv : v < n) (hj : ¬ J v) (hm : ∀ x, x < n → ¬ J x → g v ≤ g x) (hJ : ∀ u, J' u ↔ (J u ∨ u = v))
    (hg : ∀ t, t < n → ¬ J' t → g' t = if L (7 * v + t) < g t then L (7 * v + t) else g t) :
    tr_Pm L n (i + 1) J' g' (s + g v) (if m < g v then g v else m) := by
  obtain ⟨h0, hn, hc, hG, hN⟩ := I
  have w := tr_Gp_w hG hL h7 h0 hv hj
  refine ⟨(hJ 0).mpr (Or.inl h0), fun u hu => ?_, ?_, tr_Gp_s hG hJ hg, tr_Nt_s sy h7 hN hJ hj hv hn h0 w.2 (fun a b ha hb hbn => ?_) w.1⟩
  · rcases (hJ u).mp hu with q | q
    · exact hn u q
    · rw [q]; exact hv
  · rw [tr_cp_add v hj n (fun m _ => hJ m) hv, hc]
  · exact Nat.le_trans (hm b hbn hb) ((hG b hbn hb).1 a ha)
end
section
/-! X: the methods that read a trip -/
theorem tr_ix (a b : Nat) : nI a * 7 + nI b = nI (7 * a + b) := by
  rw [show (7 : Int32) = nI 7 from rfl, pk_mul, nI_add, Nat.mul_comm]
theorem tr_iy (a b : Nat) : 7 * nI a + nI b = nI (7 * a + b) := by
  rw [show (7 : Int32) = nI 7 from rfl, pk_mul, nI_add]
theorem tr_Rp_x {a : Nat → Int32} {f : Nat → Nat} {i : Nat} (h : tr_Rp i a f) : tr_Rp (i + 1) (upd a i (nI (f i))) f := by
  intro j hj
  by_cases z : j = i
  · rw [z]; exact pk_us
  · rw [pk_un z]; exact h j (by omega)
theorem tx_lb {post : Int32 → Prop} {fn fb fc fs fm : Int32} {aL aT aB aG aJ : Nat → Int32} {L : Nat → Nat} {a b : Nat} (hl : tr_Rp 49 aL L) (h : 7 * a + b < 49) (k : post (nI (L (7 * a + b)))) :
    wpX_lengthBetween post (fn, fb, fc, fs, fm, aL, aT, aB, aG, aJ) (nI a) (nI b) := by
  unfold wpX_lengthBetween
  dsimp only
  rw [tr_ix, nI_clamp (by omega), hl _ h]
  exact ⟨vp_in_nI h (by omega), k⟩
theorem tr_nk_s {n k : Nat} (h : k + 1 < n) : tr_nk n k = k + 1 := if_neg (by omega)
theorem tr_nk_e {n k : Nat} (h : k + 1 = n) : tr_nk n k = 0 := if_pos h
theorem tx_ln_l {post : Int32 → Prop} {fb fc fs fm : Int32} {aL aT aB aG aJ : Nat → Int32} {L f : Nat → Nat} {n : Nat} (h7 : n ≤ 7) (hl : tr_Rp 49 aL L) (ht : tr_Rp n aT f) (hf : ∀ k, k < n → f k < n)
    (K : post (nI (tr_sm (tr_tm L f n) n))) : ∀ d i, i + 1 + d = n → wX_tripLength_24 post (nI n) fb fc fs fm aL aT aB aG aJ (d + 1) (nI (tr_tm L f n (n - 1) + tr_sm (tr_tm L f n) i)) (nI (i + 1)) := by
  intro d
  induction d with
  | zero =>
    intro i hi
    have e : tr_tm L f n (n - 1) + tr_sm (tr_tm L f n) i = tr_sm (tr_tm L f n) n := by
      obtain rfl : n = i + 1 := by omega
      rw [tr_sm, Nat.add_sub_cancel, Nat.add_comm]
    rw [e]
    exact br_t (nI_le (by omega) (by omega)) K
  | succ d ih =>
    intro i hi
    have a := hf i (by omega)
    have b := hf (i + 1) (by omega)
    refine br_f (nI_ge (by omega) (by omega)) ⟨by rw [nI_pred]; exact vp_in_nI (by omega) (by omega), vp_in_nI (by omega) (by omega), ?_⟩
    rw [nI_pred, nI_clamp (by omega), nI_clamp (by omega), ht i (by omega), ht (i + 1) (by omega)]
    refine tx_lb hl (by omega) (nm_r ?_ (nm_r (nI_1 (i + 1)) (ih (i + 1) (by omega))))
    rw [nI_add, tr_sm, tr_tm, tr_tm, tr_nk_s (k := i) (by omega), Nat.add_assoc]
theorem tx_ln {post : Int32 → Prop} {fb fc fs fm : Int32} {aL aT aB aG aJ : Nat → Int32} {L f : Nat → Nat} {n : Nat} (h3 : 3 ≤ n) (h7 : n ≤ 7) (hl : tr_Rp 49 aL L) (ht : tr_Rp n aT f) (hf : ∀ k, k < n → f k < n)
    (K : post (nI (tr_sm (tr_tm L f n) n))) : wpX_tripLength post (nI n, fb, fc, fs, fm, aL, aT, aB, aG, aJ) := by
  have a := hf (n - 1) (by omega)
  have b := hf 0 (by omega)
  have e1 : nI n - 1 = nI (n - 1) := pk_sub (b := 1) (by omega)
  unfold wpX_tripLength
  dsimp only
  rw [e1, nI_clamp (by omega), ht (n - 1) (by omega), ht 0 (by omega)]
  refine ⟨vp_in_nI (by omega) (by omega), tx_lb hl (by omega) ⟨n - 1 + 1, ?_⟩⟩
  have z := tx_ln_l (aB := aB) (aG := aG) (aJ := aJ) (fb := fb) (fc := fc) (fs := fs) (fm := fm) h7 hl ht hf K (n - 1) 0 (by omega)
  have e2 : tr_tm L f n (n - 1) + tr_sm (tr_tm L f n) 0 = L (7 * f (n - 1) + f 0) := by
    rw [tr_sm, tr_tm, tr_nk_e (by omega), Nat.add_zero]
  rw [e2] at z
  exact z
def tr_pv (n i : Nat) : Nat := if i = 0 then n - 1 else i - 1
theorem tr_pv_s (n i : Nat) : tr_pv n (i + 1) = i := by
  rw [tr_pv, if_neg (by omega), Nat.add_sub_cancel]
theorem tr_pv_lt {n i : Nat} (hn : 0 < n) (h : i ≤ n) : tr_pv n i < n := by
  unfold tr_pv; split <;> omega
theorem tr_nk_pv {n i : Nat} (hn : 0 < n) (h : i < n) : tr_nk n (tr_pv n i) = i := by
  unfold tr_nk tr_pv; split <;> split <;> omega
theorem tr_pv_nk {n i : Nat} (h : i < n) : tr_pv n (tr_nk n i) = i := by
  unfold tr_nk tr_pv; split <;> split <;> omega
theorem tx_u44 {post : Int32 → Prop} {J : Int32 → Int32 → Prop} {fn fb fc fs fm : Int32} {aL aT aB aG aJ : Nat → Int32} {a b u v i : Nat} (ha : a < 7) (hb : b < 7) (hu : u < 7) (hv : v < 7) (h1 : a = v → b = u → post 1) (h2 : ¬ (a = v ∧ b = u) → J (nI b) (nI (i + 1))) :
    wX_tripUses_44 post J (nI u) (nI v) (nI a) (nI i) (nI b) fn fb fc fs fm aL aT aB aG aJ :=
  pk_eq a v (fun e => pk_eq b u (fun e2 => h1 e e2) (fun ne => nm_r (nI_1 i) (h2 (fun q => ne q.2)))) (fun ne => nm_r (nI_1 i) (h2 (fun q => ne q.1)))
theorem tx_us_l {post : Int32 → Prop} {fb fc fs fm : Int32} {aL aT aB aG aJ : Nat → Int32} {f : Nat → Nat} {n u v : Nat} (h3 : 3 ≤ n) (h7 : n ≤ 7) (ht : tr_Rp n aT f) (hf : ∀ k, k < n → f k < n) (hu : u < 7) (hv : v < 7)
    (hT : tr_us f n u v → post 1) (hF : ¬ tr_us f n u v → post 0) : ∀ d i, i + d = n → (∀ k, k < i → ¬ tr_pr (f (tr_pv n k)) (f k) u v) → wX_tripUses_15 post (nI u) (nI v) (nI n) fb fc fs fm aL aT aB aG aJ (d + 1) (nI (f (tr_pv n i))) (nI i) := by
  intro d
  induction d with
  | zero =>
    intro i hi hk
    refine br_t (nI_le (by omega) (by omega)) (hF ?_)
    rintro ⟨k, hkn, q⟩
    refine hk (tr_nk n k) (by have := tr_nk_lt hkn; omega) ?_
    rw [tr_pv_nk hkn]
    exact q
  | succ d ih =>
    intro i hi hk
    have a := hf i (by omega)
    have b := hf (tr_pv n i) (tr_pv_lt (by omega) (by omega))
    have yes : tr_pr (f (tr_pv n i)) (f i) u v → post 1 := fun q => hT ⟨tr_pv n i, tr_pv_lt (by omega) (by omega), by rw [tr_nk_pv (by omega) (by omega)]; exact q⟩
    have no : ¬ tr_pr (f (tr_pv n i)) (f i) u v → wX_tripUses_15 post (nI u) (nI v) (nI n) fb fc fs fm aL aT aB aG aJ (d + 1) (nI (f i)) (nI (i + 1)) := by
      intro q
      have z := ih (i + 1) (by omega) (tr_lt1 hk q)
      rw [tr_pv_s] at z
      exact z
    refine br_f (nI_ge (by omega) (by omega)) ⟨vp_in_nI (by omega) (by omega), nm_r (e' := nI (f i)) (by rw [nI_clamp (by omega), ht i (by omega)]) ?_⟩
    refine pk_eq (f (tr_pv n i)) u (fun e => pk_eq (f i) v (fun e2 => yes (Or.inl ⟨e, e2⟩)) (fun ne => ?_)) (fun ne => ?_)
    · exact tx_u44 (by omega) (by omega) hu hv (fun q1 q2 => yes (Or.inr ⟨q1, q2⟩)) (fun q => no (fun w => by
        rcases w with w | w
        · exact ne w.2
        · exact q w))
    · exact tx_u44 (by omega) (by omega) hu hv (fun q1 q2 => yes (Or.inr ⟨q1, q2⟩)) (fun q => no (fun w => by
        rcases w with w | w
        · exact ne w.1
        · exact q w))
theorem tx_us {post : Int32 → Prop} {fb fc fs fm : Int32} {aL aT aB aG aJ : Nat → Int32} {f : Nat → Nat} {n u v : Nat} (h3 : 3 ≤ n) (h7 : n ≤ 7) (ht : tr_Rp n aT f) (hf : ∀ k, k < n → f k < n) (hu : u < 7) (hv : v < 7)
    (hT : tr_us f n u v → post 1) (hF : ¬ tr_us f n u v → post 0) : wpX_tripUses post (nI n, fb, fc, fs, fm, aL, aT, aB, aG, aJ) (nI u) (nI v) := by
  have e1 : nI n - 1 = nI (n - 1) := pk_sub (b := 1) (by omega)
  unfold wpX_tripUses
  dsimp only
  rw [e1, nI_clamp (by omega), ht (n - 1) (by omega)]
  refine ⟨vp_in_nI (by omega) (by omega), nm_e ⟨n + 1, ?_⟩⟩
  exact tx_us_l h3 h7 ht hf hu hv hT hF n 0 (by omega) (fun k h => absurd h (Nat.not_lt_zero _))
theorem tx_cp_l {post : SX → Prop} {fb fc fs fm : Int32} {aL aT aG aJ : Nat → Int32} {f : Nat → Nat} {n : Nat} (h7 : n ≤ 7) (ht : tr_Rp n aT f)
    (K : ∀ aB', tr_Rp n aB' f → post (nI n, fb, fc, fs, fm, aL, aT, aB', aG, aJ)) : ∀ d i aB, i + d = n → tr_Rp i aB f → wX_compareTripWithBest_43 post (nI n) fb fc fs fm (d + 1) (nI i) aL aT aB aG aJ := by
  intro d
  induction d with
  | zero =>
    intro i aB hi hB
    obtain rfl : i = n := by omega
    exact br_t (nI_le (by omega) (by omega)) (K aB hB)
  | succ d ih =>
    intro i aB hi hB
    refine br_f (nI_ge (by omega) (by omega)) ⟨vp_in_nI (by omega) (by omega), vp_in_nI (by omega) (by omega), nm_r (e' := upd aB i (nI (f i))) (by rw [nI_clamp (by omega), ht i (by omega)]) (nm_r (nI_1 i) (ih (i + 1) _ (by omega) (tr_Rp_x hB)))⟩
theorem tx_cmp {post : SX → Prop} {fs fm : Int32} {aL aT aB aG aJ : Nat → Int32} {L f : Nat → Nat} {n b c ln : Nat} (h3 : 3 ≤ n) (h7 : n ≤ 7) (hl : tr_Rp 49 aL L) (ht : tr_Rp n aT f) (hf : ∀ k, k < n → f k < n) (hln : tr_sm (tr_tm L f n) n = ln) (hl1 : ln < 1000) (hb : b ≤ 1000)
    (h1 : ln = b → post (nI n, nI b, nI (c + 1), fs, fm, aL, aT, aB, aG, aJ)) (h2 : b < ln → post (nI n, nI b, nI c, fs, fm, aL, aT, aB, aG, aJ))
    (h4 : ln < b → ∀ aB', tr_Rp n aB' f → post (nI n, nI ln, nI 1, fs, fm, aL, aT, aB', aG, aJ)) :
    wpX_compareTripWithBest post (nI n, nI b, nI c, fs, fm, aL, aT, aB, aG, aJ) := by
  unfold wpX_compareTripWithBest
  dsimp only
  refine tx_ln h3 h7 hl ht hf ?_
  rw [hln]
  refine pk_eq ln b (fun e => nm_r (nI_1 c) ?_) (fun ne => ?_)
  · exact br_t (nI_le (by omega) (by omega)) (h1 e)
  · refine pk_le b ln (fun h => h2 (by omega)) (fun h => ⟨n + 1, ?_⟩)
    exact tx_cp_l h7 ht (h4 h) n 0 aB (by omega) (fun j hj => absurd hj (Nat.not_lt_zero _))
end
section
/-! X: the next trip -/
theorem tx_gr_l {post : Int32 → Prop} {fb fc fs fm : Int32} {aL aT aB aG aJ : Nat → Int32} {f : Nat → Nat} {n : Nat} (h7 : n ≤ 7) (ht : tr_Rp n aT f) (hf : ∀ k, k < n → f k < n) :
    ∀ i, i + 1 < n → post (nI (tr_gr f i)) → wX_lastPlaceThatCanGrow_7 post (nI n) fb fc fs fm aL aT aB aG aJ (i + 1) (nI i) := by
  intro i
  induction i with
  | zero => intro _ K; exact br_t (nI_le (b := 0) (by omega) (by omega)) K
  | succ i ih =>
    intro hi K
    have a := hf (i + 1) (by omega)
    have b := hf (i + 1 + 1) (by omega)
    rw [tr_gr] at K
    refine br_f (nI_nle (by omega) (by omega)) ⟨vp_in_nI (by omega) (by omega), by rw [nI_1]; exact vp_in_nI (by omega) (by omega), ?_⟩
    rw [nI_1, nI_clamp (by omega), nI_clamp (by omega), ht (i + 1 + 1) (by omega), ht (i + 1) (by omega)]
    refine pk_le (f (i + 1 + 1)) (f (i + 1)) (fun h => nm_r (pk_m1 i) (ih (by omega) ?_)) (fun h => ?_)
    · rw [if_neg (Nat.not_lt.mpr h)] at K
      exact K
    · rw [if_pos h] at K
      exact K
theorem tx_gr {post : Int32 → Prop} {fb fc fs fm : Int32} {aL aT aB aG aJ : Nat → Int32} {f : Nat → Nat} {n : Nat} (h3 : 3 ≤ n) (h7 : n ≤ 7) (ht : tr_Rp n aT f) (hf : ∀ k, k < n → f k < n)
    (K : post (nI (tr_gr f (n - 2)))) : wpX_lastPlaceThatCanGrow post (nI n, fb, fc, fs, fm, aL, aT, aB, aG, aJ) := by
  have e1 : nI n - 2 = nI (n - 2) := pk_sub (b := 2) (by omega)
  unfold wpX_lastPlaceThatCanGrow
  dsimp only
  exact nm_r e1 ⟨_, tx_gr_l h7 ht hf (n - 2) (by omega) K⟩
theorem tx_gt_l {post : Int32 → Prop} {fb fc fs fm : Int32} {aL aT aB aG aJ : Nat → Int32} {f : Nat → Nat} {n p : Nat} (h7 : n ≤ 7) (ht : tr_Rp n aT f) (hf : ∀ k, k < n → f k < n) :
    ∀ d, p + d < n → post (nI (tr_gt f p d)) → wX_lastPlaceWithGreaterTown_7 post (nI p) (nI n) fb fc fs fm aL aT aB aG aJ (d + 1) (nI (p + d)) := by
  intro d
  induction d with
  | zero => intro _ K; exact br_t (nI_le (by omega) (by omega)) K
  | succ d ih =>
    intro hi K
    have a := hf p (by omega)
    have b := hf (p + (d + 1)) (by omega)
    rw [tr_gt] at K
    refine br_f (nI_ge (by omega) (by omega)) ⟨vp_in_nI (by omega) (by omega), vp_in_nI (by omega) (by omega), ?_⟩
    rw [nI_clamp (by omega), nI_clamp (by omega), ht p (by omega), ht (p + (d + 1)) (by omega)]
    refine pk_le (f (p + (d + 1))) (f p) (fun h => nm_r (pk_m1 (p + d)) (ih (by omega) ?_)) (fun h => ?_)
    · rw [if_neg (by omega)] at K
      exact K
    · rw [if_pos h] at K
      exact K
theorem tx_gt {post : Int32 → Prop} {fb fc fs fm : Int32} {aL aT aB aG aJ : Nat → Int32} {f : Nat → Nat} {n p : Nat} (h3 : 3 ≤ n) (h7 : n ≤ 7) (ht : tr_Rp n aT f) (hf : ∀ k, k < n → f k < n) (hp : p < n)
    (K : post (nI (tr_gt f p (n - 1 - p)))) : wpX_lastPlaceWithGreaterTown post (nI n, fb, fc, fs, fm, aL, aT, aB, aG, aJ) (nI p) := by
  have e1 : nI n - 1 = nI (p + (n - 1 - p)) := by
    rw [show p + (n - 1 - p) = n - 1 by omega]
    exact pk_sub (b := 1) (by omega)
  unfold wpX_lastPlaceWithGreaterTown
  dsimp only
  exact nm_r e1 ⟨_, tx_gt_l h7 ht hf (n - 1 - p) (by omega) K⟩
theorem tx_sw {post : SX → Prop} {fn fb fc fs fm : Int32} {aL aT aB aG aJ : Nat → Int32} {f : Nat → Nat} {n i j : Nat} (h7 : n ≤ 7) (ht : tr_Rp n aT f) (hi : i < n) (hj : j < n)
    (K : ∀ aT', tr_Rp n aT' (tr_sw f i j) → post (fn, fb, fc, fs, fm, aL, aT', aB, aG, aJ)) : wpX_swapPlaces post (fn, fb, fc, fs, fm, aL, aT, aB, aG, aJ) (nI i) (nI j) := by
  unfold wpX_swapPlaces
  dsimp only
  rw [nI_clamp (by omega), nI_clamp (by omega)]
  have vi : vp_in (nI i) 7 := vp_in_nI (by omega) (by omega)
  have vj : vp_in (nI j) 7 := vp_in_nI (by omega) (by omega)
  refine ⟨vi, nm_e ⟨vj, vi, nm_e ⟨vj, nm_e (K _ ?_)⟩⟩⟩
  intro x hx
  unfold tr_sw
  by_cases z1 : x = j
  · rw [z1, pk_us, if_pos rfl, ht i hi]
  · by_cases z2 : x = i
    · rw [pk_un z1, z2, pk_us, if_neg (fun q => z1 (z2.trans q)), if_pos rfl, ht j hj]
    · rw [pk_un z1, pk_un z2, if_neg z1, if_neg z2, ht x hx]
theorem tx_rv_l {post : Int32 → SX → Prop} {fb fc fs fm : Int32} {aL aB aG aJ : Nat → Int32} {f : Nat → Nat} {n p q : Nat} (h7 : n ≤ 7) (hp : p < n) (hq : q ≤ n - 1 - p)
    (K : ∀ aT', tr_Rp n aT' (tr_rv f n p q) → post 1 (nI n, fb, fc, fs, fm, aL, aT', aB, aG, aJ)) :
    ∀ d m aT, m + d = q → tr_Rp n aT (tr_rv f n p m) → wX_toNextTrip_37 post (nI p) (nI q) (d + 1) (nI (m + 1)) (nI n) fb fc fs fm aL aT aB aG aJ := by
  intro d
  induction d with
  | zero =>
    intro m aT hm ht
    obtain rfl : m = q := by omega
    exact br_t (nI_lt (by omega) (by omega)) (K aT ht)
  | succ d ih =>
    intro m aT hm ht
    refine br_f (nI_nlt (by omega) (by omega)) ?_
    rw [nI_add, pk_sub (by omega)]
    refine tx_sw h7 ht (by omega) (by omega) (fun aT' h' => ?_)
    dsimp only
    exact nm_r (nI_1 (m + 1)) (ih (m + 1) aT' (by omega) h')
theorem tx_nx {post : Int32 → SX → Prop} {fb fc fs fm : Int32} {aL aT aB aG aJ : Nat → Int32} {f : Nat → Nat} {n p : Nat} (h3 : 3 ≤ n) (h7 : n ≤ 7) (ht : tr_Rp n aT f) (hf : ∀ k, k < n → f k < n) (hp : tr_gr f (n - 2) = p)
    (K0 : p = 0 → post 0 (nI n, fb, fc, fs, fm, aL, aT, aB, aG, aJ))
    (K1 : p ≠ 0 → ∀ aT', tr_Rp n aT' (tr_nx n f p (tr_gt f p (n - 1 - p))) → post 1 (nI n, fb, fc, fs, fm, aL, aT', aB, aG, aJ)) :
    wpX_toNextTrip post (nI n, fb, fc, fs, fm, aL, aT, aB, aG, aJ) := by
  have pl := tr_gr_le f (n - 2)
  rw [hp] at pl
  unfold wpX_toNextTrip
  dsimp only
  refine tx_gr h3 h7 ht hf ?_
  rw [hp]
  refine pk_eq p 0 (fun e => K0 e) (fun ne => ?_)
  refine tx_gt h3 h7 ht hf (by omega) ?_
  have ob := tr_gt_b f p (n - 1 - p)
  refine tx_sw h7 ht (by omega) (by omega) (fun aT' h' => ?_)
  dsimp only
  have e1 : (nI n - 1 - nI p) / 2 = nI ((n - 1 - p) / 2) := by
    rw [show nI n - 1 = nI (n - 1) from pk_sub (b := 1) (by omega), pk_sub (by omega)]
    exact pk_div (d := 2) (by omega) (by omega) (by omega)
  refine ⟨by decide, nm_r e1 ⟨(n - 1 - p) / 2 + 1, ?_⟩⟩
  exact tx_rv_l h7 (by omega) (by omega) (K1 ne) ((n - 1 - p) / 2) 0 aT' (by omega) h'
theorem tx_ft_l {post : SX → Prop} {fb fc fs fm : Int32} {aL aB aG aJ : Nat → Int32} {n : Nat} (h7 : n ≤ 7)
    (K : ∀ aT', tr_Rp n aT' (fun k => k) → post (nI n, fb, fc, fs, fm, aL, aT', aB, aG, aJ)) : ∀ d i aT, i + d = n → tr_Rp i aT (fun k => k) → wX_toFirstTrip_2 post (nI n) fb fc fs fm (d + 1) (nI i) aL aT aB aG aJ := by
  intro d
  induction d with
  | zero =>
    intro i aT hi hB
    obtain rfl : i = n := by omega
    exact br_t (nI_le (by omega) (by omega)) (K aT hB)
  | succ d ih =>
    intro i aT hi hB
    refine br_f (nI_ge (by omega) (by omega)) ⟨vp_in_nI (by omega) (by omega), nm_r (e' := upd aT i (nI i)) (by rw [nI_clamp (by omega)]) (nm_r (nI_1 i) (ih (i + 1) _ (by omega) (tr_Rp_x (f := fun k => k) hB)))⟩
theorem tx_ft {post : SX → Prop} {fb fc fs fm : Int32} {aL aT aB aG aJ : Nat → Int32} {n : Nat} (h7 : n ≤ 7)
    (K : ∀ aT', tr_Rp n aT' (fun k => k) → post (nI n, fb, fc, fs, fm, aL, aT', aB, aG, aJ)) : wpX_toFirstTrip post (nI n, fb, fc, fs, fm, aL, aT, aB, aG, aJ) := by
  unfold wpX_toFirstTrip
  dsimp only
  exact ⟨n + 1, tx_ft_l h7 K n 0 aT (by omega) (fun j hj => absurd hj (Nat.not_lt_zero _))⟩
/-! X: the best of the trips of a kind -/
def tr_Q (n kd u v t : Nat) : Prop := kd = 0 ∨ (kd = 1 ∧ tr_us (tr_R n t) n u v) ∨ (kd = 2 ∧ ¬ tr_us (tr_R n t) n u v)
def tr_F (n : Nat) (aB : Nat → Int32) (t : Nat) : Prop := tr_Rp n aB (tr_R n t)
theorem tx_62 {post : SX → Prop} {J : Int32 → Int32 → Int32 → Int32 → Int32 → Int32 → Int32 → (Nat → Int32) → (Nat → Int32) → (Nat → Int32) → (Nat → Int32) → (Nat → Int32) → Prop} {x1 x2 x3 fs fm : Int32} {aL aT aB aG aJ : Nat → Int32} {L : Nat → Nat} {Q : Nat → Prop} {n t b c : Nat} (h3 : 3 ≤ n) (h7 : n ≤ 7) (ht : t < tr_T n) (hT : tr_Rp n aT (tr_R n t))
    (hb : b ≤ 1000) (hB : tr_BX (tr_ln L n) Q (t + 1) b c (tr_F n aB))
    (K0 : ∀ b c aT aB, t + 1 = tr_T n → b ≤ 1000 → tr_BX (tr_ln L n) Q (t + 1) b c (tr_F n aB) → J 0 (nI (t + 1)) (nI n) (nI b) (nI c) fs fm aL aT aB aG aJ)
    (K1 : ∀ b c aT aB, t + 1 < tr_T n → b ≤ 1000 → tr_Rp n aT (tr_R n (t + 1)) → tr_BX (tr_ln L n) Q (t + 1) b c (tr_F n aB) → J 1 (nI (t + 1)) (nI n) (nI b) (nI c) fs fm aL aT aB aG aJ) :
    wX_findBest_62 post J x1 x2 x3 (nI t) (nI n) (nI b) (nI c) fs fm aL aT aB aG aJ := by
  unfold wX_findBest_62
  refine tx_nx h3 h7 hT (fun k hk => tr_R_b h3 h7 ht hk) rfl (fun e => ?_) (fun ne aT' h' => ?_)
  · dsimp only
    refine nm_r (nI_1 t) (K0 b c aT aB ?_ hb hB)
    apply Classical.byContradiction
    intro q
    exact (tr_R_s h3 h7 (t := t) (by omega)).1 e
  · dsimp only
    have z : t + 1 < tr_T n := by
      apply Classical.byContradiction
      intro q
      exact ne (tr_R_e h3 h7 (t := t) (by omega))
    exact nm_r (nI_1 t) (K1 b c aT' aB z hb (tr_Rp_c h' (tr_R_s h3 h7 z).2) hB)
theorem tx_58 {post : SX → Prop} {J : Int32 → Int32 → Int32 → Int32 → Int32 → Int32 → Int32 → (Nat → Int32) → (Nat → Int32) → (Nat → Int32) → (Nat → Int32) → (Nat → Int32) → Prop} {x1 x2 x3 fs fm : Int32} {aL aT aB aG aJ : Nat → Int32} {L : Nat → Nat} {Q : Nat → Prop} {n t b c : Nat} (h3 : 3 ≤ n) (h7 : n ≤ 7) (hl : tr_Rp 49 aL L) (hL : ∀ j, j < 49 → L j ≤ 60) (ht : t < tr_T n) (hT : tr_Rp n aT (tr_R n t))
    (hb : b ≤ 1000) (hQ : Q t) (hB : tr_BX (tr_ln L n) Q t b c (tr_F n aB))
    (K0 : ∀ b c aT aB, t + 1 = tr_T n → b ≤ 1000 → tr_BX (tr_ln L n) Q (t + 1) b c (tr_F n aB) → J 0 (nI (t + 1)) (nI n) (nI b) (nI c) fs fm aL aT aB aG aJ)
    (K1 : ∀ b c aT aB, t + 1 < tr_T n → b ≤ 1000 → tr_Rp n aT (tr_R n (t + 1)) → tr_BX (tr_ln L n) Q (t + 1) b c (tr_F n aB) → J 1 (nI (t + 1)) (nI n) (nI b) (nI c) fs fm aL aT aB aG aJ) :
    wX_findBest_58 post J x1 x2 x3 (nI t) (nI n) (nI b) (nI c) fs fm aL aT aB aG aJ := by
  have lb := tr_ln_b hL h3 h7 ht
  unfold wX_findBest_58
  refine tx_cmp h3 h7 hl hT (fun k hk => tr_R_b h3 h7 ht hk) (ln := tr_ln L n t) rfl (by omega) hb (fun e => ?_) (fun e => ?_) (fun e aB' hB' => ?_)
  · dsimp only
    exact tx_62 h3 h7 ht hT hb (tr_BX_e hB (by omega) hQ e) K0 K1
  · dsimp only
    exact tx_62 h3 h7 ht hT hb (tr_BX_g hB (by omega) e) K0 K1
  · dsimp only
    exact tx_62 h3 h7 ht hT (by omega) (tr_BX_l hB (by omega) hQ e hB') K0 K1
theorem tx_fb_s {post : SX → Prop} {fs fm : Int32} {aL aT aB aG aJ : Nat → Int32} {L : Nat → Nat} {n kd u v t b c N : Nat} (h3 : 3 ≤ n) (h7 : n ≤ 7) (hl : tr_Rp 49 aL L) (hL : ∀ j, j < 49 → L j ≤ 60) (hk : kd < 3) (hu : u < 7) (hv : v < 7)
    (ht : t < tr_T n) (hb : b ≤ 1000) (hT : tr_Rp n aT (tr_R n t)) (hB : tr_BX (tr_ln L n) (tr_Q n kd u v) t b c (tr_F n aB))
    (K0 : ∀ b c aT aB, t + 1 = tr_T n → b ≤ 1000 → tr_BX (tr_ln L n) (tr_Q n kd u v) (t + 1) b c (tr_F n aB) → wX_findBest_22 post (nI kd) (nI u) (nI v) N 0 (nI (t + 1)) (nI n) (nI b) (nI c) fs fm aL aT aB aG aJ)
    (K1 : ∀ b c aT aB, t + 1 < tr_T n → b ≤ 1000 → tr_Rp n aT (tr_R n (t + 1)) → tr_BX (tr_ln L n) (tr_Q n kd u v) (t + 1) b c (tr_F n aB) → wX_findBest_22 post (nI kd) (nI u) (nI v) N 1 (nI (t + 1)) (nI n) (nI b) (nI c) fs fm aL aT aB aG aJ) :
    wX_findBest_22 post (nI kd) (nI u) (nI v) (N + 1) 1 (nI t) (nI n) (nI b) (nI c) fs fm aL aT aB aG aJ := by
  have T7 := (tr_T_b h3 h7).2
  refine br_f (by decide) (br_f (nI_ge (b := 720) (by omega) (by decide)) (pk_eq kd 0 (fun e => ?_) (fun ne => ?_)))
  · exact tx_58 h3 h7 hl hL ht hT hb (Or.inl e) hB K0 K1
  · refine tx_us h3 h7 hT (fun k hk => tr_R_b h3 h7 ht hk) hu hv (fun w => ?_) (fun w => ?_)
    · refine pk_eq kd 1 (fun e => ?_) (fun ne1 => ?_)
      · exact br_t rfl (tx_58 h3 h7 hl hL ht hT hb (Or.inr (Or.inl ⟨e, w⟩)) hB K0 K1)
      · refine br_f (by decide) (tx_62 h3 h7 ht hT hb (tr_BX_n hB ?_) K0 K1)
        rintro (q | q | q)
        · exact ne q
        · exact ne1 q.1
        · exact q.2 w
    · refine pk_eq kd 1 (fun e => ?_) (fun ne1 => ?_)
      · refine br_f (by decide) (tx_62 h3 h7 ht hT hb (tr_BX_n hB ?_) K0 K1)
        rintro (q | q | q)
        · exact ne q
        · exact w q.2
        · omega
      · exact br_t rfl (tx_58 h3 h7 hl hL ht hT hb (Or.inr (Or.inr ⟨by omega, w⟩)) hB K0 K1)
theorem tx_fb_l {post : SX → Prop} {fs fm : Int32} {aL aG aJ : Nat → Int32} {L : Nat → Nat} {n kd u v : Nat} (h3 : 3 ≤ n) (h7 : n ≤ 7) (hl : tr_Rp 49 aL L) (hL : ∀ j, j < 49 → L j ≤ 60) (hk : kd < 3) (hu : u < 7) (hv : v < 7)
    (K : ∀ b c aT aB, b ≤ 1000 → tr_BX (tr_ln L n) (tr_Q n kd u v) (tr_T n) b c (tr_F n aB) → post (nI n, nI b, nI c, fs, fm, aL, aT, aB, aG, aJ)) :
    ∀ d t b c aT aB, t + d + 1 = tr_T n → b ≤ 1000 → tr_Rp n aT (tr_R n t) → tr_BX (tr_ln L n) (tr_Q n kd u v) t b c (tr_F n aB) →
      wX_findBest_22 post (nI kd) (nI u) (nI v) (d + 2) 1 (nI t) (nI n) (nI b) (nI c) fs fm aL aT aB aG aJ := by
  have T7 := (tr_T_b h3 h7).2
  intro d
  induction d with
  | zero =>
    intro t b c aT aB ht hb hT hB
    refine tx_fb_s h3 h7 hl hL hk hu hv (by omega) hb hT hB (fun b c aT aB q hb hB => ?_) (fun b c aT aB q => by omega)
    rw [q] at hB
    exact br_t rfl (K b c aT aB hb hB)
  | succ d ih =>
    intro t b c aT aB ht hb hT hB
    refine tx_fb_s h3 h7 hl hL hk hu hv (by omega) hb hT hB (fun b c aT aB q => by omega) (fun b c aT aB q hb hT hB => ?_)
    exact ih (t + 1) b c aT aB (by omega) hb hT hB
theorem tx_find {post : SX → Prop} {fb fc fs fm : Int32} {aL aT aB aG aJ : Nat → Int32} {L : Nat → Nat} {n kd u v : Nat} (h3 : 3 ≤ n) (h7 : n ≤ 7) (hl : tr_Rp 49 aL L) (hL : ∀ j, j < 49 → L j ≤ 60) (hk : kd < 3) (hu : u < 7) (hv : v < 7)
    (K : ∀ b c aT aB, b ≤ 1000 → tr_BX (tr_ln L n) (tr_Q n kd u v) (tr_T n) b c (tr_F n aB) → post (nI n, nI b, nI c, fs, fm, aL, aT, aB, aG, aJ)) :
    wpX_findBest post (nI n, fb, fc, fs, fm, aL, aT, aB, aG, aJ) (nI kd) (nI u) (nI v) := by
  have T1 := (tr_T_b h3 h7).1
  unfold wpX_findBest
  dsimp only
  refine tx_ft h7 (fun aT' h' => ?_)
  dsimp only
  exact ⟨tr_T n - 1 + 2, tx_fb_l h3 h7 hl hL hk hu hv K (tr_T n - 1) 0 1000 0 aT' aB (by omega) (by omega) (tr_Rp_c h' (fun k hk => (tr_R_0 h3 h7 hk).symm)) (tr_BX_0 _ _ _)⟩
end
section
/-! X: the net -/
theorem tr_vb0 : vp_nar .boolean 0 = 0 := by decide
theorem tr_vb1 : vp_nar .boolean 1 = 1 := by decide
def tr_Jn (n : Nat) (a : Nat → Int32) (J : Nat → Prop) : Prop := ∀ t, t < n → (J t → a t = 1) ∧ (¬ J t → a t = 0)
theorem tx_jn_l {post : SX → Prop} {fb fc fs fm : Int32} {aL aT aB aJ : Nat → Int32} {L g : Nat → Nat} {J : Nat → Prop} {n u : Nat} (h7 : n ≤ 7) (hl : tr_Rp 49 aL L) (hL : ∀ j, j < 49 → L j ≤ 60) (hu : u < n) (hJ : tr_Jn n aJ J)
    (K : ∀ aG g', tr_Rp n aG g' → (∀ t, t < n → g' t ≤ 1000) → (∀ t, t < n → ¬ J t → g' t = if L (7 * u + t) < g t then L (7 * u + t) else g t) → post (nI n, fb, fc, fs, fm, aL, aT, aB, aG, aJ)) :
    ∀ d i aG g', i + d = n → tr_Rp n aG g' → (∀ t, t < n → g' t ≤ 1000) → (∀ t, t < n → ¬ J t → g' t = if t < i ∧ L (7 * u + t) < g t then L (7 * u + t) else g t) →
      wX_join_9 post (nI u) (nI n) fb fc fs fm (d + 1) (nI i) aL aT aB aG aJ := by
  intro d
  induction d with
  | zero =>
    intro i aG g' hi hG hb hg
    obtain rfl : i = n := by omega
    refine br_t (nI_le (by omega) (by omega)) (K aG g' hG hb (fun t ht hj => ?_))
    rw [hg t ht hj]
    by_cases z : L (7 * u + t) < g t
    · rw [if_pos z, if_pos ⟨ht, z⟩]
    · rw [if_neg z, if_neg (fun q => z q.2)]
  | succ d ih =>
    intro i aG g' hi hG hb hg
    have hc : 7 * u + i < 49 := by omega
    have lb := hL _ hc
    have vi : vp_in (nI i) 7 := vp_in_nI (by omega) (by omega)
    have gb := hb i (by omega)
    refine br_f (nI_ge (by omega) (by omega)) (tx_lb hl hc ⟨vi, ?_⟩)
    rw [nI_clamp (by omega)]
    by_cases z : J i
    · rw [(hJ i (by omega)).1 z]
      refine br_f (by decide) (nm_r (nI_1 i) (ih (i + 1) aG g' (by omega) hG hb (fun t ht hj => ?_)))
      rw [hg t ht hj]
      have ne : t ≠ i := fun q => hj (q ▸ z)
      by_cases w : t < i ∧ L (7 * u + t) < g t
      · rw [if_pos w, if_pos ⟨by omega, w.2⟩]
      · rw [if_neg w, if_neg (fun q => w ⟨by omega, q.2⟩)]
    · rw [(hJ i (by omega)).2 z]
      have gi : g' i = g i := by rw [hg i (by omega) z, if_neg (fun q => by omega)]
      refine br_t rfl ⟨vi, ?_⟩
      rw [hG i (by omega)]
      refine pk_le (g' i) (L (7 * u + i)) (fun h => nm_r (nI_1 i) (ih (i + 1) aG g' (by omega) hG hb (fun t ht hj => ?_))) (fun h => ⟨vi, nm_e (nm_r (nI_1 i) (ih (i + 1) _ (fun t => if t = i then L (7 * u + i) else g' t) (by omega) (tr_Rp_u hG (fun j _ => rfl)) (fun t ht => ?_) (fun t ht hj => ?_)))⟩)
      · rw [hg t ht hj]
        by_cases w : t < i ∧ L (7 * u + t) < g t
        · rw [if_pos w, if_pos ⟨by omega, w.2⟩]
        · rw [if_neg w, if_neg (fun q => w ⟨by
            by_cases e : t = i
            · rw [e] at q
              omega
            · omega, q.2⟩)]
      · show (if t = i then L (7 * u + i) else g' t) ≤ 1000
        have := hb t ht
        split <;> omega
      · show (if t = i then L (7 * u + i) else g' t) = _
        by_cases e : t = i
        · rw [if_pos e, e, if_pos ⟨by omega, by omega⟩]
        · rw [if_neg e, hg t ht hj]
          by_cases w : t < i ∧ L (7 * u + t) < g t
          · rw [if_pos w, if_pos ⟨by omega, w.2⟩]
          · rw [if_neg w, if_neg (fun q => w ⟨by omega, q.2⟩)]
theorem tx_jn {post : SX → Prop} {fb fc fs fm : Int32} {aL aT aB aG aJ : Nat → Int32} {L g : Nat → Nat} {J : Nat → Prop} {n u : Nat} (h7 : n ≤ 7) (hl : tr_Rp 49 aL L) (hL : ∀ j, j < 49 → L j ≤ 60) (hu : u < n) (hJ : tr_Jn n aJ J)
    (hG : tr_Rp n aG g) (hb : ∀ t, t < n → g t ≤ 1000)
    (K : ∀ aG aJ g', tr_Jn n aJ (fun t => J t ∨ t = u) → tr_Rp n aG g' → (∀ t, t < n → g' t ≤ 1000) → (∀ t, t < n → ¬ (J t ∨ t = u) → g' t = if L (7 * u + t) < g t then L (7 * u + t) else g t) → post (nI n, fb, fc, fs, fm, aL, aT, aB, aG, aJ)) :
    wpX_join post (nI n, fb, fc, fs, fm, aL, aT, aB, aG, aJ) (nI u) := by
  unfold wpX_join
  dsimp only
  have hJ' : tr_Jn n (upd aJ u 1) (fun t => J t ∨ t = u) := by
    intro t ht
    by_cases z : t = u
    · refine ⟨fun _ => ?_, fun q => absurd (Or.inr z) q⟩
      rw [z]; exact pk_us
    · rw [pk_un z]
      exact ⟨fun q => (hJ t ht).1 (q.resolve_right z), fun q => (hJ t ht).2 (fun w => q (Or.inl w))⟩
  refine ⟨vp_in_nI (by omega) (by omega), nm_r (e' := upd aJ u 1) (by rw [nI_clamp (by omega), tr_vb1]) ⟨n + 1, ?_⟩⟩
  exact tx_jn_l (g := g) h7 hl hL hu hJ' (fun aG' g' => K aG' _ g' hJ') n 0 aG g (by omega) hG hb (fun t ht hj => by rw [if_neg (fun q => by omega)])
theorem tx_nr_l {post : Int32 → Prop} {fb fc fs fm : Int32} {aL aT aB aG aJ : Nat → Int32} {g : Nat → Nat} {J : Nat → Prop} {n : Nat} (h7 : n ≤ 7) (hJ : tr_Jn n aJ J) (hG : tr_Rp n aG g) (hb : ∀ t, t < n → ¬ J t → g t < 1000)
    (K : ∀ v l, tr_Ns n J g n v l → post (nI v)) : ∀ d t v l, t + d = n → 1 ≤ t → l ≤ 1000 → tr_Ns n J g t v l → wX_nearestTownOutside_8 post (nI n) fb fc fs fm aL aT aB aG aJ (d + 1) (nI v) (nI l) (nI t) := by
  intro d
  induction d with
  | zero =>
    intro t v l ht h1 hl I
    obtain rfl : t = n := by omega
    exact br_t (nI_le (by omega) (by omega)) (K v l I)
  | succ d ih =>
    intro t v l ht h1 hl I
    have vi : vp_in (nI t) 7 := vp_in_nI (by omega) (by omega)
    refine br_f (nI_ge (by omega) (by omega)) ⟨vi, ?_⟩
    rw [nI_clamp (by omega)]
    by_cases z : J t
    · rw [(hJ t (by omega)).1 z]
      exact br_f (by decide) (nm_r (nI_1 t) (ih (t + 1) v l (by omega) (by omega) hl (tr_Ns_j I z)))
    · rw [(hJ t (by omega)).2 z]
      have gb := hb t (by omega) z
      refine br_t rfl ⟨vi, ?_⟩
      rw [hG t (by omega)]
      refine pk_le l (g t) (fun h => nm_r (nI_1 t) (ih (t + 1) v l (by omega) (by omega) hl (tr_Ns_g I h gb))) (fun h => ⟨vi, nm_e (nm_r (nI_1 t) (ih (t + 1) t (g t) (by omega) (by omega) (by omega) (tr_Ns_l I h1 z h)))⟩)
theorem tx_nr {post : Int32 → Prop} {fb fc fs fm : Int32} {aL aT aB aG aJ : Nat → Int32} {g : Nat → Nat} {J : Nat → Prop} {n : Nat} (h3 : 3 ≤ n) (h7 : n ≤ 7) (hJ : tr_Jn n aJ J) (hG : tr_Rp n aG g) (hb : ∀ t, t < n → ¬ J t → g t < 1000)
    (K : ∀ v l, tr_Ns n J g n v l → post (nI v)) : wpX_nearestTownOutside post (nI n, fb, fc, fs, fm, aL, aT, aB, aG, aJ) := by
  unfold wpX_nearestTownOutside
  dsimp only
  exact ⟨n - 1 + 1, tx_nr_l h7 hJ hG hb K (n - 1) 1 0 1000 (by omega) (by omega) (by omega) (tr_Ns_0 n J g)⟩
theorem tx_gn_l {post : SX → Prop} {fb fc : Int32} {aL aT aB : Nat → Int32} {L : Nat → Nat} {n : Nat} (h3 : 3 ≤ n) (h7 : n ≤ 7) (sy : tr_Sy L) (hl : tr_Rp 49 aL L) (hL : ∀ j, j < 49 → L j ≤ 60)
    (K : ∀ J g s m aG aJ, tr_Pm L n n J g s m → post (nI n, fb, fc, nI s, nI m, aL, aT, aB, aG, aJ)) :
    ∀ d i J g s m aG aJ, i + d = n → tr_Pm L n i J g s m → tr_Jn n aJ J → tr_Rp n aG g → (∀ t, t < n → g t ≤ 1000) →
      wX_growNet_49 post (d + 1) (nI i) (nI n) fb fc (nI s) (nI m) aL aT aB aG aJ := by
  intro d
  induction d with
  | zero =>
    intro i J g s m aG aJ hi I hJ hG hb
    obtain rfl : i = n := by omega
    exact br_t (nI_le (by omega) (by omega)) (K J g s m aG aJ I)
  | succ d ih =>
    intro i J g s m aG aJ hi I hJ hG hb
    have I' := I
    obtain ⟨h0, hn, hc, hGp, hNt⟩ := I'
    refine br_f (nI_ge (by omega) (by omega)) (tx_nr h3 h7 hJ hG (fun t ht hj => by have := (tr_Gp_w hGp hL h7 h0 ht hj).1; omega) (fun v l hN => ?_))
    obtain ⟨hv, hjv, hmin⟩ := tr_Ns_e hN h0 (by omega)
    have w := (tr_Gp_w hGp hL h7 h0 hv hjv).1
    have m60 := hNt.2.2
    have vi : vp_in (nI v) 7 := vp_in_nI (by omega) (by omega)
    rw [nI_clamp (by omega), hG v hv]
    refine ⟨vi, nm_r (nI_add s (g v)) ⟨vi, pk_le (g v) m (fun h => ?_) (fun h => ⟨vi, nm_e ?_⟩)⟩⟩
    · unfold wX_growNet_100
      refine tx_jn h7 hl hL hv hJ hG hb (fun aG' aJ' g' hJ' hG' hb' hg' => ?_)
      dsimp only
      have z := tr_Pm_s sy hL h7 I hv hjv hmin (J' := fun t => J t ∨ t = v) (g' := g') (fun u => Iff.rfl) hg'
      rw [if_neg (by omega)] at z
      exact nm_r (nI_1 i) (ih (i + 1) _ g' _ _ aG' aJ' (by omega) z hJ' hG' hb')
    · unfold wX_growNet_100
      refine tx_jn h7 hl hL hv hJ hG hb (fun aG' aJ' g' hJ' hG' hb' hg' => ?_)
      dsimp only
      have z := tr_Pm_s sy hL h7 I hv hjv hmin (J' := fun t => J t ∨ t = v) (g' := g') (fun u => Iff.rfl) hg'
      rw [if_pos h] at z
      exact nm_r (nI_1 i) (ih (i + 1) _ g' _ _ aG' aJ' (by omega) z hJ' hG' hb')
theorem tx_g0_l {post : SX → Prop} {fb fc : Int32} {aL aT aB : Nat → Int32} {L : Nat → Nat} {n : Nat} (h3 : 3 ≤ n) (h7 : n ≤ 7) (sy : tr_Sy L) (hl : tr_Rp 49 aL L) (hL : ∀ j, j < 49 → L j ≤ 60)
    (K : ∀ J g s m aG aJ, tr_Pm L n n J g s m → post (nI n, fb, fc, nI s, nI m, aL, aT, aB, aG, aJ)) :
    ∀ d i aG aJ, i + d = n → tr_Rp i aG (fun _ => 1000) → tr_Jn i aJ (fun _ => False) → wX_growNet_12 post (nI n) fb fc 0 0 (d + 1) (nI i) aL aT aB aG aJ := by
  intro d
  induction d with
  | zero =>
    intro i aG aJ hi hG hJ
    obtain rfl : i = n := by omega
    refine br_t (nI_le (by omega) (by omega)) (tx_jn (u := 0) h7 hl hL (by omega) hJ hG (fun t ht => Nat.le_refl _) (fun aG' aJ' g' hJ' hG' hb' hg' => ?_))
    dsimp only
    have iff0 : ∀ u : Nat, (False ∨ u = 0) ↔ u = 0 := fun u => ⟨fun q => q.resolve_left (fun w => w), Or.inr⟩
    have P1 : tr_Pm L i 1 (fun t => False ∨ t = 0) g' 0 0 := by
      refine ⟨Or.inr rfl, fun u hu => ?_, ?_, tr_Gp_s (J := fun _ => False) (tr_Gp_0 L i (fun _ q => q) (fun _ _ => rfl)) (fun u => Iff.rfl) hg', tr_Nt_0 (by omega) iff0⟩
      · rcases hu with q | q
        · exact absurd q (fun w => w)
        · omega
      · rw [tr_cp_add (P := fun _ => False) 0 (fun w => w) i (fun m _ => Iff.rfl) (by omega), tr_cp_none i (fun _ _ w => w)]
    exact ⟨i - 1 + 1, tx_gn_l h3 h7 sy hl hL K (i - 1) 1 _ g' 0 0 aG' aJ' (by omega) P1 hJ' hG' hb'⟩
  | succ d ih =>
    intro i aG aJ hi hG hJ
    have vi : vp_in (nI i) 7 := vp_in_nI (by omega) (by omega)
    refine br_f (nI_ge (by omega) (by omega)) ⟨vi, nm_r (e' := upd aG i (nI 1000)) (by rw [nI_clamp (by omega)]; rfl) ⟨vi, nm_r (e' := upd aJ i 0) (by rw [nI_clamp (by omega), tr_vb0]) (nm_r (nI_1 i) (ih (i + 1) _ _ (by omega) (tr_Rp_x (f := fun _ => 1000) hG) ?_))⟩⟩
    intro t ht
    refine ⟨fun q => absurd q (fun w => w), fun q => ?_⟩
    by_cases z : t = i
    · rw [z]; exact pk_us
    · rw [pk_un z]; exact (hJ t (by omega)).2 q
theorem tx_grow {post : SX → Prop} {fb fc fs fm : Int32} {aL aT aB aG aJ : Nat → Int32} {L : Nat → Nat} {n : Nat} (h3 : 3 ≤ n) (h7 : n ≤ 7) (sy : tr_Sy L) (hl : tr_Rp 49 aL L) (hL : ∀ j, j < 49 → L j ≤ 60)
    (K : ∀ s m aG aJ, s = tr_sm (fun k => tr_P L n k - 1) 60 → (∀ k, tr_P L n k = 1 ↔ m ≤ k) → m ≤ 60 → post (nI n, fb, fc, nI s, nI m, aL, aT, aB, aG, aJ)) :
    wpX_growNet post (nI n, fb, fc, fs, fm, aL, aT, aB, aG, aJ) := by
  unfold wpX_growNet
  dsimp only
  refine ⟨n + 1, tx_g0_l h3 h7 sy hl hL (fun J g s m aG aJ I => ?_) n 0 aG aJ (by omega) (fun j hj => absurd hj (Nat.not_lt_zero _)) (fun j hj => absurd hj (Nat.not_lt_zero _))⟩
  obtain ⟨h0, hn, hc, hGp, hNt⟩ := I
  obtain ⟨a, b, c⟩ := tr_Nt_e sy h7 hNt (tr_cp_all n hc)
  exact K s m aG aJ a b c
end
section
/-! Y: the trips of the table -/
def tr_Tw (n : Nat) (aW : Nat → Int32) : Prop := ∀ t, t < tr_T n → ∀ k, k < n → aW (7 * t + k) = nI (tr_R n t k)
theorem ty_pk {post : Int32 → Prop} {fT : Int32} {aL aW aO aP : Nat → Int32} {n t k : Nat} (h3 : 3 ≤ n) (h7 : n ≤ 7) (hW : tr_Tw n aW) (ht : t < tr_T n) (hk : k < n) (K : post (nI (tr_R n t k))) :
    wpY_placeOf post (nI n, fT, aL, aW, aO, aP) (nI t) (nI k) := by
  have T7 := (tr_T_b h3 h7).2
  unfold wpY_placeOf
  dsimp only
  refine br_f (fun q => ?_) ?_
  · rw [nI_eq (by omega) (by omega)] at q
    omega
  · rw [tr_iy, nI_clamp (by omega), hW t ht k hk]
    exact ⟨vp_in_nI (by omega) (by omega), K⟩
theorem ty_pn {post : Int32 → Prop} {fT : Int32} {aL aW aO aP : Nat → Int32} {n t k : Nat} (h3 : 3 ≤ n) (h7 : n ≤ 7) (hW : tr_Tw n aW) (ht : t < tr_T n) (hk : k < n) (K : post (nI (tr_R n t (tr_nk n k)))) :
    wpY_placeOf post (nI n, fT, aL, aW, aO, aP) (nI t) (nI k + 1) := by
  have T7 := (tr_T_b h3 h7).2
  rw [nI_1]
  by_cases z : k + 1 = n
  · rw [tr_nk_e z] at K
    have e : 7 * nI t + 0 = nI (7 * t + 0) := tr_iy t 0
    unfold wpY_placeOf
    dsimp only
    rw [e, nI_clamp (by omega), hW t ht 0 (by omega)]
    exact br_t (by rw [z]) ⟨vp_in_nI (by omega) (by omega), K⟩
  · rw [tr_nk_s (by omega)] at K
    exact ty_pk h3 h7 hW ht (by omega) K
theorem ty_sm_l {post : Int32 → Prop} {fT : Int32} {aL aW aO aP : Nat → Int32} {L : Nat → Nat} {n t : Nat} (h3 : 3 ≤ n) (h7 : n ≤ 7) (hl : tr_Rp 49 aL L) (hW : tr_Tw n aW) (ht : t < tr_T n) (K : post (nI (tr_ln L n t))) :
    ∀ d i, i + d = n → wY_sum_4 post (nI t) (nI n) fT aL aW aO aP (d + 1) (nI (tr_sm (tr_tm L (tr_R n t) n) i)) (nI i) := by
  intro d
  induction d with
  | zero =>
    intro i hi
    obtain rfl : i = n := by omega
    exact br_t (nI_le (by omega) (by omega)) K
  | succ d ih =>
    intro i hi
    have a := tr_R_b h3 h7 ht (k := i) (by omega)
    have b := tr_R_b h3 h7 ht (k := tr_nk n i) (tr_nk_lt (by omega))
    have hc : 7 * tr_R n t i + tr_R n t (tr_nk n i) < 49 := by omega
    refine br_f (nI_ge (by omega) (by omega)) (ty_pk h3 h7 hW ht (by omega) (ty_pn h3 h7 hW ht (by omega) ?_))
    rw [tr_iy, nI_clamp (by omega), hl _ hc]
    exact ⟨vp_in_nI hc (by omega), nm_r (nI_add _ _) (nm_r (nI_1 i) (ih (i + 1) (by omega)))⟩
theorem ty_sm {post : Int32 → Prop} {fT : Int32} {aL aW aO aP : Nat → Int32} {L : Nat → Nat} {n t : Nat} (h3 : 3 ≤ n) (h7 : n ≤ 7) (hl : tr_Rp 49 aL L) (hW : tr_Tw n aW) (ht : t < tr_T n) (K : post (nI (tr_ln L n t))) :
    wpY_sum post (nI n, fT, aL, aW, aO, aP) (nI t) := by
  unfold wpY_sum
  dsimp only
  exact ⟨n + 1, ty_sm_l h3 h7 hl hW ht K n 0 (by omega)⟩
theorem ty_u44 {post : Int32 → Prop} {J : Int32 → Prop} {x1 fn fT : Int32} {aL aW aO aP : Nat → Int32} {a b u v i : Nat} (ha : a < 7) (hb : b < 7) (hu : u < 7) (hv : v < 7) (h1 : a = v → b = u → post 1) (h2 : ¬ (a = v ∧ b = u) → J (nI (i + 1))) :
    wY_uses_44 post J x1 (nI u) (nI v) (nI i) (nI a) (nI b) fn fT aL aW aO aP :=
  pk_eq a v (fun e => pk_eq b u (fun e2 => h1 e e2) (fun ne => nm_r (nI_1 i) (h2 (fun q => ne q.2)))) (fun ne => nm_r (nI_1 i) (h2 (fun q => ne q.1)))
theorem ty_us_l {post : Int32 → Prop} {fT : Int32} {aL aW aO aP : Nat → Int32} {n t u v : Nat} (h3 : 3 ≤ n) (h7 : n ≤ 7) (hW : tr_Tw n aW) (ht : t < tr_T n) (hu : u < 7) (hv : v < 7)
    (hT : tr_us (tr_R n t) n u v → post 1) (hF : ¬ tr_us (tr_R n t) n u v → post 0) :
    ∀ d i, i + d = n → (∀ k, k < i → ¬ tr_pr (tr_R n t k) (tr_R n t (tr_nk n k)) u v) → wY_uses_3 post (nI t) (nI u) (nI v) (nI n) fT aL aW aO aP (d + 1) (nI i) := by
  intro d
  induction d with
  | zero =>
    intro i hi hk
    obtain rfl : i = n := by omega
    exact br_t (nI_le (by omega) (by omega)) (hF (fun ⟨k, hkn, q⟩ => hk k hkn q))
  | succ d ih =>
    intro i hi hk
    have a := tr_R_b h3 h7 ht (k := i) (by omega)
    have b := tr_R_b h3 h7 ht (k := tr_nk n i) (tr_nk_lt (by omega))
    have yes : tr_pr (tr_R n t i) (tr_R n t (tr_nk n i)) u v → post 1 := fun q => hT ⟨i, by omega, q⟩
    have no : ¬ tr_pr (tr_R n t i) (tr_R n t (tr_nk n i)) u v → wY_uses_3 post (nI t) (nI u) (nI v) (nI n) fT aL aW aO aP (d + 1) (nI (i + 1)) := fun q => ih (i + 1) (by omega) (tr_lt1 hk q)
    refine br_f (nI_ge (by omega) (by omega)) (ty_pk h3 h7 hW ht (by omega) (ty_pn h3 h7 hW ht (by omega) ?_))
    refine pk_eq (tr_R n t i) u (fun e => pk_eq (tr_R n t (tr_nk n i)) v (fun e2 => yes (Or.inl ⟨e, e2⟩)) (fun ne => ?_)) (fun ne => ?_)
    · exact ty_u44 (by omega) (by omega) hu hv (fun q1 q2 => yes (Or.inr ⟨q1, q2⟩)) (fun q => no (fun w => by
        rcases w with w | w
        · exact ne w.2
        · exact q w))
    · exact ty_u44 (by omega) (by omega) hu hv (fun q1 q2 => yes (Or.inr ⟨q1, q2⟩)) (fun q => no (fun w => by
        rcases w with w | w
        · exact ne w.1
        · exact q w))
theorem ty_us {post : Int32 → Prop} {fT : Int32} {aL aW aO aP : Nat → Int32} {n t u v : Nat} (h3 : 3 ≤ n) (h7 : n ≤ 7) (hW : tr_Tw n aW) (ht : t < tr_T n) (hu : u < 7) (hv : v < 7)
    (hT : tr_us (tr_R n t) n u v → post 1) (hF : ¬ tr_us (tr_R n t) n u v → post 0) : wpY_uses post (nI n, fT, aL, aW, aO, aP) (nI t) (nI u) (nI v) := by
  unfold wpY_uses
  dsimp only
  exact ⟨n + 1, ty_us_l h3 h7 hW ht hu hv hT hF n 0 (by omega) (fun k h => absurd h (Nat.not_lt_zero _))⟩
theorem ty_bs_l {post : Int32 → Prop} {aL aW aO aP : Nat → Int32} {L : Nat → Nat} {n : Nat} (h3 : 3 ≤ n) (h7 : n ≤ 7) (hl : tr_Rp 49 aL L) (hL : ∀ j, j < 49 → L j ≤ 60) (hW : tr_Tw n aW)
    (K : ∀ f, f < tr_T n → (∀ t, t < tr_T n → tr_ln L n f ≤ tr_ln L n t) → (∀ t, t < f → tr_ln L n f < tr_ln L n t) → post (nI f)) :
    ∀ d t f, t + d = tr_T n → f < t → (∀ x, x < t → tr_ln L n f ≤ tr_ln L n x) → (∀ x, x < f → tr_ln L n f < tr_ln L n x) → wY_best_4 post (nI n) (nI (tr_T n)) aL aW aO aP (d + 1) (nI f) (nI t) := by
  have T7 := (tr_T_b h3 h7).2
  intro d
  induction d with
  | zero =>
    intro t f ht hf h1 h2
    refine br_t (nI_le (by omega) (by omega)) (K f (by omega) (fun x hx => h1 x (by omega)) h2)
  | succ d ih =>
    intro t f ht hf h1 h2
    have b1 := tr_ln_b hL h3 h7 (t := t) (by omega)
    have b2 := tr_ln_b hL h3 h7 (t := f) (by omega)
    refine br_f (nI_ge (by omega) (by omega)) (ty_sm h3 h7 hl hW (by omega) (ty_sm h3 h7 hl hW (by omega) ?_))
    refine pk_le (tr_ln L n f) (tr_ln L n t) (fun h => nm_r (nI_1 t) (ih (t + 1) f (by omega) (by omega) (tr_lt1 h1 h) h2)) (fun h => nm_r (nI_1 t) (ih (t + 1) t (by omega) (by omega) (tr_lt1 (fun x hx => ?_) (Nat.le_refl _)) (fun x hx => ?_)))
    · have := h1 x hx; omega
    · have := h1 x hx; omega
theorem ty_bs {post : Int32 → Prop} {aL aW aO aP : Nat → Int32} {L : Nat → Nat} {n : Nat} (h3 : 3 ≤ n) (h7 : n ≤ 7) (hl : tr_Rp 49 aL L) (hL : ∀ j, j < 49 → L j ≤ 60) (hW : tr_Tw n aW)
    (K : ∀ f, f < tr_T n → (∀ t, t < tr_T n → tr_ln L n f ≤ tr_ln L n t) → (∀ t, t < f → tr_ln L n f < tr_ln L n t) → post (nI f)) :
    wpY_best post (nI n, nI (tr_T n), aL, aW, aO, aP) := by
  have T1 := (tr_T_b h3 h7).1
  unfold wpY_best
  dsimp only
  refine ⟨tr_T n - 1 + 1, ty_bs_l h3 h7 hl hL hW K (tr_T n - 1) 1 0 (by omega) (by omega) (fun x hx => ?_) (fun x hx => absurd hx (Nat.not_lt_zero _))⟩
  obtain rfl : x = 0 := by omega
  exact Nat.le_refl _
theorem ty_sh {post : Int32 → Prop} {aL aW aO aP : Nat → Int32} {L : Nat → Nat} {n : Nat} (h3 : 3 ≤ n) (h7 : n ≤ 7) (hl : tr_Rp 49 aL L) (hL : ∀ j, j < 49 → L j ≤ 60) (hW : tr_Tw n aW)
    (K : ∀ f, f < tr_T n → (∀ t, t < tr_T n → tr_ln L n f ≤ tr_ln L n t) → (∀ t, t < f → tr_ln L n f < tr_ln L n t) → post (nI (tr_ln L n f))) :
    wpY_shortest post (nI n, nI (tr_T n), aL, aW, aO, aP) := by
  unfold wpY_shortest
  dsimp only
  exact ty_bs h3 h7 hl hL hW (fun f hf h1 h2 => ty_sm h3 h7 hl hW hf (K f hf h1 h2))
theorem ty_tr_l {post : Int32 → Prop} {aL aW aO aP : Nat → Int32} {L : Nat → Nat} {n b : Nat} (h3 : 3 ≤ n) (h7 : n ≤ 7) (hl : tr_Rp 49 aL L) (hL : ∀ j, j < 49 → L j ≤ 60) (hW : tr_Tw n aW) (hb : b ≤ 1000)
    (K : post (nI (tr_cp (fun t => tr_ln L n t = b) (tr_T n)))) :
    ∀ d t, t + d = tr_T n → wY_trips_9 post (nI b) (nI n) (nI (tr_T n)) aL aW aO aP (d + 1) (nI (tr_cp (fun t => tr_ln L n t = b) t)) (nI t) := by
  have T7 := (tr_T_b h3 h7).2
  intro d
  induction d with
  | zero =>
    intro t ht
    obtain rfl : t = tr_T n := by omega
    exact br_t (nI_le (by omega) (by omega)) K
  | succ d ih =>
    intro t ht
    have b1 := tr_ln_b hL h3 h7 (t := t) (by omega)
    refine br_f (nI_ge (by omega) (by omega)) (ty_sm h3 h7 hl hW (by omega) ?_)
    refine pk_eq (tr_ln L n t) b (fun h => nm_r ?_ (nm_r (nI_1 t) (ih (t + 1) (by omega)))) (fun h => nm_r (nI_1 t) ?_)
    · rw [tr_cp_t (P := fun t => tr_ln L n t = b) h, nI_1]
    · have z := ih (t + 1) (by omega)
      rw [tr_cp_f (P := fun t => tr_ln L n t = b) h] at z
      exact z
theorem ty_tr {post : Int32 → Prop} {aL aW aO aP : Nat → Int32} {L : Nat → Nat} {n : Nat} (h3 : 3 ≤ n) (h7 : n ≤ 7) (hl : tr_Rp 49 aL L) (hL : ∀ j, j < 49 → L j ≤ 60) (hW : tr_Tw n aW)
    (K : ∀ f, f < tr_T n → (∀ t, t < tr_T n → tr_ln L n f ≤ tr_ln L n t) → (∀ t, t < f → tr_ln L n f < tr_ln L n t) → post (nI (tr_cp (fun t => tr_ln L n t = tr_ln L n f) (tr_T n)))) :
    wpY_trips post (nI n, nI (tr_T n), aL, aW, aO, aP) := by
  unfold wpY_trips
  dsimp only
  refine ty_sh h3 h7 hl hL hW (fun f hf h1 h2 => ⟨tr_T n + 1, ?_⟩)
  have b1 := tr_ln_b hL h3 h7 hf
  exact ty_tr_l h3 h7 hl hL hW (by omega) (K f hf h1 h2) (tr_T n) 0 (by omega)
/-! Y: the least length of the trips of a kind -/
def tr_YL (ln : Nat → Nat) (Q : Nat → Prop) (i : Nat) (x : Int32) : Prop :=
  (x = -1 ∧ ∀ t, t < i → ¬ Q t) ∨ ∃ b, x = nI b ∧ b ≤ 1000 ∧ (∃ t, t < i ∧ Q t ∧ ln t = b) ∧ ∀ t, t < i → Q t → b ≤ ln t
theorem tr_YL_n {ln : Nat → Nat} {Q : Nat → Prop} {i : Nat} {x : Int32} (I : tr_YL ln Q i x) (h : ¬ Q i) : tr_YL ln Q (i + 1) x := by
  rcases I with ⟨e, q⟩ | ⟨b, e, hb, ⟨t, ht, q1, q2⟩, q⟩
  · exact Or.inl ⟨e, tr_lt1 q h⟩
  · exact Or.inr ⟨b, e, hb, ⟨t, by omega, q1, q2⟩, tr_lt1 q (fun w => absurd w h)⟩
theorem tr_YL_q {ln : Nat → Nat} {Q : Nat → Prop} {i : Nat} {P : Int32 → Prop} {x : Int32} (I : tr_YL ln Q i x) (h : Q i) (hl : ln i ≤ 1000) (K : ∀ y, tr_YL ln Q (i + 1) y → P y) :
    (x < 0 → P (nI (ln i))) ∧ (¬ x < 0 → (x ≤ nI (ln i) → P x) ∧ (¬ x ≤ nI (ln i) → P (nI (ln i)))) := by
  rcases I with ⟨e, q⟩ | ⟨b, e, hb, ⟨t, ht, q1, q2⟩, q⟩
  · refine br_t (by rw [e]; decide) (K _ (Or.inr ⟨ln i, rfl, hl, ⟨i, by omega, h, rfl⟩, tr_lt1 (fun t ht w => absurd w (q t ht)) (fun _ => Nat.le_refl _)⟩))
  · rw [e]
    refine br_f (nI_pos (by omega)) (pk_le b (ln i) (fun w => K _ (Or.inr ⟨b, rfl, hb, ⟨t, by omega, q1, q2⟩, tr_lt1 q (fun _ => w)⟩)) (fun w => K _ (Or.inr ⟨ln i, rfl, hl, ⟨i, by omega, h, rfl⟩, tr_lt1 (fun t ht w => ?_) (fun _ => Nat.le_refl _)⟩)))
    have := q t ht w
    omega
theorem ty_lt_l {post : Int32 → Prop} {aL aW aO aP : Nat → Int32} {L : Nat → Nat} {n u v w : Nat} {Q : Nat → Prop} (h3 : 3 ≤ n) (h7 : n ≤ 7) (hl : tr_Rp 49 aL L) (hL : ∀ j, j < 49 → L j ≤ 60) (hW : tr_Tw n aW) (hu : u < 7) (hv : v < 7)
    (hw : w < 2) (hQ1 : w = 1 → ∀ t, Q t ↔ tr_us (tr_R n t) n u v) (hQ0 : w = 0 → ∀ t, Q t ↔ ¬ tr_us (tr_R n t) n u v) (K : ∀ x, tr_YL (tr_ln L n) Q (tr_T n) x → post x) :
    ∀ d t x, t + d = tr_T n → tr_YL (tr_ln L n) Q t x → wY_least_6 post (nI u) (nI v) (nI w) (nI n) (nI (tr_T n)) aL aW aO aP (d + 1) x (nI t) := by
  have T7 := (tr_T_b h3 h7).2
  intro d
  induction d with
  | zero =>
    intro t x ht I
    obtain rfl : t = tr_T n := by omega
    exact br_t (nI_le (by omega) (by omega)) (K x I)
  | succ d ih =>
    intro t x ht I
    have b1 := tr_ln_b hL h3 h7 (t := t) (by omega)
    have yes : Q t → wpY_sum (fun r_17 => wY_least_37 post (wY_least_6 post (nI u) (nI v) (nI w) (nI n) (nI (tr_T n)) aL aW aO aP (d + 1)) (nI u) (nI v) (nI w) x (nI t) r_17 (nI n) (nI (tr_T n)) aL aW aO aP) (nI n, nI (tr_T n), aL, aW, aO, aP) (nI t) := by
      intro q
      refine ty_sm h3 h7 hl hW (by omega) ?_
      refine br_f (nI_pos (by omega)) ?_
      have z := tr_YL_q (P := fun y => wY_least_6 post (nI u) (nI v) (nI w) (nI n) (nI (tr_T n)) aL aW aO aP (d + 1) y (nI (t + 1))) I q (by omega) (fun y hy => ih (t + 1) y (by omega) hy)
      exact ⟨fun a => nm_r (nI_1 t) (z.1 a), fun a => ⟨fun b => nm_r (nI_1 t) ((z.2 a).1 b), fun b => nm_r (nI_1 t) ((z.2 a).2 b)⟩⟩
    have no : ¬ Q t → wY_least_37 post (wY_least_6 post (nI u) (nI v) (nI w) (nI n) (nI (tr_T n)) aL aW aO aP (d + 1)) (nI u) (nI v) (nI w) x (nI t) (-1) (nI n) (nI (tr_T n)) aL aW aO aP := by
      intro q
      exact br_t (by decide) (nm_r (nI_1 t) (ih (t + 1) x (by omega) (tr_YL_n I q)))
    refine br_f (nI_ge (by omega) (by omega)) (ty_us h3 h7 hW (by omega) hu hv (fun a => ?_) (fun a => ?_))
    · refine pk_eq 1 w (fun e => yes ((hQ1 e.symm t).mpr a)) (fun e => no (fun q => (hQ0 (by omega) t).mp q a))
    · refine pk_eq 0 w (fun e => yes ((hQ0 e.symm t).mpr a)) (fun e => no (fun q => a ((hQ1 (by omega) t).mp q)))
theorem ty_lt {post : Int32 → Prop} {aL aW aO aP : Nat → Int32} {L : Nat → Nat} {n u v w : Nat} {Q : Nat → Prop} (h3 : 3 ≤ n) (h7 : n ≤ 7) (hl : tr_Rp 49 aL L) (hL : ∀ j, j < 49 → L j ≤ 60) (hW : tr_Tw n aW) (hu : u < 7) (hv : v < 7)
    (hw : w < 2) (hQ1 : w = 1 → ∀ t, Q t ↔ tr_us (tr_R n t) n u v) (hQ0 : w = 0 → ∀ t, Q t ↔ ¬ tr_us (tr_R n t) n u v) (K : ∀ x, tr_YL (tr_ln L n) Q (tr_T n) x → post x) :
    wpY_least post (nI n, nI (tr_T n), aL, aW, aO, aP) (nI u) (nI v) (nI w) := by
  unfold wpY_least
  dsimp only
  exact ⟨tr_T n + 1, ty_lt_l h3 h7 hl hL hW hu hv hw hQ1 hQ0 K (tr_T n) 0 (-1) (by omega) (Or.inl ⟨rfl, fun t h => absurd h (Nat.not_lt_zero _)⟩)⟩
end
section
/-! Y: the parts for a length k, and what is made of them -/
theorem ty_ct_l {post : Int32 → SY → Prop} {fT : Int32} {aL aW aO aP : Nat → Int32} {p : Nat → Nat} {n : Nat} (h7 : n ≤ 7) (hP : tr_Rp n aP p) (hp : ∀ x, p x ≤ x)
    (K : post (nI (tr_cp (fun u => p u = u) n)) (nI n, fT, aL, aW, aO, aP)) :
    ∀ d i, i + d = n → wY_parts_135 post (nI n) fT aL aW aO aP (d + 1) (nI (tr_cp (fun u => p u = u) i)) (nI i) := by
  intro d
  induction d with
  | zero =>
    intro i hi
    obtain rfl : i = n := by omega
    exact br_t (nI_le (by omega) (by omega)) K
  | succ d ih =>
    intro i hi
    have b := hp i
    refine br_f (nI_ge (by omega) (by omega)) ⟨vp_in_nI (by omega) (by omega), ?_⟩
    rw [nI_clamp (by omega), hP i (by omega)]
    refine pk_eq (p i) i (fun h => nm_r ?_ (nm_r (nI_1 i) (ih (i + 1) (by omega)))) (fun h => nm_r (nI_1 i) ?_)
    · rw [tr_cp_t (P := fun u => p u = u) h, nI_1]
    · have z := ih (i + 1) (by omega)
      rw [tr_cp_f (P := fun u => p u = u) h] at z
      exact z
theorem ty_rd_l {post : Int32 → SY → Prop} {J : Int32 → (Nat → Int32) → (Nat → Int32) → (Nat → Int32) → (Nat → Int32) → Prop} {fT : Int32} {aL aW aO : Nat → Int32} {L p0 : Nat → Nat} {n k r : Nat} (h7 : n ≤ 7) (hl : tr_Rp 49 aL L) (hL : ∀ j, j < 49 → L j ≤ 60) (hk : k < 1000) (hp0 : ∀ x, p0 x ≤ x)
    (K : ∀ p aP, tr_Rd L n k p0 p 49 → tr_Rp n aP p → J (nI (r + 1)) aL aW aO aP) :
    ∀ d uv p aP, uv + d = 49 → tr_Rd L n k p0 p uv → tr_Rp n aP p → wY_parts_35 post J (nI k) (nI r) (nI n) fT (d + 1) (nI uv) aL aW aO aP := by
  intro d
  induction d with
  | zero =>
    intro uv p aP hi R hP
    obtain rfl : uv = 49 := by omega
    exact br_t (nI_le (a := 49) (by omega) (by omega)) (nm_r (nI_1 r) (K p aP R hP))
  | succ d ih =>
    intro uv p aP hi R hP
    obtain ⟨u, v, hv, e⟩ : ∃ u v, v < 7 ∧ uv = 7 * u + v := ⟨uv / 7, uv % 7, by omega, by omega⟩
    have hu : u < 7 := by omega
    have e1 : nI uv / 7 = nI u := by
      have z := pk_div (a := uv) (d := 7) (by omega) (by omega) (by omega)
      rw [show uv / 7 = u by omega] at z
      exact z
    have e2 : nI uv - nI uv / 7 * 7 = nI v := by
      have z := pk_rem (a := uv) (d := 7) (by omega) (by omega) (by omega)
      rw [show uv % 7 = v by omega] at z
      exact z
    have lb := hL uv (by omega)
    have keep : (tr_E L n k u v → p u ≤ p v) → wY_parts_35 post J (nI k) (nI r) (nI n) fT (d + 1) (nI (uv + 1)) aL aW aO aP := by
      intro q
      refine ih (uv + 1) p aP (by omega) ?_ hP
      rw [e] at R ⊢
      exact tr_Rd_k h7 hv R q
    refine br_f (nI_ge (b := 49) (by omega) (by omega)) ⟨by decide, nm_r e1 ⟨by decide, nm_r e2 ?_⟩⟩
    refine pk_le n u (fun h => nm_r (nI_1 uv) (keep (fun q => absurd q.1 (by omega)))) (fun h1 => ?_)
    refine pk_le n v (fun h => nm_r (nI_1 uv) (keep (fun q => absurd q.2.1 (by omega)))) (fun h2 => ?_)
    refine pk_eq u v (fun h => nm_r (nI_1 uv) (keep (fun q => absurd h q.2.2.1))) (fun h3 => ⟨vp_in_nI (by omega) (by omega), ?_⟩)
    rw [nI_clamp (n := uv) (by omega), hl uv (by omega)]
    refine pk_lt k (L uv) (fun h => nm_r (nI_1 uv) (keep (fun q => ?_))) (fun h4 => ?_)
    · have := q.2.2.2
      rw [← e] at this
      omega
    have vu : vp_in (nI u) 7 := vp_in_nI (by omega) (by omega)
    have vv : vp_in (nI v) 7 := vp_in_nI (by omega) (by omega)
    have pu := Nat.le_trans (R.2.1 u) (hp0 u)
    have pv := Nat.le_trans (R.2.1 v) (hp0 v)
    refine ⟨vv, vu, ?_⟩
    rw [nI_clamp (n := u) (by omega), nI_clamp (n := v) (by omega), hP u h1, hP v h2]
    refine pk_le (p u) (p v) (fun h => nm_r (nI_1 uv) (keep (fun _ => h))) (fun h5 => ⟨vv, vu, nm_e (nm_r (nI_1 uv) ?_)⟩)
    refine ih (uv + 1) (fun x => if x = u then p v else p x) _ (by omega) ?_ (tr_Rp_u hP (fun _ _ => rfl))
    rw [e] at R h4 ⊢
    exact tr_Rd_u h7 hv R ⟨h1, h2, h3, h4⟩ h5 (fun _ => rfl)
theorem ty_rn_l {post : Int32 → SY → Prop} {fT : Int32} {aL aW aO : Nat → Int32} {L : Nat → Nat} {n k : Nat} (h7 : n ≤ 7) (sy : tr_Sy L) (hl : tr_Rp 49 aL L) (hL : ∀ j, j < 49 → L j ≤ 60) (hk : k < 1000)
    (K : ∀ aP, post (nI (tr_P L n k)) (nI n, fT, aL, aW, aO, aP)) :
    ∀ d r p aP, r + d = n → tr_Iv (tr_E L n k) n r p → tr_Rp n aP p → wY_parts_25 post (nI k) (nI n) fT (d + 1) (nI r) aL aW aO aP := by
  intro d
  induction d with
  | zero =>
    intro r p aP hi I hP
    obtain rfl : r = n := by omega
    refine br_t (nI_le (by omega) (by omega)) ⟨r + 1, ty_ct_l h7 hP I.1 ?_ r 0 (by omega)⟩
    have e := tr_Iv_n (tr_E_y sy h7 k) I
    rw [tr_cp_congr (Q := fun u => tr_lb (tr_E L r k) u = u) r (fun m hm => by rw [e m hm])]
    exact K aP
  | succ d ih =>
    intro r p aP hi I hP
    refine br_f (nI_ge (by omega) (by omega)) ⟨49 + 1, ty_rd_l h7 hl hL hk I.1 (fun p' aP' R hP' => ?_) 49 0 p aP (by omega) (tr_Rd_0 I.2.1) hP⟩
    exact ih (r + 1) p' aP' (by omega) (tr_Rd_e h7 sy I R) hP'
theorem ty_p0_l {post : Int32 → SY → Prop} {fT : Int32} {aL aW aO : Nat → Int32} {L : Nat → Nat} {n k : Nat} (h7 : n ≤ 7) (sy : tr_Sy L) (hl : tr_Rp 49 aL L) (hL : ∀ j, j < 49 → L j ≤ 60) (hk : k < 1000)
    (K : ∀ aP, post (nI (tr_P L n k)) (nI n, fT, aL, aW, aO, aP)) :
    ∀ d i aP, i + d = n → tr_Rp i aP (fun x => x) → wY_parts_2 post (nI k) (nI n) fT (d + 1) (nI i) aL aW aO aP := by
  intro d
  induction d with
  | zero =>
    intro i aP hi hP
    obtain rfl : i = n := by omega
    exact br_t (nI_le (by omega) (by omega)) ⟨i + 1, ty_rn_l h7 sy hl hL hk K i 0 (fun x => x) aP (by omega) (tr_Iv_0 _ i) hP⟩
  | succ d ih =>
    intro i aP hi hP
    exact br_f (nI_ge (by omega) (by omega)) ⟨vp_in_nI (by omega) (by omega), nm_r (e' := upd aP i (nI i)) (by rw [nI_clamp (by omega)]) (nm_r (nI_1 i) (ih (i + 1) _ (by omega) (tr_Rp_x (f := fun x => x) hP)))⟩
theorem ty_pt {post : Int32 → SY → Prop} {fT : Int32} {aL aW aO aP : Nat → Int32} {L : Nat → Nat} {n k : Nat} (h7 : n ≤ 7) (sy : tr_Sy L) (hl : tr_Rp 49 aL L) (hL : ∀ j, j < 49 → L j ≤ 60) (hk : k < 1000)
    (K : ∀ aP, post (nI (tr_P L n k)) (nI n, fT, aL, aW, aO, aP)) : wpY_parts post (nI n, fT, aL, aW, aO, aP) (nI k) := by
  unfold wpY_parts
  dsimp only
  exact ⟨n + 1, ty_p0_l h7 sy hl hL hk K n 0 aP (by omega) (fun j hj => absurd hj (Nat.not_lt_zero _))⟩
theorem ty_re_l {post : Int32 → SY → Prop} {fT : Int32} {aL aW aO : Nat → Int32} {L : Nat → Nat} {n m : Nat} (h7 : n ≤ 7) (sy : tr_Sy L) (hl : tr_Rp 49 aL L) (hL : ∀ j, j < 49 → L j ≤ 60)
    (h1 : ∀ k, tr_P L n k = 1 ↔ m ≤ k) (h2 : m ≤ 60) (K : ∀ aP, post (nI m) (nI n, fT, aL, aW, aO, aP)) :
    ∀ d i aP, i + d = 60 → i ≤ m → wY_reach_2 post (d + 1) (nI i) (nI n) fT aL aW aO aP := by
  intro d
  induction d with
  | zero =>
    intro i aP hi hm
    obtain rfl : m = 60 := by omega
    exact br_t (nI_le (a := 60) (by omega) (by omega)) (K aP)
  | succ d ih =>
    intro i aP hi hm
    have pl := tr_P_le L n i
    refine br_f (nI_ge (b := 60) (by omega) (by omega)) (ty_pt h7 sy hl hL (by omega) (fun aP' => ?_))
    dsimp only
    refine pk_eq (tr_P L n i) 1 (fun e => ?_) (fun e => nm_r (nI_1 i) (ih (i + 1) aP' (by omega) ?_))
    · obtain rfl : m = i := by have := (h1 i).mp e; omega
      exact K aP'
    · have : ¬ m ≤ i := fun q => e ((h1 i).mpr q)
      omega
theorem ty_re {post : Int32 → SY → Prop} {fT : Int32} {aL aW aO aP : Nat → Int32} {L : Nat → Nat} {n m : Nat} (h7 : n ≤ 7) (sy : tr_Sy L) (hl : tr_Rp 49 aL L) (hL : ∀ j, j < 49 → L j ≤ 60)
    (h1 : ∀ k, tr_P L n k = 1 ↔ m ≤ k) (h2 : m ≤ 60) (K : ∀ aP, post (nI m) (nI n, fT, aL, aW, aO, aP)) : wpY_reach post (nI n, fT, aL, aW, aO, aP) := by
  unfold wpY_reach
  dsimp only
  exact ⟨60 + 1, ty_re_l h7 sy hl hL h1 h2 K 60 0 aP (by omega) (by omega)⟩
theorem ty_nt_l {post : Int32 → SY → Prop} {fT : Int32} {aL aW aO : Nat → Int32} {L : Nat → Nat} {n : Nat} (h3 : 3 ≤ n) (h7 : n ≤ 7) (sy : tr_Sy L) (hl : tr_Rp 49 aL L) (hL : ∀ j, j < 49 → L j ≤ 60)
    (K : ∀ aP, post (nI (tr_sm (fun k => tr_P L n k - 1) 60)) (nI n, fT, aL, aW, aO, aP)) :
    ∀ d i aP, i + d = 60 → wY_net_4 post (d + 1) (nI (tr_sm (fun k => tr_P L n k - 1) i)) (nI i) (nI n) fT aL aW aO aP := by
  intro d
  induction d with
  | zero =>
    intro i aP hi
    obtain rfl : i = 60 := by omega
    exact br_t (nI_le (a := 60) (by omega) (by omega)) (K aP)
  | succ d ih =>
    intro i aP hi
    have pl := tr_P_pos (L := L) (n := n) (k := i) (by omega)
    refine br_f (nI_ge (b := 60) (by omega) (by omega)) (ty_pt h7 sy hl hL (by omega) (fun aP' => ?_))
    dsimp only
    refine nm_r ?_ (nm_r (nI_1 i) (ih (i + 1) aP' (by omega)))
    rw [show nI (tr_P L n i) - 1 = nI (tr_P L n i - 1) from pk_sub (b := 1) pl, nI_add]
    rfl
theorem ty_nt {post : Int32 → SY → Prop} {fT : Int32} {aL aW aO aP : Nat → Int32} {L : Nat → Nat} {n : Nat} (h3 : 3 ≤ n) (h7 : n ≤ 7) (sy : tr_Sy L) (hl : tr_Rp 49 aL L) (hL : ∀ j, j < 49 → L j ≤ 60)
    (K : ∀ aP, post (nI (tr_sm (fun k => tr_P L n k - 1) 60)) (nI n, fT, aL, aW, aO, aP)) : wpY_net post (nI n, fT, aL, aW, aO, aP) := by
  unfold wpY_net
  dsimp only
  exact ⟨60 + 1, ty_nt_l h3 h7 sy hl hL K 60 0 aP (by omega)⟩
end
section
/-! Y: the table is lengthened -/
def tr_Tr (s : Nat) (a : Nat → Int32) (rs : List (List Nat)) : Prop := ∀ t, t < rs.length → ∀ k, k < s → a (7 * t + k) = nI (tr_get (tr_row rs t) k)
def tr_fl (b : Bool) : Int32 := match b with | true => 0 | false => 1
theorem ty_bk_l {post : SY → Prop} {aL aO aP : Nat → Int32} {n m : Nat} (hm : m ≤ 720)
    (K : ∀ aW, (∀ j, j < 7 * m → aW j = aO j) → post (nI n, nI m, aL, aW, aO, aP)) :
    ∀ d k aW, k + d = 7 * m → (∀ j, j < k → aW j = aO j) → wY_lengthen_146 post (nI m) (nI n) (nI m) (d + 1) (nI k) aL aW aO aP := by
  have e7 : 7 * nI m = nI (7 * m) := pk_mul 7 m
  intro d
  induction d with
  | zero =>
    intro k aW hk h
    rw [wY_lengthen_146, e7]
    exact br_t (nI_le (by omega) (by omega)) (K aW (fun j hj => h j (by omega)))
  | succ d ih =>
    intro k aW hk h
    rw [wY_lengthen_146, e7]
    have vk : vp_in (nI k) 5040 := vp_in_nI (by omega) (by omega)
    refine br_f (nI_ge (by omega) (by omega)) ⟨vk, vk, nm_r (e' := upd aW k (aO k)) (by rw [nI_clamp (by omega)]) (nm_r (nI_1 k) (ih (k + 1) _ (by omega) (fun j hj => ?_)))⟩
    by_cases z : j = k
    · rw [z]; exact pk_us
    · rw [pk_un z]; exact h j (by omega)
theorem tr_Tr_a {s m : Nat} {a : Nat → Int32} {acc : List (List Nat)} {r : List Nat} {v : Nat} (hm : acc.length = m) (hr : r.length = s) (h1 : tr_Tr (s + 1) a acc) (h2 : ∀ j, j < s → a (7 * m + j) = nI (tr_get r j)) (h3 : a (7 * m + s) = nI v) : tr_Tr (s + 1) a (acc ++ [r ++ [v]]) := by
  intro t ht k hk
  rw [List.length_append] at ht
  have ht' : t < acc.length + 1 := ht
  by_cases z : t < acc.length
  · rw [tr_row_l _ _ _ z]
    exact h1 t z k hk
  · obtain rfl : t = acc.length := by omega
    rw [tr_row_e, hm]
    by_cases w : k < s
    · rw [tr_get_l _ _ _ (by omega)]
      exact h2 k w
    · obtain rfl : k = r.length := by omega
      rw [tr_get_e, hr]
      exact h3
theorem ty_cp_l {post : SY → Prop} {J : Int32 → Int32 → (Nat → Int32) → (Nat → Int32) → (Nat → Int32) → (Nat → Int32) → Prop} {fT : Int32} {aL aW aP : Nat → Int32} {acc : List (List Nat)} {r : List Nat} {n s m t tv v : Nat} (h3 : 3 ≤ n) (h7 : n ≤ 7) (hs : s < 7) (hm : acc.length = m) (hm7 : m < 720) (ht : t < 720) (htv : tv < 5040) (hv : tv % n = v) (hr : r.length = s)
    (hW : ∀ k, k < s → aW (7 * t + k) = nI (tr_get r k))
    (K : ∀ aO, tr_Tr (s + 1) aO (acc ++ [r ++ [v]]) → J (nI (m + 1)) (nI (tv + 1)) aL aW aO aP) :
    ∀ d k aO, k + d = s → tr_Tr (s + 1) aO acc → (∀ j, j < k → aO (7 * m + j) = nI (tr_get r j)) → wY_lengthen_76 post J (nI s) (nI m) (nI tv) (nI t) (nI n) fT (d + 1) (nI k) aL aW aO aP := by
  have n0 : ¬ nI n = 0 := nI_ne0 (by omega) (by omega)
  have er : nI tv - nI tv / nI n * nI n = nI v := by rw [pk_rem (by omega) (by omega) (by omega), hv]
  intro d
  induction d with
  | zero =>
    intro k aO hk hA hj
    obtain rfl : k = s := by omega
    rw [wY_lengthen_76, tr_iy, er, nI_clamp (n := 7 * m + k) (by omega)]
    refine br_t (nI_le (by omega) (by omega)) ⟨n0, vp_in_nI (by omega) (by omega), nm_e (nm_r (nI_1 m) (nm_r (nI_1 tv) (K _ (tr_Tr_a hm hr (fun i hi q hq => ?_) (fun j hj' => ?_) pk_us))))⟩
    · rw [pk_un (by omega)]; exact hA i hi q hq
    · rw [pk_un (by omega)]; exact hj j hj'
  | succ d ih =>
    intro k aO hk hA hj
    rw [wY_lengthen_76]
    refine br_f (nI_ge (by omega) (by omega)) ?_
    rw [tr_iy, tr_iy, nI_clamp (n := 7 * t + k) (by omega), nI_clamp (n := 7 * m + k) (by omega), hW k (by omega)]
    refine ⟨vp_in_nI (by omega) (by omega), vp_in_nI (by omega) (by omega), nm_e (nm_r (nI_1 k) (ih (k + 1) _ (by omega) (fun i hi q hq => ?_) (fun j hj' => ?_)))⟩
    · rw [pk_un (by omega)]; exact hA i hi q hq
    · by_cases z : j = k
      · rw [z]; exact pk_us
      · rw [pk_un (by omega)]; exact hj j (by omega)
theorem ty_fr_l {post : SY → Prop} {J : Int32 → Int32 → (Nat → Int32) → (Nat → Int32) → (Nat → Int32) → (Nat → Int32) → Prop} {fT : Int32} {aL aW aO aP : Nat → Int32} {r : List Nat} {n s m t tv v : Nat} (h3 : 3 ≤ n) (h7 : n ≤ 7) (hs : s < 7) (ht : t < 720) (htv : tv < 5040) (hv : tv % n = v) (hr : r.length = s)
    (hW : ∀ k, k < s → aW (7 * t + k) = nI (tr_get r k)) (hb : ∀ k, k < s → tr_get r k < n)
    (K1 : tr_has r v s = true → J (nI m) (nI (tv + 1)) aL aW aO aP)
    (K0 : tr_has r v s = false → ∃ N, wY_lengthen_76 post J (nI s) (nI m) (nI tv) (nI t) (nI n) fT N 0 aL aW aO aP) :
    ∀ d k, k + d = s → wY_lengthen_31 post J (nI s) (nI m) (nI tv) (nI t) (nI n) fT aL aW aO aP (d + 1) (tr_fl (tr_has r v k)) (nI k) := by
  have n0 : ¬ nI n = 0 := nI_ne0 (by omega) (by omega)
  have er : nI tv - nI tv / nI n * nI n = nI v := by rw [pk_rem (by omega) (by omega) (by omega), hv]
  have vn : v < n := by rw [← hv]; exact Nat.mod_lt _ (by omega)
  intro d
  induction d with
  | zero =>
    intro k hk
    obtain rfl : k = s := by omega
    refine br_t (nI_le (by omega) (by omega)) ?_
    cases e : tr_has r v k with
    | true => exact br_t rfl (nm_r (nI_1 tv) (K1 e))
    | false => exact br_f (by decide) (K0 e)
  | succ d ih =>
    intro k hk
    have b := hb k (by omega)
    have nx := ih (k + 1) (by omega)
    rw [wY_lengthen_31]
    refine br_f (nI_ge (by omega) (by omega)) ?_
    rw [tr_iy, er, nI_clamp (n := 7 * t + k) (by omega), hW k (by omega)]
    refine ⟨vp_in_nI (by omega) (by omega), n0, pk_eq (tr_get r k) v (fun e => nm_r (nI_1 k) ?_) (fun e => nm_r (nI_1 k) ?_)⟩
    · have z : tr_has r v (k + 1) = true := by
        rw [tr_has, Bool.or_eq_true, Nat.beq_eq]; exact Or.inr e
      rw [z] at nx
      exact nx
    · have z : tr_has r v (k + 1) = tr_has r v k := by
        have w : Nat.beq (tr_get r k) v = false := by
          rw [← Bool.not_eq_true, Nat.beq_eq]; exact e
        rw [tr_has, w, Bool.or_false]
      rw [z] at nx
      exact nx
theorem ty_le_l {post : SY → Prop} {aL aW aP : Nat → Int32} {rs : List (List Nat)} {n s : Nat} (h3 : 3 ≤ n) (h7 : n ≤ 7) (hs : s < 7) (hT : rs.length ≤ 720) (hT' : (tr_st n rs).length ≤ 720)
    (hw : ∀ t, t < rs.length → (tr_row rs t).length = s ∧ ∀ k, k < s → tr_get (tr_row rs t) k < n) (hW : tr_Tr s aW rs)
    (K : ∀ aW aO, tr_Tr (s + 1) aW (tr_st n rs) → post (nI n, nI (tr_st n rs).length, aL, aW, aO, aP)) :
    ∀ d tv aO, tv + d = rs.length * n → tr_Tr (s + 1) aO (tr_ac n rs tv) → wY_lengthen_4 post (nI s) (nI n) (nI rs.length) (d + 1) (nI (tr_ac n rs tv).length) (nI tv) aL aW aO aP := by
  have n0 : ¬ nI n = 0 := nI_ne0 (by omega) (by omega)
  have et : nI rs.length * nI n = nI (rs.length * n) := pk_mul _ _
  have tn : rs.length * n ≤ 5040 := Nat.le_trans (Nat.mul_le_mul hT h7) (by decide)
  intro d
  induction d with
  | zero =>
    intro tv aO htv hA
    obtain rfl : tv = rs.length * n := by omega
    rw [tr_ac_e rs (by omega)] at hA ⊢
    rw [wY_lengthen_4, et]
    refine br_t (nI_le (by omega) (by omega)) ⟨7 * (tr_st n rs).length + 1, ty_bk_l hT' (fun aW' h => K aW' aO (fun t ht k hk => ?_)) _ 0 aW (by omega) (fun j hj => absurd hj (Nat.not_lt_zero _))⟩
    rw [h _ (by omega)]
    exact hA t ht k hk
  | succ d ih =>
    intro tv aO htv hA
    have td : tv / n < rs.length := tr_dv (by omega)
    have st := tr_ac_s (n := n) (tv := tv) (rs := rs) (by omega) td
    have bd := tr_ac_b (n := n) (tv := tv + 1) rs (by omega) (by omega)
    obtain ⟨hr, hb⟩ := hw _ td
    have nx : ∀ aO', tr_Tr (s + 1) aO' (tr_ac n rs (tv + 1)) → _ := fun aO' => ih (tv + 1) aO' (by omega)
    rw [wY_lengthen_4, et]
    refine br_f (nI_ge (by omega) (by omega)) ⟨n0, nm_r (pk_div (by omega) (by omega) (by omega)) ⟨s + 1, ?_⟩⟩
    refine ty_fr_l (r := tr_row rs (tv / n)) (v := tv % n) h3 h7 hs (by omega) (by omega) rfl hr (fun k hk => hW _ td k hk) hb (fun e => ?_) (fun e => ?_) s 0 (by omega)
    · rw [hr, e] at st
      have st' : tr_ac n rs (tv + 1) = tr_ac n rs tv ++ [] := st
      rw [List.append_nil] at st'
      rw [← st'] at hA ⊢
      exact nx aO hA
    · rw [hr, e] at st
      have st' : tr_ac n rs (tv + 1) = tr_ac n rs tv ++ [tr_row rs (tv / n) ++ [tv % n]] := st
      have ln : (tr_ac n rs (tv + 1)).length = (tr_ac n rs tv).length + 1 := by rw [st', List.length_append]; rfl
      refine ⟨s + 1, ty_cp_l (acc := tr_ac n rs tv) (r := tr_row rs (tv / n)) (v := tv % n) h3 h7 hs rfl (by omega) (by omega) (by omega) rfl hr (fun k hk => hW _ td k hk) (fun aO' h' => ?_) s 0 aO (by omega) hA (fun j hj => absurd hj (Nat.not_lt_zero _))⟩
      rw [← st'] at h'
      rw [← ln]
      exact nx aO' h'
theorem ty_le {post : SY → Prop} {aL aW aO aP : Nat → Int32} {rs : List (List Nat)} {n s : Nat} (h3 : 3 ≤ n) (h7 : n ≤ 7) (hs : s < 7) (hT : rs.length ≤ 720) (hT' : (tr_st n rs).length ≤ 720)
    (hw : ∀ t, t < rs.length → (tr_row rs t).length = s ∧ ∀ k, k < s → tr_get (tr_row rs t) k < n) (hW : tr_Tr s aW rs)
    (K : ∀ aW aO, tr_Tr (s + 1) aW (tr_st n rs) → post (nI n, nI (tr_st n rs).length, aL, aW, aO, aP)) : wpY_lengthen post (nI n, nI rs.length, aL, aW, aO, aP) (nI s) := by
  unfold wpY_lengthen
  dsimp only
  have z := ty_le_l (aL := aL) (aP := aP) h3 h7 hs hT hT' hw hW K (rs.length * n) 0 aO (by omega)
  rw [tr_ac_0] at z
  exact ⟨_, z (fun t ht => absurd ht (Nat.not_lt_zero _))⟩
theorem ty_in_l {post : SY → Prop} {aL aP : Nat → Int32} {n : Nat} (h3 : 3 ≤ n) (h7 : n ≤ 7) (K : ∀ aW aO, tr_Tw n aW → post (nI n, nI (tr_T n), aL, aW, aO, aP)) :
    ∀ d q aW aO, q + d + 1 = n → tr_Tr (q + 1) aW (tr_tb n q) → wY_init_92 post (d + 1) (nI (q + 1)) (nI n) (nI (tr_tb n q).length) aL aW aO aP := by
  intro d
  induction d with
  | zero =>
    intro q aW aO hq hW
    obtain rfl : q = n - 1 := by omega
    refine br_t (nI_le (by omega) (by omega)) (K aW aO (fun t ht k hk => hW t ht k (by omega)))
  | succ d ih =>
    intro q aW aO hq hW
    have f1 := tr_Tb h3 h7 (s := q) (by omega)
    have f2 := tr_Tb h3 h7 (s := q + 1) (by omega)
    refine br_f (nI_ge (by omega) (by omega)) (ty_le h3 h7 (by omega) f1.1 f2.1 f1.2 hW (fun aW' aO' h' => ?_))
    dsimp only
    exact nm_r (nI_1 (q + 1)) (ih (q + 1) aW' aO' (by omega) h')
theorem ty_i0_l {post : SY → Prop} {aW aO aP : Nat → Int32} {n : Nat} (h3 : 3 ≤ n) (h7 : n ≤ 7) (hW : aW 0 = 0) (K : ∀ aL aW aO, tr_Rp 49 aL (fun _ => 60) → tr_Tw n aW → post (nI n, nI (tr_T n), aL, aW, aO, aP)) :
    ∀ d i aL, i + d = 49 → tr_Rp i aL (fun _ => 60) → wY_init_70 post (nI n) 1 (d + 1) (nI i) aL aW aO aP := by
  intro d
  induction d with
  | zero =>
    intro i aL hi hL
    obtain rfl : i = 49 := by omega
    refine br_t (nI_le (a := 49) (by omega) (by omega)) ⟨n - 1 + 1, ty_in_l h3 h7 (fun aW aO => K aL aW aO hL) (n - 1) 0 aW aO (by omega) (fun t ht k hk => ?_)⟩
    have t0 : t < 1 := ht
    obtain rfl : t = 0 := by omega
    obtain rfl : k = 0 := by omega
    exact hW
  | succ d ih =>
    intro i aL hi hL
    exact br_f (nI_ge (b := 49) (by omega) (by omega)) ⟨vp_in_nI (by omega) (by omega), nm_r (e' := upd aL i (nI 60)) (by rw [nI_clamp (by omega)]; rfl) (nm_r (nI_1 i) (ih (i + 1) _ (by omega) (tr_Rp_x (f := fun _ => 60) hL)))⟩
theorem tx_i0_l {post : SX → Prop} {fn fb fc fs fm : Int32} {aT aB aG aJ : Nat → Int32} (K : ∀ aL, tr_Rp 49 aL (fun _ => 60) → post (fn, fb, fc, fs, fm, aL, aT, aB, aG, aJ)) :
    ∀ d i aL, i + d = 49 → tr_Rp i aL (fun _ => 60) → wX_init_57 post fn fb fc fs fm (d + 1) (nI i) aL aT aB aG aJ := by
  intro d
  induction d with
  | zero =>
    intro i aL hi hL
    obtain rfl : i = 49 := by omega
    exact br_t (nI_le (a := 49) (by omega) (by omega)) (K aL hL)
  | succ d ih =>
    intro i aL hi hL
    exact br_f (nI_ge (b := 49) (by omega) (by omega)) ⟨vp_in_nI (by omega) (by omega), nm_r (e' := upd aL i (nI 60)) (by rw [nI_clamp (by omega)]; rfl) (nm_r (nI_1 i) (ih (i + 1) _ (by omega) (tr_Rp_x (f := fun _ => 60) hL)))⟩
end
section
/-! both sides: towns, pairs, a length set -/
def tr_pair (n : Nat) (x y : Int32) : Prop := ∃ a b : Nat, a < n ∧ b < n ∧ a ≠ b ∧ x = nI a ∧ y = nI b
theorem tx_it0 {post : Int32 → Prop} {fn fb fc fs fm x : Int32} {aL aT aB aG aJ : Nat → Int32} (h : x < 0 ∨ fn ≤ x) (K : post 0) : wpX_isTown post (fn, fb, fc, fs, fm, aL, aT, aB, aG, aJ) x := by
  unfold wpX_isTown
  dsimp only
  by_cases z : x < 0
  · exact br_t z K
  · exact br_f z (br_t (h.resolve_left z) K)
theorem tx_it1 {post : Int32 → Prop} {fb fc fs fm : Int32} {aL aT aB aG aJ : Nat → Int32} {n a : Nat} (h7 : n ≤ 7) (h : a < n) (K : post 1) : wpX_isTown post (nI n, fb, fc, fs, fm, aL, aT, aB, aG, aJ) (nI a) := by
  unfold wpX_isTown
  dsimp only
  exact br_f (nI_pos (by omega)) (br_f (nI_ge h (by omega)) K)
theorem ty_it0 {post : Int32 → Prop} {fn fT x : Int32} {aL aW aO aP : Nat → Int32} (h : x < 0 ∨ fn ≤ x) (K : post 0) : wpY_isTown post (fn, fT, aL, aW, aO, aP) x := by
  unfold wpY_isTown
  dsimp only
  by_cases z : x < 0
  · exact br_t z K
  · exact br_f z (br_t (h.resolve_left z) K)
theorem ty_it1 {post : Int32 → Prop} {fT : Int32} {aL aW aO aP : Nat → Int32} {n a : Nat} (h7 : n ≤ 7) (h : a < n) (K : post 1) : wpY_isTown post (nI n, fT, aL, aW, aO, aP) (nI a) := by
  unfold wpY_isTown
  dsimp only
  exact br_f (nI_pos (by omega)) (br_f (nI_ge h (by omega)) K)
theorem tr_town (x : Int32) {n : Nat} (h7 : n ≤ 7) : (x < 0 ∨ nI n ≤ x) ∨ ∃ j : Nat, j < n ∧ x = nI j := by
  rcases pk_ix x (n := n) (by omega) with h | h | h
  · exact Or.inl (Or.inl h)
  · exact Or.inl (Or.inr h)
  · exact Or.inr h
theorem tx_ip0 {post : Int32 → Prop} {fb fc fs fm x y : Int32} {aL aT aB aG aJ : Nat → Int32} {n : Nat} (h7 : n ≤ 7) (h : ¬ tr_pair n x y) (K : post 0) : wpX_isPair post (nI n, fb, fc, fs, fm, aL, aT, aB, aG, aJ) x y := by
  unfold wpX_isPair
  dsimp only
  rcases tr_town x h7 with q | ⟨a, ha, rfl⟩
  · exact tx_it0 q (br_t rfl K)
  · refine tx_it1 h7 ha (br_f (by decide) ?_)
    rcases tr_town y h7 with q | ⟨b, hb, rfl⟩
    · exact tx_it0 q (br_t rfl K)
    · refine tx_it1 h7 hb (br_f (by decide) (pk_eq a b (fun _ => K) (fun ne => ?_)))
      exact absurd ⟨a, b, ha, hb, ne, rfl, rfl⟩ h
theorem tx_ip1 {post : Int32 → Prop} {fb fc fs fm : Int32} {aL aT aB aG aJ : Nat → Int32} {n a b : Nat} (h7 : n ≤ 7) (ha : a < n) (hb : b < n) (hab : a ≠ b) (K : post 1) : wpX_isPair post (nI n, fb, fc, fs, fm, aL, aT, aB, aG, aJ) (nI a) (nI b) := by
  unfold wpX_isPair
  dsimp only
  exact tx_it1 h7 ha (br_f (by decide) (tx_it1 h7 hb (br_f (by decide) (pk_eq a b (fun e => absurd e hab) (fun _ => K)))))
theorem ty_ip0 {post : Int32 → Prop} {fT x y : Int32} {aL aW aO aP : Nat → Int32} {n : Nat} (h7 : n ≤ 7) (h : ¬ tr_pair n x y) (K : post 0) : wpY_isCouple post (nI n, fT, aL, aW, aO, aP) x y := by
  unfold wpY_isCouple
  dsimp only
  rcases tr_town x h7 with q | ⟨a, ha, rfl⟩
  · exact ty_it0 q (br_t rfl K)
  · refine ty_it1 h7 ha (br_f (by decide) ?_)
    rcases tr_town y h7 with q | ⟨b, hb, rfl⟩
    · exact ty_it0 q (br_t rfl K)
    · refine ty_it1 h7 hb (br_f (by decide) (pk_eq a b (fun _ => K) (fun ne => ?_)))
      exact absurd ⟨a, b, ha, hb, ne, rfl, rfl⟩ h
theorem ty_ip1 {post : Int32 → Prop} {fT : Int32} {aL aW aO aP : Nat → Int32} {n a b : Nat} (h7 : n ≤ 7) (ha : a < n) (hb : b < n) (hab : a ≠ b) (K : post 1) : wpY_isCouple post (nI n, fT, aL, aW, aO, aP) (nI a) (nI b) := by
  unfold wpY_isCouple
  dsimp only
  exact ty_it1 h7 ha (br_f (by decide) (ty_it1 h7 hb (br_f (by decide) (pk_eq a b (fun e => absurd e hab) (fun _ => K)))))
theorem tx_sl {post : SX → Prop} {fn fb fc fs fm : Int32} {aL aT aB aG aJ : Nat → Int32} {L : Nat → Nat} {a b c : Nat} (ha : a < 7) (hb : b < 7) (hl : tr_Rp 49 aL L)
    (K : ∀ aL, tr_Rp 49 aL (tr_pt L a b c) → post (fn, fb, fc, fs, fm, aL, aT, aB, aG, aJ)) : wpX_setLength post (fn, fb, fc, fs, fm, aL, aT, aB, aG, aJ) (nI a) (nI b) (nI c) := by
  unfold wpX_setLength
  dsimp only
  rw [tr_ix, tr_ix, nI_clamp (n := 7 * a + b) (by omega), nI_clamp (n := 7 * b + a) (by omega)]
  exact ⟨vp_in_nI (by omega) (by omega), nm_e ⟨vp_in_nI (by omega) (by omega), nm_e (K _ (tr_Rp_pt hl))⟩⟩
theorem ty_sl {post : SY → Prop} {fn fT : Int32} {aL aW aO aP : Nat → Int32} {L : Nat → Nat} {a b c : Nat} (ha : a < 7) (hb : b < 7) (hl : tr_Rp 49 aL L)
    (K : ∀ aL, tr_Rp 49 aL (tr_pt L a b c) → post (fn, fT, aL, aW, aO, aP)) : wpY_put post (fn, fT, aL, aW, aO, aP) (nI a) (nI b) (nI c) := by
  unfold wpY_put
  dsimp only
  rw [tr_iy, tr_iy, nI_clamp (n := 7 * a + b) (by omega), nI_clamp (n := 7 * b + a) (by omega)]
  exact ⟨vp_in_nI (by omega) (by omega), nm_e ⟨vp_in_nI (by omega) (by omega), nm_e (K _ (tr_Rp_pt hl))⟩⟩
def tr_ref (n : Nat) (x y z : Int32) : Prop := ¬ tr_pair n x y ∨ z < 0 ∨ ¬ z ≤ 60
theorem tr_ref_n {n : Nat} {x y z : Int32} (h : ¬ tr_ref n x y z) : ∃ a b c : Nat, a < n ∧ b < n ∧ a ≠ b ∧ c ≤ 60 ∧ x = nI a ∧ y = nI b ∧ z = nI c := by
  have p : tr_pair n x y := Classical.byContradiction (fun q => h (Or.inl q))
  have z0 : ¬ z < 0 := fun q => h (Or.inr (Or.inl q))
  have z1 : z ≤ 60 := Classical.byContradiction (fun q => h (Or.inr (Or.inr q)))
  obtain ⟨a, b, ha, hb, hab, ex, ey⟩ := p
  obtain ⟨c, hc, ez⟩ := nI_of2 (M := 60) (n := 60) (by decide) z0 z1
  exact ⟨a, b, c, ha, hb, hab, hc, ex, ey, ez⟩
theorem tx_rd0 {post : Int32 → SX → Prop} {fb fc fs fm x y z : Int32} {aL aT aB aG aJ : Nat → Int32} {n : Nat} (h7 : n ≤ 7) (h : tr_ref n x y z) (K : post 0 (nI n, fb, fc, fs, fm, aL, aT, aB, aG, aJ)) : wpX_road post (nI n, fb, fc, fs, fm, aL, aT, aB, aG, aJ) x y z := by
  unfold wpX_road
  dsimp only
  by_cases p : tr_pair n x y
  · obtain ⟨a, b, ha, hb, hab, rfl, rfl⟩ := p
    refine tx_ip1 h7 ha hb hab (br_f (by decide) ?_)
    rcases h with q | q | q
    · exact absurd ⟨a, b, ha, hb, hab, rfl, rfl⟩ q
    · exact br_t q K
    · by_cases w : z < 0
      · exact br_t w K
      · exact br_f w (br_f q K)
  · exact tx_ip0 h7 p (br_t rfl K)
theorem ty_rd0 {post : Int32 → SY → Prop} {fT x y z : Int32} {aL aW aO aP : Nat → Int32} {n : Nat} (h7 : n ≤ 7) (h : tr_ref n x y z) (K : post 0 (nI n, fT, aL, aW, aO, aP)) : wpY_road post (nI n, fT, aL, aW, aO, aP) x y z := by
  unfold wpY_road
  dsimp only
  by_cases p : tr_pair n x y
  · obtain ⟨a, b, ha, hb, hab, rfl, rfl⟩ := p
    refine ty_ip1 h7 ha hb hab (br_f (by decide) ?_)
    rcases h with q | q | q
    · exact absurd ⟨a, b, ha, hb, hab, rfl, rfl⟩ q
    · exact br_t q K
    · by_cases w : z < 0
      · exact br_t w K
      · exact br_f w (br_f q K)
  · exact ty_ip0 h7 p (br_t rfl K)
theorem tx_rd1 {post : Int32 → SX → Prop} {fb fc fs fm : Int32} {aL aT aB aG aJ : Nat → Int32} {L : Nat → Nat} {n a b c : Nat} (h7 : n ≤ 7) (ha : a < n) (hb : b < n) (hab : a ≠ b) (hc : c ≤ 60) (hl : tr_Rp 49 aL L)
    (K : ∀ aL, tr_Rp 49 aL (tr_pt L a b c) → post 1 (nI n, fb, fc, fs, fm, aL, aT, aB, aG, aJ)) : wpX_road post (nI n, fb, fc, fs, fm, aL, aT, aB, aG, aJ) (nI a) (nI b) (nI c) := by
  unfold wpX_road
  dsimp only
  exact tx_ip1 h7 ha hb hab (br_f (by decide) (br_f (nI_pos (by omega)) (br_t (nI_le (b := 60) hc (by decide)) (tx_sl (by omega) (by omega) hl K))))
theorem ty_rd1 {post : Int32 → SY → Prop} {fT : Int32} {aL aW aO aP : Nat → Int32} {L : Nat → Nat} {n a b c : Nat} (h7 : n ≤ 7) (ha : a < n) (hb : b < n) (hab : a ≠ b) (hc : c ≤ 60) (hl : tr_Rp 49 aL L)
    (K : ∀ aL, tr_Rp 49 aL (tr_pt L a b c) → post 1 (nI n, fT, aL, aW, aO, aP)) : wpY_road post (nI n, fT, aL, aW, aO, aP) (nI a) (nI b) (nI c) := by
  unfold wpY_road
  dsimp only
  exact ty_ip1 h7 ha hb hab (br_f (by decide) (br_f (nI_pos (by omega)) (br_t (nI_le (b := 60) hc (by decide)) (ty_sl (by omega) (by omega) hl K))))
end
section
/-! a shift, town by town -/
def tr_cv (z : Int32) : Nat := if 0 ≤ z then (if z ≤ 60 then z.toNatClampNeg else 60) else 0
theorem tr_cv_in {z : Int32} (h0 : 0 ≤ z) (h1 : z ≤ 60) : z = nI (tr_cv z) ∧ tr_cv z ≤ 60 := by
  obtain ⟨c, hc, ez⟩ := nI_of2 (M := 60) (n := 60) (by decide) (Int32.not_lt.mpr h0) h1
  unfold tr_cv
  rw [if_pos h0, if_pos h1, ez, nI_clamp (by omega)]
  exact ⟨rfl, hc⟩
theorem tr_cv_hi {z : Int32} (h0 : 0 ≤ z) (h1 : ¬ z ≤ 60) : tr_cv z = 60 := by
  unfold tr_cv
  rw [if_pos h0, if_neg h1]
theorem tr_cv_lo {z : Int32} (h0 : ¬ 0 ≤ z) : tr_cv z = 0 := by
  unfold tr_cv
  rw [if_neg h0]
theorem tr_cv_le (z : Int32) : tr_cv z ≤ 60 := by
  by_cases h0 : 0 ≤ z
  · by_cases h1 : z ≤ 60
    · exact (tr_cv_in h0 h1).2
    · rw [tr_cv_hi h0 h1]; exact Nat.le_refl _
  · rw [tr_cv_lo h0]; omega
theorem tx_cl {post : Int32 → Prop} {z : Int32} (K : post (nI (tr_cv z))) : wpX_clamp post z 0 60 := by
  by_cases h0 : 0 ≤ z
  · by_cases h1 : z ≤ 60
    · rw [← (tr_cv_in h0 h1).1] at K
      exact br_t h0 (br_t h1 K)
    · rw [tr_cv_hi h0 h1] at K
      exact br_t h0 (br_f h1 K)
  · rw [tr_cv_lo h0] at K
    exact br_f h0 K
/-- the lengths and the count after the towns below v -/
def tr_sh (u : Nat) (y : Int32) (L0 : Nat → Nat) : Nat → (Nat → Nat) × Nat
  | 0 => (L0, 0)
  | v + 1 => if v = u then tr_sh u y L0 v else
      (tr_pt (tr_sh u y L0 v).1 u v (tr_cv (nI ((tr_sh u y L0 v).1 (7 * u + v)) + y)),
        (tr_sh u y L0 v).2 + (if tr_cv (nI ((tr_sh u y L0 v).1 (7 * u + v)) + y) = (tr_sh u y L0 v).1 (7 * u + v) then 0 else 1))
theorem tr_sh_e {u : Nat} {y : Int32} {L0 : Nat → Nat} {v : Nat} (h : v = u) : tr_sh u y L0 (v + 1) = tr_sh u y L0 v := by
  rw [tr_sh, if_pos h]
theorem tr_sh_n {u : Nat} {y : Int32} {L0 : Nat → Nat} {v : Nat} (h : v ≠ u) : tr_sh u y L0 (v + 1) = (tr_pt (tr_sh u y L0 v).1 u v (tr_cv (nI ((tr_sh u y L0 v).1 (7 * u + v)) + y)),
        (tr_sh u y L0 v).2 + (if tr_cv (nI ((tr_sh u y L0 v).1 (7 * u + v)) + y) = (tr_sh u y L0 v).1 (7 * u + v) then 0 else 1)) := by
  rw [tr_sh, if_neg h]
theorem tr_sh_b {u : Nat} {y : Int32} {L0 : Nat → Nat} (h : ∀ j, j < 49 → L0 j ≤ 60) : ∀ v, ∀ j, j < 49 → (tr_sh u y L0 v).1 j ≤ 60 := by
  intro v
  induction v with
  | zero => exact h
  | succ v ih =>
    by_cases z : v = u
    · rw [tr_sh_e z]; exact ih
    · rw [tr_sh_n z]; exact tr_pt_b ih (tr_cv_le _)
theorem tr_sh_y {u : Nat} {y : Int32} {L0 : Nat → Nat} (hu : u < 7) (h : tr_Sy L0) : ∀ v, v ≤ 7 → tr_Sy (tr_sh u y L0 v).1 := by
  intro v
  induction v with
  | zero => intro _; exact h
  | succ v ih =>
    intro hv
    by_cases z : v = u
    · rw [tr_sh_e z]; exact ih (by omega)
    · rw [tr_sh_n z]; exact tr_pt_y (ih (by omega)) hu (by omega)
theorem tx_sf {post : Int32 → SX → Prop} {fn fb fc fs fm y : Int32} {aL aT aB aG aJ : Nat → Int32} {L : Nat → Nat} {a b : Nat} (ha : a < 7) (hb : b < 7) (hl : tr_Rp 49 aL L) (hL : ∀ j, j < 49 → L j ≤ 60)
    (K0 : tr_cv (nI (L (7 * a + b)) + y) = L (7 * a + b) → ∀ aL, tr_Rp 49 aL (tr_pt L a b (tr_cv (nI (L (7 * a + b)) + y))) → post 0 (fn, fb, fc, fs, fm, aL, aT, aB, aG, aJ))
    (K1 : tr_cv (nI (L (7 * a + b)) + y) ≠ L (7 * a + b) → ∀ aL, tr_Rp 49 aL (tr_pt L a b (tr_cv (nI (L (7 * a + b)) + y))) → post 1 (fn, fb, fc, fs, fm, aL, aT, aB, aG, aJ)) :
    wpX_shiftLength post (fn, fb, fc, fs, fm, aL, aT, aB, aG, aJ) (nI a) (nI b) y := by
  have c1 := tr_cv_le (nI (L (7 * a + b)) + y)
  have c2 := hL (7 * a + b) (by omega)
  unfold wpX_shiftLength
  dsimp only
  refine tx_lb hl (by omega) (tx_cl (tx_sl ha hb hl (fun aL' h' => ?_)))
  dsimp only
  exact pk_eq _ _ (fun e => K0 e aL' h') (fun e => K1 e aL' h')
theorem tx_sh_l {post : Int32 → SX → Prop} {fb fc fs fm y : Int32} {aT aB aG aJ : Nat → Int32} {L : Nat → Nat} {n u : Nat} (h7 : n ≤ 7) (hu : u < n) (hL : ∀ j, j < 49 → L j ≤ 60)
    (K : ∀ aL, tr_Rp 49 aL (tr_sh u y L n).1 → post (nI (tr_sh u y L n).2) (nI n, fb, fc, fs, fm, aL, aT, aB, aG, aJ)) :
    ∀ d i aL, i + d = n → tr_Rp 49 aL (tr_sh u y L i).1 → wX_shift_27 post (nI u) y (d + 1) (nI (tr_sh u y L i).2) (nI i) (nI n) fb fc fs fm aL aT aB aG aJ := by
  intro d
  induction d with
  | zero =>
    intro i aL hi hl
    obtain rfl : i = n := by omega
    exact br_t (nI_le (by omega) (by omega)) (K aL hl)
  | succ d ih =>
    intro i aL hi hl
    have nx := ih (i + 1)
    refine br_f (nI_ge (by omega) (by omega)) (pk_eq i u (fun e => nm_r (nI_1 i) ?_) (fun ne => ?_))
    · rw [tr_sh_e e] at nx
      exact nx aL (by omega) hl
    · rw [tr_sh_n ne] at nx
      refine tx_sf (by omega) (by omega) hl (tr_sh_b hL i) (fun e aL' h' => ?_) (fun e aL' h' => ?_)
      · dsimp only
        rw [if_pos e] at nx
        exact br_t rfl (nm_r (nI_1 i) (nx aL' (by omega) h'))
      · dsimp only
        rw [if_neg e] at nx
        exact br_f (by decide) (nm_r (nI_1 _) (nm_r (nI_1 i) (nx aL' (by omega) h')))
theorem ty_s85 {post : Int32 → SY → Prop} {J : Int32 → Int32 → Int32 → Int32 → (Nat → Int32) → (Nat → Int32) → (Nat → Int32) → (Nat → Int32) → Prop} {x2 fn fT : Int32} {aL aW aO aP : Nat → Int32} {L : Nat → Nat} {u i q l c : Nat} (hu : u < 7) (hi : i < 7) (hl : tr_Rp 49 aL L) (hc : c ≤ 60) (hb : l ≤ 60)
    (K : ∀ aL, tr_Rp 49 aL (tr_pt L u i c) → J (nI (q + (if c = l then 0 else 1))) (nI (i + 1)) fn fT aL aW aO aP) : wY_shift_85 post J (nI u) x2 (nI q) (nI i) (nI l) (nI c) fn fT aL aW aO aP := by
  refine pk_eq c l (fun e => ?_) (fun e => nm_r (nI_1 q) ?_)
  · rw [if_pos e] at K
    unfold wY_shift_97
    refine ty_sl hu hi hl (fun aL' h' => ?_)
    dsimp only
    exact nm_r (nI_1 i) (K aL' h')
  · rw [if_neg e] at K
    unfold wY_shift_97
    refine ty_sl hu hi hl (fun aL' h' => ?_)
    dsimp only
    exact nm_r (nI_1 i) (K aL' h')
theorem ty_sh_l {post : Int32 → SY → Prop} {fT y : Int32} {aW aO aP : Nat → Int32} {L : Nat → Nat} {n u : Nat} (h7 : n ≤ 7) (hu : u < n) (hL : ∀ j, j < 49 → L j ≤ 60)
    (K : ∀ aL, tr_Rp 49 aL (tr_sh u y L n).1 → post (nI (tr_sh u y L n).2) (nI n, fT, aL, aW, aO, aP)) :
    ∀ d i aL, i + d = n → tr_Rp 49 aL (tr_sh u y L i).1 → wY_shift_27 post (nI u) y (d + 1) (nI (tr_sh u y L i).2) (nI i) (nI n) fT aL aW aO aP := by
  intro d
  induction d with
  | zero =>
    intro i aL hi hl
    obtain rfl : i = n := by omega
    exact br_t (nI_le (by omega) (by omega)) (K aL hl)
  | succ d ih =>
    intro i aL hi hl
    have nx := ih (i + 1)
    refine br_f (nI_ge (by omega) (by omega)) (pk_eq i u (fun e => nm_r (nI_1 i) ?_) (fun ne => ?_))
    · rw [tr_sh_e e] at nx
      exact nx aL (by omega) hl
    · rw [tr_sh_n ne] at nx
      have b1 := tr_sh_b (u := u) (y := y) hL i (7 * u + i) (by omega)
      have c1 := tr_cv_le (nI ((tr_sh u y L i).1 (7 * u + i)) + y)
      have key := ty_s85 (post := post) (J := wY_shift_27 post (nI u) y (d + 1)) (x2 := y) (fn := nI n) (fT := fT) (aW := aW) (aO := aO) (aP := aP) (q := (tr_sh u y L i).2) (by omega) (by omega) hl c1 b1 (fun aL' h' => nx aL' (by omega) h')
      rw [tr_iy, nI_clamp (by omega), hl _ (by omega)]
      refine ⟨vp_in_nI (by omega) (by omega), nm_e ?_⟩
      by_cases h0 : 0 ≤ nI ((tr_sh u y L i).1 (7 * u + i)) + y
      · by_cases h1 : nI ((tr_sh u y L i).1 (7 * u + i)) + y ≤ 60
        · rw [← (tr_cv_in h0 h1).1] at key
          exact br_t h0 (br_t h1 key)
        · rw [tr_cv_hi h0 h1] at key
          exact br_t h0 (br_f h1 key)
      · rw [tr_cv_lo h0] at key
        exact br_f h0 key
def tr_rsh (n : Nat) (x y : Int32) : Prop := (x < 0 ∨ nI n ≤ x) ∨ y < -60 ∨ ¬ y ≤ 60
theorem tx_sh0 {post : Int32 → SX → Prop} {fb fc fs fm x y : Int32} {aL aT aB aG aJ : Nat → Int32} {n : Nat} (h7 : n ≤ 7) (h : tr_rsh n x y) (K : post (-1) (nI n, fb, fc, fs, fm, aL, aT, aB, aG, aJ)) : wpX_shift post (nI n, fb, fc, fs, fm, aL, aT, aB, aG, aJ) x y := by
  unfold wpX_shift
  dsimp only
  rcases tr_town x h7 with q | ⟨a, ha, rfl⟩
  · exact tx_it0 q (br_t rfl K)
  · refine tx_it1 h7 ha (br_f (by decide) ?_)
    by_cases w : y < -60
    · exact br_t w K
    · refine br_f w ?_
      rcases h with q | q | q
      · rcases q with q | q
        · exact absurd q (nI_pos (by omega))
        · exact absurd q (nI_ge ha (by omega))
      · exact absurd q w
      · exact br_f q K
theorem ty_sh0 {post : Int32 → SY → Prop} {fT x y : Int32} {aL aW aO aP : Nat → Int32} {n : Nat} (h7 : n ≤ 7) (h : tr_rsh n x y) (K : post (-1) (nI n, fT, aL, aW, aO, aP)) : wpY_shift post (nI n, fT, aL, aW, aO, aP) x y := by
  unfold wpY_shift
  dsimp only
  rcases tr_town x h7 with q | ⟨a, ha, rfl⟩
  · exact ty_it0 q (br_t rfl K)
  · refine ty_it1 h7 ha (br_f (by decide) ?_)
    by_cases w : y < -60
    · exact br_t w K
    · refine br_f w ?_
      rcases h with q | q | q
      · rcases q with q | q
        · exact absurd q (nI_pos (by omega))
        · exact absurd q (nI_ge ha (by omega))
      · exact absurd q w
      · exact br_f q K
theorem tx_sh1 {post : Int32 → SX → Prop} {fb fc fs fm y : Int32} {aL aT aB aG aJ : Nat → Int32} {L : Nat → Nat} {n u : Nat} (h7 : n ≤ 7) (hu : u < n) (hl : tr_Rp 49 aL L) (hL : ∀ j, j < 49 → L j ≤ 60) (h : ¬ tr_rsh n (nI u) y)
    (K : ∀ aL, tr_Rp 49 aL (tr_sh u y L n).1 → post (nI (tr_sh u y L n).2) (nI n, fb, fc, fs, fm, aL, aT, aB, aG, aJ)) : wpX_shift post (nI n, fb, fc, fs, fm, aL, aT, aB, aG, aJ) (nI u) y := by
  have h1 : ¬ y < -60 := fun q => h (Or.inr (Or.inl q))
  have h2 : y ≤ 60 := Classical.byContradiction (fun q => h (Or.inr (Or.inr q)))
  unfold wpX_shift
  dsimp only
  exact tx_it1 h7 hu (br_f (by decide) (br_f h1 (br_t h2 ⟨n + 1, tx_sh_l h7 hu hL K n 0 aL (by omega) hl⟩)))
theorem ty_sh1 {post : Int32 → SY → Prop} {fT y : Int32} {aL aW aO aP : Nat → Int32} {L : Nat → Nat} {n u : Nat} (h7 : n ≤ 7) (hu : u < n) (hl : tr_Rp 49 aL L) (hL : ∀ j, j < 49 → L j ≤ 60) (h : ¬ tr_rsh n (nI u) y)
    (K : ∀ aL, tr_Rp 49 aL (tr_sh u y L n).1 → post (nI (tr_sh u y L n).2) (nI n, fT, aL, aW, aO, aP)) : wpY_shift post (nI n, fT, aL, aW, aO, aP) (nI u) y := by
  have h1 : ¬ y < -60 := fun q => h (Or.inr (Or.inl q))
  have h2 : y ≤ 60 := Classical.byContradiction (fun q => h (Or.inr (Or.inr q)))
  unfold wpY_shift
  dsimp only
  exact ty_it1 h7 hu (br_f (by decide) (br_f h1 (br_t h2 ⟨n + 1, ty_sh_l h7 hu hL K n 0 aL (by omega) hl⟩)))
end
section
/-! the relation, and what is owed -/
def tr_St (n : Nat) (L : Nat → Nat) (aL aL' aW : Nat → Int32) : Prop :=
  3 ≤ n ∧ n ≤ 7 ∧ tr_Sy L ∧ (∀ j, j < 49 → L j ≤ 60) ∧ tr_Rp 49 aL L ∧ tr_Rp 49 aL' L ∧ tr_Tw n aW
/-- the same towns, the same lengths, and the reference's table of trips -/
def i_Rel (k : Nat) (u : SX) (v : SY) : Prop := ∃ (n : Nat) (L : Nat → Nat) (fb fc fs fm : Int32) (aL aT aB aG aJ aL' aW aO aP : Nat → Int32),
  u = (nI n, fb, fc, fs, fm, aL, aT, aB, aG, aJ) ∧ v = (nI n, nI (tr_T n), aL', aW, aO, aP) ∧ tr_St n L aL aL' aW
theorem tr_rel {k n : Nat} {L : Nat → Nat} {fb fc fs fm : Int32} {aL aT aB aG aJ aL' aW aO aP : Nat → Int32} (h : tr_St n L aL aL' aW) : i_Rel k (nI n, fb, fc, fs, fm, aL, aT, aB, aG, aJ) (nI n, nI (tr_T n), aL', aW, aO, aP) :=
  ⟨n, L, fb, fc, fs, fm, aL, aT, aB, aG, aJ, aL', aW, aO, aP, rfl, rfl, h⟩
theorem i_up {k : Nat} {u : SX} {v : SY} (h : i_Rel k u v) : i_Rel (k + 4) u v := h
theorem tr_v0 {n : Nat} (h3 : 3 ≤ n) (h7 : n ≤ 7) : ∃ N, wX_init_57 (fun u => ∃ M, wY_init_70 (fun v => i_Rel 1 u v) (nI n) 1 M 0 (fun _ => 0) (fun _ => 0) (fun _ => 0) (fun _ => 0)) (nI n) 0 0 0 0 N 0 (fun _ => 0) (fun _ => 0) (fun _ => 0) (fun _ => 0) (fun _ => 0) := by
  refine ⟨49 + 1, tx_i0_l (fun aL hl => ⟨49 + 1, ty_i0_l h3 h7 rfl (fun aL' aW aO hl' hW => ?_) 49 0 _ (by omega) (fun j hj => absurd hj (Nat.not_lt_zero _))⟩) 49 0 _ (by omega) (fun j hj => absurd hj (Nat.not_lt_zero _))⟩
  exact tr_rel (L := fun _ => 60) ⟨h3, h7, fun _ _ _ _ => rfl, fun _ _ => Nat.le_refl _, hl, hl', hW⟩
theorem i_vc0 (k0 : Int32) : wpX_init (fun u => wpY_init (fun v => i_Rel 1 u v) k0) k0 := by
  unfold wpX_init wpX_clamp
  by_cases h3 : 3 ≤ k0
  · by_cases h7 : k0 ≤ 7
    · obtain ⟨n, hn, rfl⟩ := nI_of2 (M := 7) (n := 7) (x := k0) (by decide) (Int32.not_lt.mpr (Int32.le_trans (by decide : (0 : Int32) ≤ 3) h3)) h7
      have n3 : 3 ≤ n := (nI_leI (a := 3) (by omega) (by omega)).mp h3
      obtain ⟨N, z⟩ := tr_v0 n3 hn
      refine br_t h3 (br_t h7 ⟨N, ?_⟩)
      have e : (fun u => wpY_init (fun v => i_Rel 1 u v) (nI n)) = (fun u => ∃ M, wY_init_70 (fun v => i_Rel 1 u v) (nI n) 1 M 0 (fun _ => 0) (fun _ => 0) (fun _ => 0) (fun _ => 0)) := by
        funext u
        unfold wpY_init
        exact propext ⟨fun q => (q.1 h3).1 h7, fun q => br_t h3 (br_t h7 q)⟩
      rw [e]
      exact z
    · obtain ⟨N, z⟩ := tr_v0 (n := 7) (by decide) (by decide)
      refine br_t h3 (br_f h7 ⟨N, ?_⟩)
      have e : (fun u => wpY_init (fun v => i_Rel 1 u v) k0) = (fun u => ∃ M, wY_init_70 (fun v => i_Rel 1 u v) (nI 7) 1 M 0 (fun _ => 0) (fun _ => 0) (fun _ => 0) (fun _ => 0)) := by
        funext u
        unfold wpY_init
        exact propext ⟨fun q => (q.1 h3).2 h7, fun q => br_t h3 (br_f h7 q)⟩
      rw [e]
      exact z
  · obtain ⟨N, z⟩ := tr_v0 (n := 3) (by decide) (by decide)
    refine br_f h3 ⟨N, ?_⟩
    have e : (fun u => wpY_init (fun v => i_Rel 1 u v) k0) = (fun u => ∃ M, wY_init_70 (fun v => i_Rel 1 u v) (nI 3) 1 M 0 (fun _ => 0) (fun _ => 0) (fun _ => 0) (fun _ => 0)) := by
      funext u
      unfold wpY_init
      exact propext ⟨fun q => q.2 h3, fun q => br_f h3 q⟩
    rw [e]
    exact z
theorem i_vc_road {k : Nat} {u : SX} {v : SY} (I : i_Rel k u v) (hk : k + 4 ≤ 2049) (v1 : Int32) (v2 : Int32) (v3 : Int32) : wpX_road (fun r u' => wpY_road (fun r' v' => r' = r ∧ i_Rel (k + 4) u' v') v v1 v2 v3) u v1 v2 v3 := by
  obtain ⟨n, L, fb, fc, fs, fm, aL, aT, aB, aG, aJ, aL', aW, aO, aP, rfl, rfl, h⟩ := I
  have h' := h
  obtain ⟨h3, h7, sy, hL, hl, hl', hW⟩ := h'
  by_cases q : tr_ref n v1 v2 v3
  · exact tx_rd0 h7 q (ty_rd0 h7 q ⟨rfl, tr_rel h⟩)
  · obtain ⟨a, b, c, ha, hb, hab, hc, rfl, rfl, rfl⟩ := tr_ref_n q
    exact tx_rd1 h7 ha hb hab hc hl (fun bL e => ty_rd1 h7 ha hb hab hc hl' (fun bL' e' => ⟨rfl, tr_rel ⟨h3, h7, tr_pt_y sy (by omega) (by omega), tr_pt_b hL hc, e, e', hW⟩⟩))
theorem tr_any {n : Nat} (h3 : 3 ≤ n) (h7 : n ≤ 7) : ∃ t, t < tr_T n ∧ tr_Q n 0 0 0 t := ⟨0, (tr_T_b h3 h7).1, Or.inl rfl⟩
/-- X's best of all trips is Y's -/
theorem tr_same {L : Nat → Nat} {n b c f : Nat} {F : Nat → Prop} (h3 : 3 ≤ n) (h7 : n ≤ 7) (B : tr_BX (tr_ln L n) (tr_Q n 0 0 0) (tr_T n) b c F) (hf : f < tr_T n) (h1 : ∀ t, t < tr_T n → tr_ln L n f ≤ tr_ln L n t) (h2 : ∀ t, t < f → tr_ln L n f < tr_ln L n t) :
    tr_ln L n f = b ∧ F f ∧ tr_cp (fun t => tr_ln L n t = tr_ln L n f) (tr_T n) = c := by
  obtain ⟨i1, i2, i3, g, hg, qg, eg, fg, Fg⟩ := tr_BX_x B (tr_any h3 h7)
  have a1 := i1 f hf (Or.inl rfl)
  have a2 := h1 g hg
  have e : tr_ln L n f = b := by omega
  have fge : f = g := by
    apply Classical.byContradiction
    intro ne
    by_cases lt : f < g
    · have := fg f lt (Or.inl rfl)
      omega
    · have := h2 g (by omega)
      omega
  refine ⟨e, by rw [fge]; exact Fg, ?_⟩
  rw [i2, e]
  exact tr_cp_congr _ (fun t _ => ⟨fun q => ⟨Or.inl rfl, q⟩, fun q => q.2⟩)
theorem i_vc_shortest {k : Nat} {u : SX} {v : SY} (I : i_Rel k u v) (hk : k + 4 ≤ 2049) : wpX_shortest (fun r u' => wpY_shortest (fun r' => r' = r ∧ i_Rel (k + 4) u' v) v) u := by
  obtain ⟨n, L, fb, fc, fs, fm, aL, aT, aB, aG, aJ, aL', aW, aO, aP, rfl, rfl, h⟩ := I
  have h' := h
  obtain ⟨h3, h7, sy, hL, hl, hl', hW⟩ := h'
  unfold wpX_shortest
  dsimp only
  refine tx_find (kd := 0) (u := 0) (v := 0) h3 h7 hl hL (by decide) (by decide) (by decide) (fun b c aT' aB' hb B => ?_)
  dsimp only
  exact ty_sh h3 h7 hl' hL hW (fun f hf h1 h2 => ⟨by rw [(tr_same h3 h7 B hf h1 h2).1], tr_rel h⟩)
theorem i_vc_town {k : Nat} {u : SX} {v : SY} (I : i_Rel k u v) (hk : k + 4 ≤ 2049) (v1 : Int32) : wpX_town (fun r u' => wpY_town (fun r' => r' = r ∧ i_Rel (k + 4) u' v) v v1) u v1 := by
  obtain ⟨n, L, fb, fc, fs, fm, aL, aT, aB, aG, aJ, aL', aW, aO, aP, rfl, rfl, h⟩ := I
  have h' := h
  obtain ⟨h3, h7, sy, hL, hl, hl', hW⟩ := h'
  unfold wpX_town
  dsimp only
  rcases tr_town v1 h7 with q | ⟨a, ha, rfl⟩
  · refine tx_it0 q (br_t rfl ?_)
    unfold wpY_town
    dsimp only
    exact ty_it0 q (br_t rfl ⟨rfl, tr_rel h⟩)
  · refine tx_it1 h7 ha (br_f (by decide) (tx_find (kd := 0) (u := 0) (v := 0) h3 h7 hl hL (by decide) (by decide) (by decide) (fun b c aT' aB' hb B => ?_)))
    dsimp only
    refine ⟨vp_in_nI (by omega) (by omega), ?_⟩
    unfold wpY_town
    dsimp only
    refine ty_it1 h7 ha (br_f (by decide) (ty_bs h3 h7 hl' hL hW (fun f hf h1 h2 => ty_pk h3 h7 hW hf ha ⟨?_, tr_rel h⟩)))
    rw [nI_clamp (by omega), (tr_same h3 h7 B hf h1 h2).2.1 a ha]
theorem i_vc_trips {k : Nat} {u : SX} {v : SY} (I : i_Rel k u v) (hk : k + 4 ≤ 2049) : wpX_trips (fun r u' => wpY_trips (fun r' => r' = r ∧ i_Rel (k + 4) u' v) v) u := by
  obtain ⟨n, L, fb, fc, fs, fm, aL, aT, aB, aG, aJ, aL', aW, aO, aP, rfl, rfl, h⟩ := I
  have h' := h
  obtain ⟨h3, h7, sy, hL, hl, hl', hW⟩ := h'
  unfold wpX_trips
  dsimp only
  refine tx_find (kd := 0) (u := 0) (v := 0) h3 h7 hl hL (by decide) (by decide) (by decide) (fun b c aT' aB' hb B => ?_)
  dsimp only
  exact ty_tr h3 h7 hl' hL hW (fun f hf h1 h2 => ⟨by rw [(tr_same h3 h7 B hf h1 h2).2.2], tr_rel h⟩)
/-- X's best of a kind is Y's least of that kind -/
theorem tr_least {ln : Nat → Nat} {Q : Nat → Prop} {T b c : Nat} {F : Nat → Prop} {x : Int32} (B : tr_BX ln Q T b c F) (Y : tr_YL ln Q T x) (h : ∃ t, t < T ∧ Q t) : x = nI b := by
  obtain ⟨i1, i2, i3, g, hg, qg, eg, fg, Fg⟩ := tr_BX_x B h
  rcases Y with ⟨e, q⟩ | ⟨b', e, hb, ⟨t, ht, q1, q2⟩, q⟩
  · exact absurd qg (q g hg)
  · have a1 := i1 t ht q1
    have a2 := q g hg qg
    rw [e, show b' = b by omega]
theorem tr_Q1 {n u v : Nat} : ∀ t, tr_Q n 1 u v t ↔ tr_us (tr_R n t) n u v := by
  intro t
  refine ⟨fun q => ?_, fun q => Or.inr (Or.inl ⟨rfl, q⟩)⟩
  rcases q with q | q | q
  · omega
  · exact q.2
  · omega
theorem tr_Q2 {n u v : Nat} : ∀ t, tr_Q n 2 u v t ↔ ¬ tr_us (tr_R n t) n u v := by
  intro t
  refine ⟨fun q => ?_, fun q => Or.inr (Or.inr ⟨rfl, q⟩)⟩
  rcases q with q | q | q
  · omega
  · omega
  · exact q.2
theorem i_vc_using {k : Nat} {u : SX} {v : SY} (I : i_Rel k u v) (hk : k + 4 ≤ 2049) (v1 : Int32) (v2 : Int32) : wpX_using (fun r u' => wpY_using (fun r' => r' = r ∧ i_Rel (k + 4) u' v) v v1 v2) u v1 v2 := by
  obtain ⟨n, L, fb, fc, fs, fm, aL, aT, aB, aG, aJ, aL', aW, aO, aP, rfl, rfl, h⟩ := I
  have h' := h
  obtain ⟨h3, h7, sy, hL, hl, hl', hW⟩ := h'
  unfold wpX_using
  dsimp only
  by_cases p : tr_pair n v1 v2
  · obtain ⟨a, b, ha, hb, hab, rfl, rfl⟩ := p
    have ex := (tr_R_u h3 h7 ha hb hab).1
    refine tx_ip1 h7 ha hb hab (br_f (by decide) (tx_find (kd := 1) h3 h7 hl hL (by decide) (by omega) (by omega) (fun bl c aT' aB' _ B => ?_)))
    dsimp only
    unfold wpY_using
    dsimp only
    refine ty_ip1 h7 ha hb hab (br_f (by decide) (ty_lt (w := 1) (Q := tr_Q n 1 a b) h3 h7 hl' hL hW (by omega) (by omega) (by decide) (fun _ => tr_Q1) (fun z => by omega) (fun x Y => ⟨?_, tr_rel h⟩)))
    exact tr_least B Y (ex.elim (fun t ht => ⟨t, ht.1, (tr_Q1 t).mpr ht.2⟩))
  · refine tx_ip0 h7 p (br_t rfl ?_)
    unfold wpY_using
    dsimp only
    exact ty_ip0 h7 p (br_t rfl ⟨rfl, tr_rel h⟩)
theorem i_vc_avoiding {k : Nat} {u : SX} {v : SY} (I : i_Rel k u v) (hk : k + 4 ≤ 2049) (v1 : Int32) (v2 : Int32) : wpX_avoiding (fun r u' => wpY_avoiding (fun r' => r' = r ∧ i_Rel (k + 4) u' v) v v1 v2) u v1 v2 := by
  obtain ⟨n, L, fb, fc, fs, fm, aL, aT, aB, aG, aJ, aL', aW, aO, aP, rfl, rfl, h⟩ := I
  have h' := h
  obtain ⟨h3, h7, sy, hL, hl, hl', hW⟩ := h'
  unfold wpX_avoiding
  dsimp only
  by_cases p : tr_pair n v1 v2
  · obtain ⟨a, b, ha, hb, hab, rfl, rfl⟩ := p
    refine tx_ip1 h7 ha hb hab (br_f (by decide) (pk_eq n 3 (fun e => ?_) (fun ne => ?_)))
    · unfold wpY_avoiding
      dsimp only
      exact ty_ip1 h7 ha hb hab (br_f (by decide) (br_t (nI_le (b := 3) (by omega) (by decide)) ⟨rfl, tr_rel h⟩))
    · have ex := (tr_R_u h3 h7 ha hb hab).2 ne
      refine tx_find (kd := 2) h3 h7 hl hL (by decide) (by omega) (by omega) (fun bl c aT' aB' _ B => ?_)
      dsimp only
      unfold wpY_avoiding
      dsimp only
      refine ty_ip1 h7 ha hb hab (br_f (by decide) (br_f (nI_ge (a := 3) (by omega) (by omega)) (ty_lt (w := 0) (Q := tr_Q n 2 a b) h3 h7 hl' hL hW (by omega) (by omega) (by decide) (fun z => by omega) (fun _ => tr_Q2) (fun x Y => ⟨?_, tr_rel h⟩))))
      exact tr_least B Y (ex.elim (fun t ht => ⟨t, ht.1, (tr_Q2 t).mpr ht.2⟩))
  · refine tx_ip0 h7 p (br_t rfl ?_)
    unfold wpY_avoiding
    dsimp only
    exact ty_ip0 h7 p (br_t rfl ⟨rfl, tr_rel h⟩)
theorem i_vc_walk {k : Nat} {u : SX} {v : SY} (I : i_Rel k u v) (hk : k + 4 ≤ 2049) (v1 : Int32) (v2 : Int32) : wpX_walk (fun r u' => wpY_walk (fun r' => r' = r ∧ i_Rel (k + 4) u' v) v v1 v2) u v1 v2 := by
  obtain ⟨n, L, fb, fc, fs, fm, aL, aT, aB, aG, aJ, aL', aW, aO, aP, rfl, rfl, h⟩ := I
  have h' := h
  obtain ⟨h3, h7, sy, hL, hl, hl', hW⟩ := h'
  unfold wpX_walk
  dsimp only
  by_cases p : tr_pair n v1 v2
  · obtain ⟨a, b, ha, hb, hab, rfl, rfl⟩ := p
    have ex := (tr_R_u h3 h7 ha hb hab).1
    refine tx_ip1 h7 ha hb hab (br_f (by decide) (tx_find (kd := 1) h3 h7 hl hL (by decide) (by omega) (by omega) (fun bl c aT' aB' _ B => ?_)))
    dsimp only
    refine tx_lb hl (by omega) ?_
    unfold wpY_walk
    dsimp only
    refine ty_ip1 h7 ha hb hab (br_f (by decide) (ty_lt (w := 1) (Q := tr_Q n 1 a b) h3 h7 hl' hL hW (by omega) (by omega) (by decide) (fun _ => tr_Q1) (fun z => by omega) (fun x Y => ?_)))
    rw [tr_iy, nI_clamp (by omega), hl' _ (by omega), tr_least B Y (ex.elim (fun t ht => ⟨t, ht.1, (tr_Q1 t).mpr ht.2⟩))]
    exact ⟨vp_in_nI (by omega) (by omega), rfl, tr_rel h⟩
  · refine tx_ip0 h7 p (br_t rfl ?_)
    unfold wpY_walk
    dsimp only
    exact ty_ip0 h7 p (br_t rfl ⟨rfl, tr_rel h⟩)
theorem i_vc_reach {k : Nat} {u : SX} {v : SY} (I : i_Rel k u v) (hk : k + 4 ≤ 2049) : wpX_reach (fun r u' => wpY_reach (fun r' v' => r' = r ∧ i_Rel (k + 4) u' v') v) u := by
  obtain ⟨n, L, fb, fc, fs, fm, aL, aT, aB, aG, aJ, aL', aW, aO, aP, rfl, rfl, h⟩ := I
  have h' := h
  obtain ⟨h3, h7, sy, hL, hl, hl', hW⟩ := h'
  unfold wpX_reach
  dsimp only
  refine tx_grow h3 h7 sy hl hL (fun s m aG' aJ' e1 e2 e3 => ?_)
  dsimp only
  exact ty_re h7 sy hl' hL e2 e3 (fun aP' => ⟨rfl, tr_rel h⟩)
theorem i_vc_net {k : Nat} {u : SX} {v : SY} (I : i_Rel k u v) (hk : k + 4 ≤ 2049) : wpX_net (fun r u' => wpY_net (fun r' v' => r' = r ∧ i_Rel (k + 4) u' v') v) u := by
  obtain ⟨n, L, fb, fc, fs, fm, aL, aT, aB, aG, aJ, aL', aW, aO, aP, rfl, rfl, h⟩ := I
  have h' := h
  obtain ⟨h3, h7, sy, hL, hl, hl', hW⟩ := h'
  unfold wpX_net
  dsimp only
  refine tx_grow h3 h7 sy hl hL (fun s m aG' aJ' e1 e2 e3 => ?_)
  dsimp only
  exact ty_nt h3 h7 sy hl' hL (fun aP' => ⟨by rw [e1], tr_rel h⟩)
theorem i_vc_shift {k : Nat} {u : SX} {v : SY} (I : i_Rel k u v) (hk : k + 4 ≤ 2049) (v1 : Int32) (v2 : Int32) : wpX_shift (fun r u' => wpY_shift (fun r' v' => r' = r ∧ i_Rel (k + 4) u' v') v v1 v2) u v1 v2 := by
  obtain ⟨n, L, fb, fc, fs, fm, aL, aT, aB, aG, aJ, aL', aW, aO, aP, rfl, rfl, h⟩ := I
  have h' := h
  obtain ⟨h3, h7, sy, hL, hl, hl', hW⟩ := h'
  by_cases q : tr_rsh n v1 v2
  · exact tx_sh0 h7 q (ty_sh0 h7 q ⟨rfl, tr_rel h⟩)
  · rcases tr_town v1 h7 with z | ⟨a, ha, rfl⟩
    · exact absurd (Or.inl z) q
    · exact tx_sh1 h7 ha hl hL q (fun bL e => ty_sh1 h7 ha hl' hL q (fun bL' e' => ⟨rfl, tr_rel ⟨h3, h7, tr_sh_y (by omega) sy n h7, tr_sh_b hL n, e, e', hW⟩⟩))
end
