/-! towns that can be come to, the least of them, and labels that spread in rounds -/
def tr_cl (E : Nat → Nat → Prop) (S : Nat → Prop) : Prop := ∀ a b, S a → E a b → S b
def tr_cn (E : Nat → Nat → Prop) (a b : Nat) : Prop := ∀ S : Nat → Prop, tr_cl E S → S a → S b
theorem tr_cn_r {E : Nat → Nat → Prop} (a : Nat) : tr_cn E a a := fun _ _ h => h
theorem tr_cn_s {E : Nat → Nat → Prop} {a b c : Nat} (h : tr_cn E a b) (e : E b c) : tr_cn E a c := fun S hS ha => hS b c (h S hS ha) e
theorem tr_cn_t {E : Nat → Nat → Prop} {a b c : Nat} (h : tr_cn E a b) (e : tr_cn E b c) : tr_cn E a c := fun S hS ha => e S hS (h S hS ha)
theorem tr_cn_c {E : Nat → Nat → Prop} (a : Nat) : tr_cl E (tr_cn E a) := fun _ _ h e => tr_cn_s h e
theorem tr_cn_y {E : Nat → Nat → Prop} (sy : ∀ a b, E a b → E b a) {a b : Nat} (h : tr_cn E a b) : tr_cn E b a := by
  apply h (fun x => tr_cn E x a)
  · intro x y hx e
    exact tr_cn_t (tr_cn_s (tr_cn_r y) (sy x y e)) hx
  · exact tr_cn_r a
/-- the least town that can be come to -/
noncomputable def tr_lb (E : Nat → Nat → Prop) (u : Nat) : Nat := Classical.choose (pk_least (tr_cn E u) ⟨u, tr_cn_r u⟩)
theorem tr_lb_c (E : Nat → Nat → Prop) (u : Nat) : tr_cn E u (tr_lb E u) := (Classical.choose_spec (pk_least (tr_cn E u) ⟨u, tr_cn_r u⟩)).1
theorem tr_lb_m {E : Nat → Nat → Prop} {u j : Nat} (h : tr_cn E u j) : tr_lb E u ≤ j := by
  have z := (Classical.choose_spec (pk_least (tr_cn E u) ⟨u, tr_cn_r u⟩)).2 j
  have z2 : ¬ j < tr_lb E u := fun q => z q h
  omega
theorem tr_lb_le (E : Nat → Nat → Prop) (u : Nat) : tr_lb E u ≤ u := tr_lb_m (tr_cn_r u)
theorem tr_lb_eq {E : Nat → Nat → Prop} (sy : ∀ a b, E a b → E b a) {a b : Nat} (h : tr_cn E a b) : tr_lb E a = tr_lb E b := by
  have h1 : tr_lb E a ≤ tr_lb E b := tr_lb_m (tr_cn_t h (tr_lb_c E b))
  have h2 : tr_lb E b ≤ tr_lb E a := tr_lb_m (tr_cn_t (tr_cn_y sy h) (tr_lb_c E a))
  omega
theorem tr_lb_lb {E : Nat → Nat → Prop} (sy : ∀ a b, E a b → E b a) (u : Nat) : tr_lb E (tr_lb E u) = tr_lb E u := (tr_lb_eq sy (tr_lb_c E u)).symm
theorem tr_lb_S {E : Nat → Nat → Prop} (sy : ∀ a b, E a b → E b a) {S : Nat → Prop} (hS : tr_cl E S) (u : Nat) : S u ↔ S (tr_lb E u) :=
  ⟨fun h => tr_lb_c E u S hS h, fun h => tr_cn_y sy (tr_lb_c E u) S hS h⟩
/-- labels that never leave what can be come to -/
def tr_so (E : Nat → Nat → Prop) (p : Nat → Nat) : Prop := ∀ u, tr_cn E u (p u)
theorem tr_so_0 (E : Nat → Nat → Prop) : tr_so E (fun u => u) := fun u => tr_cn_r u
theorem tr_so_u {E : Nat → Nat → Prop} {p p' : Nat → Nat} {u v : Nat} (h : tr_so E p) (e : E u v) (hp : ∀ x, p' x = if x = u then p v else p x) : tr_so E p' := by
  intro x
  rw [hp x]
  by_cases z : x = u
  · rw [if_pos z, z]
    exact tr_cn_t (tr_cn_s (tr_cn_r u) e) (h v)
  · rw [if_neg z]
    exact h x
/-- after r rounds -/
def tr_Iv (E : Nat → Nat → Prop) (n r : Nat) (p : Nat → Nat) : Prop :=
  (∀ u, p u ≤ u) ∧ tr_so E p ∧ ∀ m, tr_lb E m = m → (∀ u, tr_cn E m u → p u = m) ∨ (r + 1 ≤ tr_cp (fun u => tr_cn E m u ∧ p u = m) n) ∨ n ≤ m
theorem tr_Iv_0 (E : Nat → Nat → Prop) (n : Nat) : tr_Iv E n 0 (fun u => u) := by
  refine ⟨fun u => Nat.le_refl _, tr_so_0 E, fun m hm => ?_⟩
  by_cases z : n ≤ m
  · exact Or.inr (Or.inr z)
  · exact Or.inr (Or.inl (tr_cp_pos m ⟨tr_cn_r m, rfl⟩ n (by omega)))
theorem tr_Iv_s {E : Nat → Nat → Prop} {n : Nat} (hn : ∀ a b, E a b → b < n) {r : Nat} {p p' : Nat → Nat} (I : tr_Iv E n r p) (hs : tr_so E p') (h1 : ∀ u, p' u ≤ p u) (h2 : ∀ b a, E b a → p' b ≤ p a) (sy : ∀ a b, E a b → E b a) : tr_Iv E n (r + 1) p' := by
  obtain ⟨i1, i2, i3⟩ := I
  refine ⟨fun u => Nat.le_trans (h1 u) (i1 u), hs, fun m hm => ?_⟩
  have low : ∀ (q : Nat → Nat), tr_so E q → ∀ u, tr_cn E m u → m ≤ q u := by
    intro q hq u hu
    have := tr_lb_m (tr_cn_t hu (hq u))
    omega
  by_cases al : ∀ u, tr_cn E m u → p u = m
  · left
    intro u hu
    have a := low p' hs u hu
    have b := h1 u
    rw [al u hu] at b
    omega
  · rcases i3 m hm with z | z | z
    · exact absurd z al
    · right; left
      have ex : ∃ a b, (tr_cn E m a ∧ p a = m) ∧ E a b ∧ p b ≠ m := by
        apply Classical.byContradiction
        intro no
        apply al
        intro u hu
        refine (hu (fun x => tr_cn E m x ∧ p x = m) ?_ ⟨tr_cn_r m, ?_⟩).2
        · intro a b ha e
          refine ⟨tr_cn_s ha.1 e, ?_⟩
          apply Classical.byContradiction
          intro q
          exact no ⟨a, b, ha, e, q⟩
        · have a := low p i2 m (tr_cn_r m)
          have b := i1 m
          omega
      obtain ⟨a, b, ⟨ca, pa⟩, e, pb⟩ := ex
      have cb : tr_cn E m b := tr_cn_s ca e
      have pb' : p' b = m := by
        have x := low p' hs b cb
        have y := h2 b a (sy a b e)
        omega
      have lt := tr_cp_lt (P := fun u => tr_cn E m u ∧ p u = m) (Q := fun u => tr_cn E m u ∧ p' u = m) b ⟨cb, pb'⟩ (fun q => pb q.2) n (fun u _ hu => ⟨hu.1, by
        have x := low p' hs u hu.1
        have y := h1 u
        have z := hu.2
        omega⟩) (hn a b e)
      omega
    · exact Or.inr (Or.inr z)
theorem tr_Iv_n {E : Nat → Nat → Prop} {n : Nat} {p : Nat → Nat} (sy : ∀ a b, E a b → E b a) (I : tr_Iv E n n p) : ∀ u, u < n → p u = tr_lb E u := by
  intro u hu
  have le := tr_lb_le E u
  rcases I.2.2 (tr_lb E u) (tr_lb_lb sy u) with z | z | z
  · exact z u (tr_cn_y sy (tr_lb_c E u))
  · have := tr_cp_le (fun x => tr_cn E (tr_lb E u) x ∧ p x = tr_lb E u) n
    omega
  · omega
/-- the labels seen in J -/
noncomputable def tr_D (E : Nat → Nat → Prop) (n : Nat) (J : Nat → Prop) : Nat := tr_cp (fun m => ∃ u, J u ∧ tr_lb E u = m) n
/-- the number of parts -/
noncomputable def tr_C (E : Nat → Nat → Prop) (n : Nat) : Nat := tr_cp (fun u => tr_lb E u = u) n
theorem tr_D_all {E : Nat → Nat → Prop} (sy : ∀ a b, E a b → E b a) {n : Nat} {J : Nat → Prop} (h : ∀ u, u < n → J u) : tr_D E n J = tr_C E n := by
  refine tr_cp_congr n (fun m hm => ⟨?_, fun q => ⟨m, h m hm, q⟩⟩)
  rintro ⟨u, _, e⟩
  rw [← e]
  exact tr_lb_lb sy u
theorem tr_D_one {E : Nat → Nat → Prop} {n : Nat} (hn : 0 < n) {J : Nat → Prop} (h : ∀ u, J u ↔ u = 0) : tr_D E n J = 1 := by
  have z : tr_lb E 0 = 0 := Nat.le_zero.mp (tr_lb_le E 0)
  have a := tr_cp_add (P := fun _ => False) (Q := fun m => ∃ u, J u ∧ tr_lb E u = m) 0 (fun q => q) n (fun m _ => ⟨fun ⟨u, hu, e⟩ => Or.inr (by
    have := (h u).mp hu
    subst this
    omega), fun q => by
    rcases q with q | q
    · exact absurd q (fun q => q)
    · exact ⟨0, (h 0).mpr rfl, by omega⟩⟩) hn
  rw [tr_cp_none n (fun m _ q => q)] at a
  exact a
theorem tr_D_pos {E : Nat → Nat → Prop} {n : Nat} {J : Nat → Prop} {a : Nat} (ha : J a) (hn : a < n) : 1 ≤ tr_D E n J :=
  tr_cp_pos (tr_lb E a) ⟨a, ha, rfl⟩ n (Nat.lt_of_le_of_lt (tr_lb_le E a) hn)
theorem tr_D_same {E : Nat → Nat → Prop} (sy : ∀ a b, E a b → E b a) {n v u0 : Nat} {J J' : Nat → Prop} (hJ : ∀ u, J' u ↔ (J u ∨ u = v)) (hu : J u0) (e : E u0 v) : tr_D E n J' = tr_D E n J := by
  refine tr_cp_congr n (fun m _ => ⟨?_, fun ⟨u, hu, q⟩ => ⟨u, (hJ u).mpr (Or.inl hu), q⟩⟩)
  rintro ⟨u, hj, q⟩
  rcases (hJ u).mp hj with z | z
  · exact ⟨u, z, q⟩
  · refine ⟨u0, hu, ?_⟩
    rw [← q, z]
    exact tr_lb_eq sy (tr_cn_s (tr_cn_r u0) e)
theorem tr_D_new {E : Nat → Nat → Prop} (sy : ∀ a b, E a b → E b a) {n v : Nat} {J J' : Nat → Prop} (hJ : ∀ u, J' u ↔ (J u ∨ u = v)) (hv : ¬ J v) (hn : v < n) (c : tr_cl E J) : tr_D E n J' = tr_D E n J + 1 := by
  refine tr_cp_add (tr_lb E v) ?_ n (fun m _ => ⟨?_, ?_⟩) (Nat.lt_of_le_of_lt (tr_lb_le E v) hn)
  · rintro ⟨u, hu, q⟩
    have a := (tr_lb_S sy c u).mp hu
    rw [q] at a
    exact hv ((tr_lb_S sy c v).mpr a)
  · rintro ⟨u, hu, q⟩
    rcases (hJ u).mp hu with z | z
    · exact Or.inl ⟨u, z, q⟩
    · exact Or.inr (by rw [← q, z])
  · intro h
    rcases h with ⟨u, hu, q⟩ | z
    · exact ⟨u, (hJ u).mpr (Or.inl hu), q⟩
    · exact ⟨v, (hJ v).mpr (Or.inr rfl), z.symm⟩
/-! pairs of towns whose length is at most k -/
def tr_E (L : Nat → Nat) (n k a b : Nat) : Prop := a < n ∧ b < n ∧ a ≠ b ∧ L (7 * a + b) ≤ k
def tr_Sy (L : Nat → Nat) : Prop := ∀ a b, a < 7 → b < 7 → L (7 * a + b) = L (7 * b + a)
theorem tr_E_y {L : Nat → Nat} {n : Nat} (h : tr_Sy L) (hn : n ≤ 7) (k : Nat) : ∀ a b, tr_E L n k a b → tr_E L n k b a := by
  rintro a b ⟨h1, h2, h3, h4⟩
  exact ⟨h2, h1, fun q => h3 q.symm, by rw [h b a (by omega) (by omega)]; exact h4⟩
/-- the sum of the net and its longest pair, as far as the towns in J are joined -/
def tr_Nt (L : Nat → Nat) (n : Nat) (J : Nat → Prop) (s m : Nat) : Prop :=
  s = tr_sm (fun k => tr_D (tr_E L n k) n J - 1) 60 ∧ (∀ k, tr_D (tr_E L n k) n J = 1 ↔ m ≤ k) ∧ m ≤ 60
theorem tr_Nt_0 {L : Nat → Nat} {n : Nat} (hn : 0 < n) {J : Nat → Prop} (h : ∀ u, J u ↔ u = 0) : tr_Nt L n J 0 0 := by
  refine ⟨?_, fun k => ⟨fun _ => Nat.zero_le _, fun _ => tr_D_one hn h⟩, by omega⟩
  rw [tr_sm_zero]
  intro k
  show tr_D _ n J - 1 = 0
  rw [tr_D_one hn h]
theorem tr_Nt_s {L : Nat → Nat} {n : Nat} (sy : tr_Sy L) (hn : n ≤ 7) {J J' : Nat → Prop} {s m v w : Nat} (I : tr_Nt L n J s m)
    (hJ : ∀ u, J' u ↔ (J u ∨ u = v)) (hv : ¬ J v) (hvn : v < n) (hJn : ∀ u, J u → u < n) (h0 : J 0)
    (hw : ∃ u, J u ∧ L (7 * u + v) = w) (hm : ∀ a b, J a → ¬ J b → b < n → w ≤ L (7 * a + b)) (h60 : w ≤ 60) :
    tr_Nt L n J' (s + w) (if m < w then w else m) := by
  have st : ∀ k, tr_D (tr_E L n k) n J' = tr_D (tr_E L n k) n J + (if k < w then 1 else 0) := by
    intro k
    have y := tr_E_y sy hn k
    by_cases z : k < w
    · rw [if_pos z]
      refine tr_D_new y hJ hv hvn ?_
      intro a b ha e
      apply Classical.byContradiction
      intro q
      have := hm a b ha q e.2.1
      have := e.2.2.2
      omega
    · rw [if_neg z]
      obtain ⟨u, hu, e⟩ := hw
      exact tr_D_same y hJ hu ⟨hJn u hu, hvn, fun q => hv (q ▸ hu), by omega⟩
  have ps : ∀ k, 1 ≤ tr_D (tr_E L n k) n J := fun k => tr_D_pos h0 (hJn 0 h0)
  obtain ⟨i1, i2, i3⟩ := I
  refine ⟨?_, fun k => ?_, by split <;> omega⟩
  · rw [tr_sm_add (g := fun k => tr_D (tr_E L n k) n J - 1) (w := w) (fun k => ?_) 60, ← i1, if_pos h60]
    show tr_D (tr_E L n k) n J' - 1 = tr_D (tr_E L n k) n J - 1 + _
    have := ps k
    rw [st k]
    omega
  · rw [st k]
    have p := ps k
    have q := i2 k
    by_cases z : k < w
    · rw [if_pos z]
      constructor
      · intro h; omega
      · intro h
        split at h <;> omega
    · rw [if_neg z, Nat.add_zero, q]
      split <;> omega
/-- the answers: parts for each k -/
noncomputable def tr_P (L : Nat → Nat) (n k : Nat) : Nat := tr_C (tr_E L n k) n
theorem tr_Nt_e {L : Nat → Nat} {n : Nat} (sy : tr_Sy L) (hn : n ≤ 7) {J : Nat → Prop} {s m : Nat} (I : tr_Nt L n J s m) (h : ∀ u, u < n → J u) :
    s = tr_sm (fun k => tr_P L n k - 1) 60 ∧ (∀ k, tr_P L n k = 1 ↔ m ≤ k) ∧ m ≤ 60 := by
  have e : ∀ k, tr_D (tr_E L n k) n J = tr_P L n k := fun k => tr_D_all (tr_E_y sy hn k) h
  obtain ⟨i1, i2, i3⟩ := I
  refine ⟨?_, fun k => ?_, i3⟩
  · rw [i1]
    exact tr_sm_congr 60 (fun k _ => by rw [e k])
  · rw [← e k]
    exact i2 k
