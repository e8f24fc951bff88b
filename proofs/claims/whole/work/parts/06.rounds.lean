/-! one round of the labels, pair by pair -/
def tr_Rd (L : Nat → Nat) (n k : Nat) (p0 p : Nat → Nat) (uv : Nat) : Prop :=
  tr_so (tr_E L n k) p ∧ (∀ x, p x ≤ p0 x) ∧ ∀ b a, tr_E L n k b a → 7 * b + a < uv → p b ≤ p0 a
theorem tr_Rd_0 {L : Nat → Nat} {n k : Nat} {p0 : Nat → Nat} (h : tr_so (tr_E L n k) p0) : tr_Rd L n k p0 p0 0 :=
  ⟨h, fun _ => Nat.le_refl _, fun _ _ _ h => absurd h (Nat.not_lt_zero _)⟩
theorem tr_Rd_k {L : Nat → Nat} {n k : Nat} {p0 p : Nat → Nat} {u v : Nat} (h7 : n ≤ 7) (hv : v < 7) (I : tr_Rd L n k p0 p (7 * u + v)) (h : tr_E L n k u v → p u ≤ p v) : tr_Rd L n k p0 p (7 * u + v + 1) := by
  obtain ⟨i1, i2, i3⟩ := I
  refine ⟨i1, i2, fun b a e hb => ?_⟩
  have ha := e.2.1
  by_cases z : 7 * b + a < 7 * u + v
  · exact i3 b a e z
  · have e1 : b = u := by omega
    have e2 : a = v := by omega
    subst e1 e2
    exact Nat.le_trans (h e) (i2 _)
theorem tr_Rd_u {L : Nat → Nat} {n k : Nat} {p0 p p' : Nat → Nat} {u v : Nat} (h7 : n ≤ 7) (hv : v < 7) (I : tr_Rd L n k p0 p (7 * u + v)) (e : tr_E L n k u v) (h : p v < p u) (hp : ∀ x, p' x = if x = u then p v else p x) : tr_Rd L n k p0 p' (7 * u + v + 1) := by
  obtain ⟨i1, i2, i3⟩ := I
  have le : ∀ x, p' x ≤ p x := by
    intro x
    rw [hp x]
    by_cases z : x = u
    · rw [if_pos z, z]; omega
    · rw [if_neg z]; exact Nat.le_refl _
  refine ⟨tr_so_u i1 e hp, fun x => Nat.le_trans (le x) (i2 x), fun b a q hb => ?_⟩
  have ha := q.2.1
  by_cases z : 7 * b + a < 7 * u + v
  · exact Nat.le_trans (le b) (i3 b a q z)
  · have e1 : b = u := by omega
    have e2 : a = v := by omega
    subst e1 e2
    rw [hp b, if_pos rfl]
    exact i2 _
theorem tr_Rd_e {L : Nat → Nat} {n k r : Nat} {p0 p : Nat → Nat} (h7 : n ≤ 7) (sy : tr_Sy L) (I : tr_Iv (tr_E L n k) n r p0) (R : tr_Rd L n k p0 p 49) : tr_Iv (tr_E L n k) n (r + 1) p :=
  tr_Iv_s (fun a b e => e.2.1) I R.1 R.2.1 (fun b a e => R.2.2 b a e (by have := e.1; have := e.2.1; omega)) (tr_E_y sy h7 k)
theorem tr_P_pos {L : Nat → Nat} {n k : Nat} (hn : 0 < n) : 1 ≤ tr_P L n k :=
  tr_cp_pos (P := fun u => tr_lb (tr_E L n k) u = u) 0 (Nat.le_zero.mp (tr_lb_le _ 0)) n hn
theorem tr_P_le (L : Nat → Nat) (n k : Nat) : tr_P L n k ≤ n := tr_cp_le _ n
/-! the net grows: gaps of the towns outside J -/
def tr_Gp (L : Nat → Nat) (n : Nat) (J : Nat → Prop) (g : Nat → Nat) : Prop :=
  ∀ t, t < n → ¬ J t → (∀ u, J u → g t ≤ L (7 * u + t)) ∧ (g t = 1000 ∨ ∃ u, J u ∧ g t = L (7 * u + t))
theorem tr_Gp_0 (L : Nat → Nat) (n : Nat) {J : Nat → Prop} {g : Nat → Nat} (hJ : ∀ u, ¬ J u) (hg : ∀ t, t < n → g t = 1000) : tr_Gp L n J g :=
  fun t ht _ => ⟨fun u hu => absurd hu (hJ u), Or.inl (hg t ht)⟩
theorem tr_Gp_s {L : Nat → Nat} {n v : Nat} {J J' : Nat → Prop} {g g' : Nat → Nat} (I : tr_Gp L n J g) (hJ : ∀ u, J' u ↔ (J u ∨ u = v))
    (hg : ∀ t, t < n → ¬ J' t → g' t = if L (7 * v + t) < g t then L (7 * v + t) else g t) : tr_Gp L n J' g' := by
  intro t ht hn
  obtain ⟨i1, i2⟩ := I t ht (fun q => hn ((hJ t).mpr (Or.inl q)))
  rw [hg t ht hn]
  by_cases z : L (7 * v + t) < g t
  · rw [if_pos z]
    refine ⟨fun u hu => ?_, Or.inr ⟨v, (hJ v).mpr (Or.inr rfl), rfl⟩⟩
    rcases (hJ u).mp hu with q | q
    · have := i1 u q; omega
    · rw [q]; exact Nat.le_refl _
  · rw [if_neg z]
    refine ⟨fun u hu => ?_, ?_⟩
    · rcases (hJ u).mp hu with q | q
      · exact i1 u q
      · rw [q]; omega
    · rcases i2 with q | ⟨u, hu, q⟩
      · exact Or.inl q
      · exact Or.inr ⟨u, (hJ u).mpr (Or.inl hu), q⟩
/-- where J holds town 0, a gap is a true length -/
theorem tr_Gp_w {L : Nat → Nat} {n : Nat} {J : Nat → Prop} {g : Nat → Nat} (I : tr_Gp L n J g) (hL : ∀ j, j < 49 → L j ≤ 60) (h7 : n ≤ 7) (h0 : J 0) {t : Nat} (ht : t < n) (hn : ¬ J t) :
    g t ≤ 60 ∧ ∃ u, J u ∧ L (7 * u + t) = g t := by
  obtain ⟨i1, i2⟩ := I t ht hn
  have a := i1 0 h0
  have b := hL (7 * 0 + t) (by omega)
  refine ⟨by omega, ?_⟩
  rcases i2 with q | ⟨u, hu, q⟩
  · omega
  · exact ⟨u, hu, q.symm⟩
/-- the search for the nearest town outside -/
def tr_Ns (n : Nat) (J : Nat → Prop) (g : Nat → Nat) (t v l : Nat) : Prop :=
  (l = 1000 ∧ v = 0 ∧ ∀ x, 1 ≤ x → x < t → J x) ∨ (1 ≤ v ∧ v < t ∧ ¬ J v ∧ l = g v ∧ l < 1000 ∧ ∀ x, 1 ≤ x → x < t → ¬ J x → g v ≤ g x)
theorem tr_Ns_0 (n : Nat) (J : Nat → Prop) (g : Nat → Nat) : tr_Ns n J g 1 0 1000 := Or.inl ⟨rfl, rfl, fun x h1 h2 => by omega⟩
theorem tr_Ns_j {n : Nat} {J : Nat → Prop} {g : Nat → Nat} {t v l : Nat} (I : tr_Ns n J g t v l) (h : J t) : tr_Ns n J g (t + 1) v l := by
  rcases I with ⟨a, b, c⟩ | ⟨a, b, c, d, e, f⟩
  · refine Or.inl ⟨a, b, fun x h1 h2 => ?_⟩
    by_cases z : x = t
    · rw [z]; exact h
    · exact c x h1 (by omega)
  · refine Or.inr ⟨a, by omega, c, d, e, fun x h1 h2 hx => ?_⟩
    by_cases z : x = t
    · rw [z] at hx; exact absurd h hx
    · exact f x h1 (by omega) hx
theorem tr_Ns_g {n : Nat} {J : Nat → Prop} {g : Nat → Nat} {t v l : Nat} (I : tr_Ns n J g t v l) (h : l ≤ g t) (hg : g t < 1000) : tr_Ns n J g (t + 1) v l := by
  rcases I with ⟨a, b, c⟩ | ⟨a, b, c, d, e, f⟩
  · omega
  · refine Or.inr ⟨a, by omega, c, d, e, fun x h1 h2 hx => ?_⟩
    by_cases z : x = t
    · rw [z]; omega
    · exact f x h1 (by omega) hx
theorem tr_Ns_l {n : Nat} {J : Nat → Prop} {g : Nat → Nat} {t v l : Nat} (I : tr_Ns n J g t v l) (h1 : 1 ≤ t) (hj : ¬ J t) (h : g t < l) : tr_Ns n J g (t + 1) t (g t) := by
  rcases I with ⟨a, b, c⟩ | ⟨a, b, c, d, e, f⟩
  · refine Or.inr ⟨h1, by omega, hj, rfl, by omega, fun x h1 h2 hx => ?_⟩
    by_cases z : x = t
    · rw [z]; exact Nat.le_refl _
    · exact absurd (c x h1 (by omega)) hx
  · refine Or.inr ⟨h1, by omega, hj, rfl, by omega, fun x h1 h2 hx => ?_⟩
    by_cases z : x = t
    · rw [z]; exact Nat.le_refl _
    · have := f x h1 (by omega) hx
      omega
theorem tr_Ns_e {n : Nat} {J : Nat → Prop} {g : Nat → Nat} {v l : Nat} (I : tr_Ns n J g n v l) (h0 : J 0) (h : tr_cp J n < n) :
    v < n ∧ ¬ J v ∧ ∀ x, x < n → ¬ J x → g v ≤ g x := by
  rcases I with ⟨a, b, c⟩ | ⟨a, b, c, d, e, f⟩
  · obtain ⟨m, hm, q⟩ := tr_cp_ex n h
    by_cases z : m = 0
    · rw [z] at q; exact absurd h0 q
    · exact absurd (c m (by omega) hm) q
  · refine ⟨b, c, fun x h1 hx => ?_⟩
    by_cases z : x = 0
    · rw [z] at hx; exact absurd h0 hx
    · exact f x (by omega) h1 hx
/-- all that the growing net keeps -/
def tr_Pm (L : Nat → Nat) (n i : Nat) (J : Nat → Prop) (g : Nat → Nat) (s m : Nat) : Prop :=
  J 0 ∧ (∀ u, J u → u < n) ∧ tr_cp J n = i ∧ tr_Gp L n J g ∧ tr_Nt L n J s m
theorem tr_Pm_s {L : Nat → Nat} {n i : Nat} {J J' : Nat → Prop} {g g' : Nat → Nat} {s m v : Nat} (sy : tr_Sy L) (hL : ∀ j, j < 49 → L j ≤ 60) (h7 : n ≤ 7) (I : tr_Pm L n i J g s m)
    (hv : v < n) (hj : ¬ J v) (hm : ∀ x, x < n → ¬ J x → g v ≤ g x) (hJ : ∀ u, J' u ↔ (J u ∨ u = v))
    (hg : ∀ t, t < n → ¬ J' t → g' t = if L (7 * v + t) < g t then L (7 * v + t) else g t) :
    tr_Pm L n (i + 1) J' g' (s + g v) (if m < g v then g v else m) := by
  obtain ⟨h0, hn, hc, hG, hN⟩ := I
  have w := tr_Gp_w hG hL h7 h0 hv hj
  refine ⟨(hJ 0).mpr (Or.inl h0), fun u hu => ?_, ?_, tr_Gp_s hG hJ hg, tr_Nt_s sy h7 hN hJ hj hv hn h0 w.2 (fun a b ha hb hbn => ?_) w.1⟩
  · rcases (hJ u).mp hu with q | q
    · exact hn u q
    · rw [q]; exact hv
  · rw [tr_cp_add v hj n (fun m _ => hJ m) hv, hc]
  · exact Nat.le_trans (hm b hbn hb) ((hG b hbn hb).1 a ha)
