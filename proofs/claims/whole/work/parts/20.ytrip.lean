/-! Y: the trips of the table -/
def tr_Tw (n : Nat) (aW : Nat → Int32) : Prop := ∀ t, t < tr_T n → ∀ k, k < n → aW (7 * t + k) = nI (tr_R n t k)
theorem ty_pk {post : Int32 → Prop} {fT : Int32} {aL aW aO aP : Nat → Int32} {n t k : Nat} (h3 : 3 ≤ n) (h7 : n ≤ 7) (hW : tr_Tw n aW) (ht : t < tr_T n) (hk : k < n) (K : post (nI (tr_R n t k))) :
    wpY_placeOf post (nI n, fT, aL, aW, aO, aP) (nI t) (nI k) := by
  have T7 := (tr_T_b h3 h7).2
  unfold wpY_placeOf
  dsimp only
  refine br_f (fun q => ?_) ?_
  · rw [nI_eq (by omega) (by omega)] at q
    omega
  · rw [tr_iy, nI_clamp (by omega), hW t ht k hk]
    exact ⟨vp_in_nI (by omega) (by omega), K⟩
theorem ty_pn {post : Int32 → Prop} {fT : Int32} {aL aW aO aP : Nat → Int32} {n t k : Nat} (h3 : 3 ≤ n) (h7 : n ≤ 7) (hW : tr_Tw n aW) (ht : t < tr_T n) (hk : k < n) (K : post (nI (tr_R n t (tr_nk n k)))) :
    wpY_placeOf post (nI n, fT, aL, aW, aO, aP) (nI t) (nI k + 1) := by
  have T7 := (tr_T_b h3 h7).2
  rw [nI_1]
  by_cases z : k + 1 = n
  · rw [tr_nk_e z] at K
    have e : 7 * nI t + 0 = nI (7 * t + 0) := tr_iy t 0
    unfold wpY_placeOf
    dsimp only
    rw [e, nI_clamp (by omega), hW t ht 0 (by omega)]
    exact br_t (by rw [z]) ⟨vp_in_nI (by omega) (by omega), K⟩
  · rw [tr_nk_s (by omega)] at K
    exact ty_pk h3 h7 hW ht (by omega) K
theorem ty_sm_l {post : Int32 → Prop} {fT : Int32} {aL aW aO aP : Nat → Int32} {L : Nat → Nat} {n t : Nat} (h3 : 3 ≤ n) (h7 : n ≤ 7) (hl : tr_Rp 49 aL L) (hW : tr_Tw n aW) (ht : t < tr_T n) (K : post (nI (tr_ln L n t))) :
    ∀ d i, i + d = n → wY_sum_4 post (nI t) (nI n) fT aL aW aO aP (d + 1) (nI (tr_sm (tr_tm L (tr_R n t) n) i)) (nI i) := by
  intro d
  induction d with
  | zero =>
    intro i hi
    obtain rfl : i = n := by omega
    exact br_t (nI_le (by omega) (by omega)) K
  | succ d ih =>
    intro i hi
    have a := tr_R_b h3 h7 ht (k := i) (by omega)
    have b := tr_R_b h3 h7 ht (k := tr_nk n i) (tr_nk_lt (by omega))
    have hc : 7 * tr_R n t i + tr_R n t (tr_nk n i) < 49 := by omega
    refine br_f (nI_ge (by omega) (by omega)) (ty_pk h3 h7 hW ht (by omega) (ty_pn h3 h7 hW ht (by omega) ?_))
    rw [tr_iy, nI_clamp (by omega), hl _ hc]
    exact ⟨vp_in_nI hc (by omega), nm_r (nI_add _ _) (nm_r (nI_1 i) (ih (i + 1) (by omega)))⟩
theorem ty_sm {post : Int32 → Prop} {fT : Int32} {aL aW aO aP : Nat → Int32} {L : Nat → Nat} {n t : Nat} (h3 : 3 ≤ n) (h7 : n ≤ 7) (hl : tr_Rp 49 aL L) (hW : tr_Tw n aW) (ht : t < tr_T n) (K : post (nI (tr_ln L n t))) :
    wpY_sum post (nI n, fT, aL, aW, aO, aP) (nI t) := by
  unfold wpY_sum
  dsimp only
  exact ⟨n + 1, ty_sm_l h3 h7 hl hW ht K n 0 (by omega)⟩
theorem ty_u44 {post : Int32 → Prop} {J : Int32 → Prop} {x1 fn fT : Int32} {aL aW aO aP : Nat → Int32} {a b u v i : Nat} (ha : a < 7) (hb : b < 7) (hu : u < 7) (hv : v < 7) (h1 : a = v → b = u → post 1) (h2 : ¬ (a = v ∧ b = u) → J (nI (i + 1))) :
    wY_uses_44 post J x1 (nI u) (nI v) (nI i) (nI a) (nI b) fn fT aL aW aO aP :=
  pk_eq a v (fun e => pk_eq b u (fun e2 => h1 e e2) (fun ne => nm_r (nI_1 i) (h2 (fun q => ne q.2)))) (fun ne => nm_r (nI_1 i) (h2 (fun q => ne q.1)))
theorem ty_us_l {post : Int32 → Prop} {fT : Int32} {aL aW aO aP : Nat → Int32} {n t u v : Nat} (h3 : 3 ≤ n) (h7 : n ≤ 7) (hW : tr_Tw n aW) (ht : t < tr_T n) (hu : u < 7) (hv : v < 7)
    (hT : tr_us (tr_R n t) n u v → post 1) (hF : ¬ tr_us (tr_R n t) n u v → post 0) :
    ∀ d i, i + d = n → (∀ k, k < i → ¬ tr_pr (tr_R n t k) (tr_R n t (tr_nk n k)) u v) → wY_uses_3 post (nI t) (nI u) (nI v) (nI n) fT aL aW aO aP (d + 1) (nI i) := by
  intro d
  induction d with
  | zero =>
    intro i hi hk
    obtain rfl : i = n := by omega
    exact br_t (nI_le (by omega) (by omega)) (hF (fun ⟨k, hkn, q⟩ => hk k hkn q))
  | succ d ih =>
    intro i hi hk
    have a := tr_R_b h3 h7 ht (k := i) (by omega)
    have b := tr_R_b h3 h7 ht (k := tr_nk n i) (tr_nk_lt (by omega))
    have yes : tr_pr (tr_R n t i) (tr_R n t (tr_nk n i)) u v → post 1 := fun q => hT ⟨i, by omega, q⟩
    have no : ¬ tr_pr (tr_R n t i) (tr_R n t (tr_nk n i)) u v → wY_uses_3 post (nI t) (nI u) (nI v) (nI n) fT aL aW aO aP (d + 1) (nI (i + 1)) := fun q => ih (i + 1) (by omega) (tr_lt1 hk q)
    refine br_f (nI_ge (by omega) (by omega)) (ty_pk h3 h7 hW ht (by omega) (ty_pn h3 h7 hW ht (by omega) ?_))
    refine pk_eq (tr_R n t i) u (fun e => pk_eq (tr_R n t (tr_nk n i)) v (fun e2 => yes (Or.inl ⟨e, e2⟩)) (fun ne => ?_)) (fun ne => ?_)
    · exact ty_u44 (by omega) (by omega) hu hv (fun q1 q2 => yes (Or.inr ⟨q1, q2⟩)) (fun q => no (fun w => by
        rcases w with w | w
        · exact ne w.2
        · exact q w))
    · exact ty_u44 (by omega) (by omega) hu hv (fun q1 q2 => yes (Or.inr ⟨q1, q2⟩)) (fun q => no (fun w => by
        rcases w with w | w
        · exact ne w.1
        · exact q w))
theorem ty_us {post : Int32 → Prop} {fT : Int32} {aL aW aO aP : Nat → Int32} {n t u v : Nat} (h3 : 3 ≤ n) (h7 : n ≤ 7) (hW : tr_Tw n aW) (ht : t < tr_T n) (hu : u < 7) (hv : v < 7)
    (hT : tr_us (tr_R n t) n u v → post 1) (hF : ¬ tr_us (tr_R n t) n u v → post 0) : wpY_uses post (nI n, fT, aL, aW, aO, aP) (nI t) (nI u) (nI v) := by
  unfold wpY_uses
  dsimp only
  exact ⟨n + 1, ty_us_l h3 h7 hW ht hu hv hT hF n 0 (by omega) (fun k h => absurd h (Nat.not_lt_zero _))⟩
theorem ty_bs_l {post : Int32 → Prop} {aL aW aO aP : Nat → Int32} {L : Nat → Nat} {n : Nat} (h3 : 3 ≤ n) (h7 : n ≤ 7) (hl : tr_Rp 49 aL L) (hL : ∀ j, j < 49 → L j ≤ 60) (hW : tr_Tw n aW)
    (K : ∀ f, f < tr_T n → (∀ t, t < tr_T n → tr_ln L n f ≤ tr_ln L n t) → (∀ t, t < f → tr_ln L n f < tr_ln L n t) → post (nI f)) :
    ∀ d t f, t + d = tr_T n → f < t → (∀ x, x < t → tr_ln L n f ≤ tr_ln L n x) → (∀ x, x < f → tr_ln L n f < tr_ln L n x) → wY_best_4 post (nI n) (nI (tr_T n)) aL aW aO aP (d + 1) (nI f) (nI t) := by
  have T7 := (tr_T_b h3 h7).2
  intro d
  induction d with
  | zero =>
    intro t f ht hf h1 h2
    refine br_t (nI_le (by omega) (by omega)) (K f (by omega) (fun x hx => h1 x (by omega)) h2)
  | succ d ih =>
    intro t f ht hf h1 h2
    have b1 := tr_ln_b hL h3 h7 (t := t) (by omega)
    have b2 := tr_ln_b hL h3 h7 (t := f) (by omega)
    refine br_f (nI_ge (by omega) (by omega)) (ty_sm h3 h7 hl hW (by omega) (ty_sm h3 h7 hl hW (by omega) ?_))
    refine pk_le (tr_ln L n f) (tr_ln L n t) (fun h => nm_r (nI_1 t) (ih (t + 1) f (by omega) (by omega) (tr_lt1 h1 h) h2)) (fun h => nm_r (nI_1 t) (ih (t + 1) t (by omega) (by omega) (tr_lt1 (fun x hx => ?_) (Nat.le_refl _)) (fun x hx => ?_)))
    · have := h1 x hx; omega
    · have := h1 x hx; omega
theorem ty_bs {post : Int32 → Prop} {aL aW aO aP : Nat → Int32} {L : Nat → Nat} {n : Nat} (h3 : 3 ≤ n) (h7 : n ≤ 7) (hl : tr_Rp 49 aL L) (hL : ∀ j, j < 49 → L j ≤ 60) (hW : tr_Tw n aW)
    (K : ∀ f, f < tr_T n → (∀ t, t < tr_T n → tr_ln L n f ≤ tr_ln L n t) → (∀ t, t < f → tr_ln L n f < tr_ln L n t) → post (nI f)) :
    wpY_best post (nI n, nI (tr_T n), aL, aW, aO, aP) := by
  have T1 := (tr_T_b h3 h7).1
  unfold wpY_best
  dsimp only
  refine ⟨tr_T n - 1 + 1, ty_bs_l h3 h7 hl hL hW K (tr_T n - 1) 1 0 (by omega) (by omega) (fun x hx => ?_) (fun x hx => absurd hx (Nat.not_lt_zero _))⟩
  obtain rfl : x = 0 := by omega
  exact Nat.le_refl _
theorem ty_sh {post : Int32 → Prop} {aL aW aO aP : Nat → Int32} {L : Nat → Nat} {n : Nat} (h3 : 3 ≤ n) (h7 : n ≤ 7) (hl : tr_Rp 49 aL L) (hL : ∀ j, j < 49 → L j ≤ 60) (hW : tr_Tw n aW)
    (K : ∀ f, f < tr_T n → (∀ t, t < tr_T n → tr_ln L n f ≤ tr_ln L n t) → (∀ t, t < f → tr_ln L n f < tr_ln L n t) → post (nI (tr_ln L n f))) :
    wpY_shortest post (nI n, nI (tr_T n), aL, aW, aO, aP) := by
  unfold wpY_shortest
  dsimp only
  exact ty_bs h3 h7 hl hL hW (fun f hf h1 h2 => ty_sm h3 h7 hl hW hf (K f hf h1 h2))
theorem ty_tr_l {post : Int32 → Prop} {aL aW aO aP : Nat → Int32} {L : Nat → Nat} {n b : Nat} (h3 : 3 ≤ n) (h7 : n ≤ 7) (hl : tr_Rp 49 aL L) (hL : ∀ j, j < 49 → L j ≤ 60) (hW : tr_Tw n aW) (hb : b ≤ 1000)
    (K : post (nI (tr_cp (fun t => tr_ln L n t = b) (tr_T n)))) :
    ∀ d t, t + d = tr_T n → wY_trips_9 post (nI b) (nI n) (nI (tr_T n)) aL aW aO aP (d + 1) (nI (tr_cp (fun t => tr_ln L n t = b) t)) (nI t) := by
  have T7 := (tr_T_b h3 h7).2
  intro d
  induction d with
  | zero =>
    intro t ht
    obtain rfl : t = tr_T n := by omega
    exact br_t (nI_le (by omega) (by omega)) K
  | succ d ih =>
    intro t ht
    have b1 := tr_ln_b hL h3 h7 (t := t) (by omega)
    refine br_f (nI_ge (by omega) (by omega)) (ty_sm h3 h7 hl hW (by omega) ?_)
    refine pk_eq (tr_ln L n t) b (fun h => nm_r ?_ (nm_r (nI_1 t) (ih (t + 1) (by omega)))) (fun h => nm_r (nI_1 t) ?_)
    · rw [tr_cp_t (P := fun t => tr_ln L n t = b) h, nI_1]
    · have z := ih (t + 1) (by omega)
      rw [tr_cp_f (P := fun t => tr_ln L n t = b) h] at z
      exact z
theorem ty_tr {post : Int32 → Prop} {aL aW aO aP : Nat → Int32} {L : Nat → Nat} {n : Nat} (h3 : 3 ≤ n) (h7 : n ≤ 7) (hl : tr_Rp 49 aL L) (hL : ∀ j, j < 49 → L j ≤ 60) (hW : tr_Tw n aW)
    (K : ∀ f, f < tr_T n → (∀ t, t < tr_T n → tr_ln L n f ≤ tr_ln L n t) → (∀ t, t < f → tr_ln L n f < tr_ln L n t) → post (nI (tr_cp (fun t => tr_ln L n t = tr_ln L n f) (tr_T n)))) :
    wpY_trips post (nI n, nI (tr_T n), aL, aW, aO, aP) := by
  unfold wpY_trips
  dsimp only
  refine ty_sh h3 h7 hl hL hW (fun f hf h1 h2 => ⟨tr_T n + 1, ?_⟩)
  have b1 := tr_ln_b hL h3 h7 hf
  exact ty_tr_l h3 h7 hl hL hW (by omega) (K f hf h1 h2) (tr_T n) 0 (by omega)
/-! Y: the least length of the trips of a kind -/
def tr_YL (ln : Nat → Nat) (Q : Nat → Prop) (i : Nat) (x : Int32) : Prop :=
  (x = -1 ∧ ∀ t, t < i → ¬ Q t) ∨ ∃ b, x = nI b ∧ b ≤ 1000 ∧ (∃ t, t < i ∧ Q t ∧ ln t = b) ∧ ∀ t, t < i → Q t → b ≤ ln t
theorem tr_YL_n {ln : Nat → Nat} {Q : Nat → Prop} {i : Nat} {x : Int32} (I : tr_YL ln Q i x) (h : ¬ Q i) : tr_YL ln Q (i + 1) x := by
  rcases I with ⟨e, q⟩ | ⟨b, e, hb, ⟨t, ht, q1, q2⟩, q⟩
  · exact Or.inl ⟨e, tr_lt1 q h⟩
  · exact Or.inr ⟨b, e, hb, ⟨t, by omega, q1, q2⟩, tr_lt1 q (fun w => absurd w h)⟩
theorem tr_YL_q {ln : Nat → Nat} {Q : Nat → Prop} {i : Nat} {P : Int32 → Prop} {x : Int32} (I : tr_YL ln Q i x) (h : Q i) (hl : ln i ≤ 1000) (K : ∀ y, tr_YL ln Q (i + 1) y → P y) :
    (x < 0 → P (nI (ln i))) ∧ (¬ x < 0 → (x ≤ nI (ln i) → P x) ∧ (¬ x ≤ nI (ln i) → P (nI (ln i)))) := by
  rcases I with ⟨e, q⟩ | ⟨b, e, hb, ⟨t, ht, q1, q2⟩, q⟩
  · refine br_t (by rw [e]; decide) (K _ (Or.inr ⟨ln i, rfl, hl, ⟨i, by omega, h, rfl⟩, tr_lt1 (fun t ht w => absurd w (q t ht)) (fun _ => Nat.le_refl _)⟩))
  · rw [e]
    refine br_f (nI_pos (by omega)) (pk_le b (ln i) (fun w => K _ (Or.inr ⟨b, rfl, hb, ⟨t, by omega, q1, q2⟩, tr_lt1 q (fun _ => w)⟩)) (fun w => K _ (Or.inr ⟨ln i, rfl, hl, ⟨i, by omega, h, rfl⟩, tr_lt1 (fun t ht w => ?_) (fun _ => Nat.le_refl _)⟩)))
    have := q t ht w
    omega
theorem ty_lt_l {post : Int32 → Prop} {aL aW aO aP : Nat → Int32} {L : Nat → Nat} {n u v w : Nat} {Q : Nat → Prop} (h3 : 3 ≤ n) (h7 : n ≤ 7) (hl : tr_Rp 49 aL L) (hL : ∀ j, j < 49 → L j ≤ 60) (hW : tr_Tw n aW) (hu : u < 7) (hv : v < 7)
    (hw : w < 2) (hQ1 : w = 1 → ∀ t, Q t ↔ tr_us (tr_R n t) n u v) (hQ0 : w = 0 → ∀ t, Q t ↔ ¬ tr_us (tr_R n t) n u v) (K : ∀ x, tr_YL (tr_ln L n) Q (tr_T n) x → post x) :
    ∀ d t x, t + d = tr_T n → tr_YL (tr_ln L n) Q t x → wY_least_6 post (nI u) (nI v) (nI w) (nI n) (nI (tr_T n)) aL aW aO aP (d + 1) x (nI t) := by
  have T7 := (tr_T_b h3 h7).2
  intro d
  induction d with
  | zero =>
    intro t x ht I
    obtain rfl : t = tr_T n := by omega
    exact br_t (nI_le (by omega) (by omega)) (K x I)
  | succ d ih =>
    intro t x ht I
    have b1 := tr_ln_b hL h3 h7 (t := t) (by omega)
    have yes : Q t → wpY_sum (fun r_17 => wY_least_37 post (wY_least_6 post (nI u) (nI v) (nI w) (nI n) (nI (tr_T n)) aL aW aO aP (d + 1)) (nI u) (nI v) (nI w) x (nI t) r_17 (nI n) (nI (tr_T n)) aL aW aO aP) (nI n, nI (tr_T n), aL, aW, aO, aP) (nI t) := by
      intro q
      refine ty_sm h3 h7 hl hW (by omega) ?_
      refine br_f (nI_pos (by omega)) ?_
      have z := tr_YL_q (P := fun y => wY_least_6 post (nI u) (nI v) (nI w) (nI n) (nI (tr_T n)) aL aW aO aP (d + 1) y (nI (t + 1))) I q (by omega) (fun y hy => ih (t + 1) y (by omega) hy)
      exact ⟨fun a => nm_r (nI_1 t) (z.1 a), fun a => ⟨fun b => nm_r (nI_1 t) ((z.2 a).1 b), fun b => nm_r (nI_1 t) ((z.2 a).2 b)⟩⟩
    have no : ¬ Q t → wY_least_37 post (wY_least_6 post (nI u) (nI v) (nI w) (nI n) (nI (tr_T n)) aL aW aO aP (d + 1)) (nI u) (nI v) (nI w) x (nI t) (-1) (nI n) (nI (tr_T n)) aL aW aO aP := by
      intro q
      exact br_t (by decide) (nm_r (nI_1 t) (ih (t + 1) x (by omega) (tr_YL_n I q)))
    refine br_f (nI_ge (by omega) (by omega)) (ty_us h3 h7 hW (by omega) hu hv (fun a => ?_) (fun a => ?_))
    · refine pk_eq 1 w (fun e => yes ((hQ1 e.symm t).mpr a)) (fun e => no (fun q => (hQ0 (by omega) t).mp q a))
    · refine pk_eq 0 w (fun e => yes ((hQ0 e.symm t).mpr a)) (fun e => no (fun q => a ((hQ1 (by omega) t).mp q)))
theorem ty_lt {post : Int32 → Prop} {aL aW aO aP : Nat → Int32} {L : Nat → Nat} {n u v w : Nat} {Q : Nat → Prop} (h3 : 3 ≤ n) (h7 : n ≤ 7) (hl : tr_Rp 49 aL L) (hL : ∀ j, j < 49 → L j ≤ 60) (hW : tr_Tw n aW) (hu : u < 7) (hv : v < 7)
    (hw : w < 2) (hQ1 : w = 1 → ∀ t, Q t ↔ tr_us (tr_R n t) n u v) (hQ0 : w = 0 → ∀ t, Q t ↔ ¬ tr_us (tr_R n t) n u v) (K : ∀ x, tr_YL (tr_ln L n) Q (tr_T n) x → post x) :
    wpY_least post (nI n, nI (tr_T n), aL, aW, aO, aP) (nI u) (nI v) (nI w) := by
  unfold wpY_least
  dsimp only
  exact ⟨tr_T n + 1, ty_lt_l h3 h7 hl hL hW hu hv hw hQ1 hQ0 K (tr_T n) 0 (-1) (by omega) (Or.inl ⟨rfl, fun t h => absurd h (Nat.not_lt_zero _)⟩)⟩
