/-! what the kernel saw, said of each row -/
theorem tr_g {n : Nat} (h3 : 3 ≤ n) (h7 : n ≤ 7) : tr_gd n = true := by
  have h : n = 3 ∨ n = 4 ∨ n = 5 ∨ n = 6 ∨ n = 7 := by omega
  rcases h with rfl | rfl | rfl | rfl | rfl
  · exact tr_g3
  · exact tr_g4
  · exact tr_g5
  · exact tr_g6
  · exact tr_g7
theorem tr_al {n : Nat} : ∀ (r : List Nat), r.all (fun x => Nat.ble (x + 1) n) = true → ∀ k, k < r.length → tr_get r k < n := by
  intro r
  induction r with
  | nil => intro _ k h; exact absurd h (Nat.not_lt_zero _)
  | cons x xs ih =>
    intro h k hk
    rw [List.all_cons, Bool.and_eq_true] at h
    cases k with
    | zero => exact Nat.le_of_ble_eq_true h.1
    | succ k => exact ih h.2 k (Nat.lt_of_succ_lt_succ hk)
theorem tr_wf_t {n s : Nat} : ∀ (rs : List (List Nat)), tr_wf n s rs = true → ∀ t, t < rs.length → (tr_row rs t).length = s ∧ ∀ k, k < s → tr_get (tr_row rs t) k < n := by
  intro rs
  induction rs with
  | nil => intro _ k h; exact absurd h (Nat.not_lt_zero _)
  | cons r rs ih =>
    intro h t ht
    rw [tr_wf] at h
    cases e : (Nat.beq r.length s && r.all (fun x => Nat.ble (x + 1) n)) with
    | false => rw [e] at h; exact absurd (show false = true from h) Bool.false_ne_true
    | true =>
      rw [e] at h
      cases t with
      | zero =>
        rw [Bool.and_eq_true] at e
        have l : r.length = s := Nat.eq_of_beq_eq_true e.1
        exact ⟨l, fun k hk => tr_al r e.2 k (by omega)⟩
      | succ t => exact ih h t (Nat.lt_of_succ_lt_succ ht)
theorem tr_wa_t {n : Nat} : ∀ m, tr_wa n m = true → ∀ s, s < m → tr_wf n (s + 1) (tr_tb n s) = true ∧ (tr_tb n s).length ≤ 720 := by
  intro m
  induction m with
  | zero => intro _ s h; omega
  | succ m ih =>
    intro h s hs
    rw [tr_wa, Bool.and_eq_true, Bool.and_eq_true] at h
    by_cases z : s = m
    · subst z
      exact ⟨h.1.1, Nat.le_of_ble_eq_true h.1.2⟩
    · exact ih h.2 s (by omega)
theorem tr_an_t {f : List Nat → Bool} : ∀ (rs : List (List Nat)), tr_an f rs = true → ∃ t, t < rs.length ∧ f (tr_row rs t) = true := by
  intro rs
  induction rs with
  | nil => intro h; exact absurd (show false = true from h) Bool.false_ne_true
  | cons r rs ih =>
    intro h
    rw [tr_an] at h
    cases e : f r with
    | true => exact ⟨0, Nat.succ_pos _, e⟩
    | false =>
      rw [e] at h
      obtain ⟨t, ht, q⟩ := ih h
      exact ⟨t + 1, Nat.succ_lt_succ ht, q⟩
theorem tr_xv_t {n u : Nat} {rs : List (List Nat)} : ∀ m, tr_xv n rs u m = true → ∀ v, v < m → u ≠ v → tr_an (fun r => tr_ub (tr_get r) n u v n) rs = true ∧ (n ≠ 3 → tr_an (fun r => !(tr_ub (tr_get r) n u v n)) rs = true) := by
  intro m
  induction m with
  | zero => intro _ s h; omega
  | succ m ih =>
    intro h v hv huv
    rw [tr_xv, Bool.and_eq_true, Bool.or_eq_true, Bool.and_eq_true, Bool.or_eq_true, Nat.beq_eq, Nat.beq_eq] at h
    by_cases z : v = m
    · subst z
      rcases h.1 with q | q
      · exact absurd q huv
      · refine ⟨q.1, fun n3 => ?_⟩
        rcases q.2 with w | w
        · exact absurd w n3
        · exact w
    · exact ih h.2 v (by omega) huv
theorem tr_xu_t {n : Nat} {rs : List (List Nat)} : ∀ m, tr_xu n rs m = true → ∀ u, u < m → tr_xv n rs u n = true := by
  intro m
  induction m with
  | zero => intro _ s h; omega
  | succ m ih =>
    intro h u hu
    rw [tr_xu, Bool.and_eq_true] at h
    by_cases z : u = m
    · subst z
      exact h.1
    · exact ih h.2 u (by omega)
/-- the number of trips, and trip t -/
def tr_T (n : Nat) : Nat := (tr_tb n (n - 1)).length
def tr_R (n t : Nat) : Nat → Nat := tr_get (tr_row (tr_tb n (n - 1)) t)
theorem tr_gs {n : Nat} (h3 : 3 ≤ n) (h7 : n ≤ 7) : tr_wa n n = true ∧ tr_ck n (tr_tb n (n - 1)) = true ∧ tr_xu n (tr_tb n (n - 1)) n = true ∧ tr_eq (tr_get (tr_row (tr_tb n (n - 1)) 0)) (fun k => k) n = true ∧ Nat.ble 1 (tr_tb n (n - 1)).length = true := by
  have h := tr_g h3 h7
  rw [tr_gd, Bool.and_eq_true, Bool.and_eq_true, Bool.and_eq_true, Bool.and_eq_true] at h
  exact ⟨h.1.1.1.1, h.1.1.1.2, h.1.1.2, h.1.2, h.2⟩
theorem tr_Tb {n : Nat} (h3 : 3 ≤ n) (h7 : n ≤ 7) {s : Nat} (hs : s < n) : (tr_tb n s).length ≤ 720 ∧ ∀ t, t < (tr_tb n s).length → (tr_row (tr_tb n s) t).length = s + 1 ∧ ∀ k, k < s + 1 → tr_get (tr_row (tr_tb n s) t) k < n := by
  have a := tr_wa_t n (tr_gs h3 h7).1 s hs
  exact ⟨a.2, tr_wf_t _ a.1⟩
theorem tr_T_b {n : Nat} (h3 : 3 ≤ n) (h7 : n ≤ 7) : 1 ≤ tr_T n ∧ tr_T n ≤ 720 :=
  ⟨Nat.le_of_ble_eq_true (tr_gs h3 h7).2.2.2.2, (tr_Tb h3 h7 (s := n - 1) (by omega)).1⟩
theorem tr_R_b {n t k : Nat} (h3 : 3 ≤ n) (h7 : n ≤ 7) (ht : t < tr_T n) (hk : k < n) : tr_R n t k < n :=
  ((tr_Tb h3 h7 (s := n - 1) (by omega)).2 t ht).2 k (by omega)
theorem tr_R_0 {n k : Nat} (h3 : 3 ≤ n) (h7 : n ≤ 7) (hk : k < n) : tr_R n 0 k = k :=
  tr_eq_t n (tr_gs h3 h7).2.2.2.1 k hk
theorem tr_R_e {n t : Nat} (h3 : 3 ≤ n) (h7 : n ≤ 7) (ht : t + 1 = tr_T n) : tr_gr (tr_R n t) (n - 2) = 0 :=
  Nat.eq_of_beq_eq_true (tr_ck_e _ t (tr_gs h3 h7).2.1 ht)
theorem tr_R_s {n t : Nat} (h3 : 3 ≤ n) (h7 : n ≤ 7) (ht : t + 1 < tr_T n) :
    tr_gr (tr_R n t) (n - 2) ≠ 0 ∧ ∀ k, k < n → tr_nx n (tr_R n t) (tr_gr (tr_R n t) (n - 2)) (tr_gt (tr_R n t) (tr_gr (tr_R n t) (n - 2)) (n - 1 - tr_gr (tr_R n t) (n - 2))) k = tr_R n (t + 1) k := by
  have h : tr_c2 n (tr_R n t) (tr_R n (t + 1)) = true := tr_ck_s _ t (tr_gs h3 h7).2.1 ht
  rw [tr_c2] at h
  cases e : tr_gr (tr_R n t) (n - 2) with
  | zero => rw [e] at h; exact absurd (show false = true from h) Bool.false_ne_true
  | succ p =>
    rw [e] at h
    dsimp only at h
    refine ⟨Nat.succ_ne_zero _, ?_⟩
    cases e2 : tr_gt (tr_R n t) (p + 1) (n - 1 - (p + 1)) with
    | zero => rw [e2] at h; exact absurd (show false = true from h) Bool.false_ne_true
    | succ o =>
      rw [e2] at h
      exact tr_eq_t n h
theorem tr_R_u {n u v : Nat} (h3 : 3 ≤ n) (h7 : n ≤ 7) (hu : u < n) (hv : v < n) (huv : u ≠ v) :
    (∃ t, t < tr_T n ∧ tr_us (tr_R n t) n u v) ∧ (n ≠ 3 → ∃ t, t < tr_T n ∧ ¬ tr_us (tr_R n t) n u v) := by
  have h := tr_xv_t n (tr_xu_t n (tr_gs h3 h7).2.2.1 u hu) v hv huv
  refine ⟨?_, fun n3 => ?_⟩
  · obtain ⟨t, ht, q⟩ := tr_an_t _ h.1
    exact ⟨t, ht, (tr_ub_i _ n u v n).mp q⟩
  · obtain ⟨t, ht, q⟩ := tr_an_t _ (h.2 n3)
    refine ⟨t, ht, fun z => ?_⟩
    rw [(tr_ub_i (tr_get (tr_row (tr_tb n (n - 1)) t)) n u v n).mpr z] at q
    exact absurd (show false = true from q) Bool.false_ne_true
theorem tr_gr_le (f : Nat → Nat) : ∀ i, tr_gr f i ≤ i := by
  intro i
  induction i with
  | zero => exact Nat.le_refl _
  | succ i ih => rw [tr_gr]; split <;> omega
theorem tr_gt_b (f : Nat → Nat) (p : Nat) : ∀ d, p ≤ tr_gt f p d ∧ tr_gt f p d ≤ p + d := by
  intro d
  induction d with
  | zero => exact ⟨Nat.le_refl _, Nat.le_refl _⟩
  | succ d ih => rw [tr_gt]; split <;> omega
/-! the length of a trip -/
def tr_tm (L : Nat → Nat) (f : Nat → Nat) (n k : Nat) : Nat := L (7 * f k + f (tr_nk n k))
def tr_ln (L : Nat → Nat) (n t : Nat) : Nat := tr_sm (tr_tm L (tr_R n t) n) n
theorem tr_nk_lt {n k : Nat} (h : k < n) : tr_nk n k < n := by
  unfold tr_nk; split <;> omega
theorem tr_cell {a b n : Nat} (ha : a < n) (hb : b < n) (h7 : n ≤ 7) : 7 * a + b < 49 := by omega
theorem tr_tm_b {L f : Nat → Nat} {n k : Nat} (hL : ∀ j, j < 49 → L j ≤ 60) (hf : ∀ k, k < n → f k < n) (h7 : n ≤ 7) (hk : k < n) : tr_tm L f n k ≤ 60 :=
  hL _ (tr_cell (hf k hk) (hf _ (tr_nk_lt hk)) h7)
theorem tr_ln_b {L : Nat → Nat} {n t : Nat} (hL : ∀ j, j < 49 → L j ≤ 60) (h3 : 3 ≤ n) (h7 : n ≤ 7) (ht : t < tr_T n) : tr_ln L n t ≤ 420 := by
  have a := tr_sm_le (c := 60) (g := tr_tm L (tr_R n t) n) n (fun k hk => tr_tm_b hL (fun k hk => tr_R_b h3 h7 ht hk) h7 hk)
  unfold tr_ln
  omega
/-! the best trip so far -/
def tr_BX (ln : Nat → Nat) (Q : Nat → Prop) (i b c : Nat) (F : Nat → Prop) : Prop :=
  (∀ t, t < i → Q t → b ≤ ln t) ∧ c = tr_cp (fun t => Q t ∧ ln t = b) i ∧
  ((b = 1000 ∧ ∀ t, t < i → ¬ Q t) ∨ (b < 1000 ∧ ∃ f, f < i ∧ Q f ∧ ln f = b ∧ (∀ t, t < f → Q t → b < ln t) ∧ F f))
theorem tr_BX_0 (ln : Nat → Nat) (Q : Nat → Prop) (F : Nat → Prop) : tr_BX ln Q 0 1000 0 F :=
  ⟨fun t h => absurd h (Nat.not_lt_zero _), rfl, Or.inl ⟨rfl, fun t h => absurd h (Nat.not_lt_zero _)⟩⟩
theorem tr_lt1 {P : Nat → Prop} {i : Nat} (h : ∀ t, t < i → P t) (hi : P i) : ∀ t, t < i + 1 → P t := by
  intro t ht
  by_cases z : t = i
  · rw [z]; exact hi
  · exact h t (by omega)
theorem tr_BX_n {ln : Nat → Nat} {Q : Nat → Prop} {i b c : Nat} {F : Nat → Prop} (I : tr_BX ln Q i b c F) (h : ¬ Q i) : tr_BX ln Q (i + 1) b c F := by
  obtain ⟨i1, i2, i3⟩ := I
  refine ⟨tr_lt1 i1 (fun q => absurd q h), ?_, ?_⟩
  · rw [tr_cp_f (fun q => h q.1)]; exact i2
  · rcases i3 with ⟨z, q⟩ | ⟨hb, f, h1, h2, h3, h4, h5⟩
    · exact Or.inl ⟨z, tr_lt1 q h⟩
    · exact Or.inr ⟨hb, f, by omega, h2, h3, h4, h5⟩
theorem tr_BX_g {ln : Nat → Nat} {Q : Nat → Prop} {i b c : Nat} {F : Nat → Prop} (I : tr_BX ln Q i b c F) (hl : ln i < 1000) (h : b < ln i) : tr_BX ln Q (i + 1) b c F := by
  obtain ⟨i1, i2, i3⟩ := I
  refine ⟨tr_lt1 i1 (fun q => by omega), ?_, ?_⟩
  · rw [tr_cp_f (fun q => by omega)]; exact i2
  · rcases i3 with ⟨z, q⟩ | ⟨hb, f, h1, h2, h3, h4, h5⟩
    · omega
    · exact Or.inr ⟨hb, f, by omega, h2, h3, h4, h5⟩
theorem tr_BX_e {ln : Nat → Nat} {Q : Nat → Prop} {i b c : Nat} {F : Nat → Prop} (I : tr_BX ln Q i b c F) (hl : ln i < 1000) (hq : Q i) (h : ln i = b) : tr_BX ln Q (i + 1) b (c + 1) F := by
  obtain ⟨i1, i2, i3⟩ := I
  refine ⟨tr_lt1 i1 (fun q => by omega), ?_, ?_⟩
  · rw [tr_cp_t (⟨hq, h⟩ : Q i ∧ ln i = b), i2]
  · rcases i3 with ⟨z, q⟩ | ⟨hb, f, h1, h2, h3, h4, h5⟩
    · omega
    · exact Or.inr ⟨hb, f, by omega, h2, h3, h4, h5⟩
theorem tr_BX_l {ln : Nat → Nat} {Q : Nat → Prop} {i b c : Nat} {F F' : Nat → Prop} (I : tr_BX ln Q i b c F) (hl : ln i < 1000) (hq : Q i) (h : ln i < b) (hF : F' i) : tr_BX ln Q (i + 1) (ln i) 1 F' := by
  obtain ⟨i1, i2, i3⟩ := I
  refine ⟨tr_lt1 (fun t ht q => by have := i1 t ht q; omega) (fun q => Nat.le_refl _), ?_, ?_⟩
  · rw [tr_cp_t (⟨hq, rfl⟩ : Q i ∧ ln i = ln i), tr_cp_none i (fun m hm q => by have := i1 m hm q.1; omega)]
  · exact Or.inr ⟨hl, i, by omega, hq, rfl, fun t ht q => by have := i1 t ht q; omega, hF⟩
/-- the end: the first of the trips with the least length -/
theorem tr_BX_x {ln : Nat → Nat} {Q : Nat → Prop} {T b c : Nat} {F : Nat → Prop} (I : tr_BX ln Q T b c F) (h : ∃ t, t < T ∧ Q t) :
    (∀ t, t < T → Q t → b ≤ ln t) ∧ c = tr_cp (fun t => Q t ∧ ln t = b) T ∧ b < 1000 ∧ ∃ f, f < T ∧ Q f ∧ ln f = b ∧ (∀ t, t < f → Q t → b < ln t) ∧ F f := by
  obtain ⟨i1, i2, i3⟩ := I
  rcases i3 with ⟨z, q⟩ | z
  · obtain ⟨t, ht, hq⟩ := h
    exact absurd hq (q t ht)
  · exact ⟨i1, i2, z⟩
/-! a length set for two towns -/
def tr_pt (L : Nat → Nat) (u v x : Nat) : Nat → Nat := fun j => if j = 7 * v + u then x else if j = 7 * u + v then x else L j
theorem tr_pt_y {L : Nat → Nat} {u v x : Nat} (h : tr_Sy L) (hu : u < 7) (hv : v < 7) : tr_Sy (tr_pt L u v x) := by
  intro a b ha hb
  have e := h a b ha hb
  unfold tr_pt
  by_cases z1 : 7 * a + b = 7 * v + u
  · have w : 7 * b + a = 7 * u + v := by omega
    rw [if_pos z1, if_pos w]
    split <;> rfl
  · by_cases z2 : 7 * a + b = 7 * u + v
    · have w : 7 * b + a = 7 * v + u := by omega
      rw [if_neg z1, if_pos z2, if_pos w]
    · have w1 : ¬ 7 * b + a = 7 * v + u := by omega
      have w2 : ¬ 7 * b + a = 7 * u + v := by omega
      rw [if_neg z1, if_neg z2, if_neg w1, if_neg w2, e]
theorem tr_pt_b {L : Nat → Nat} {u v x : Nat} (h : ∀ j, j < 49 → L j ≤ 60) (hx : x ≤ 60) : ∀ j, j < 49 → tr_pt L u v x j ≤ 60 := by
  intro j hj
  have := h j hj
  unfold tr_pt
  split
  · exact hx
  · split
    · exact hx
    · exact this
/-- an array that holds L in its first m cells -/
def tr_Rp (m : Nat) (a : Nat → Int32) (L : Nat → Nat) : Prop := ∀ j, j < m → a j = nI (L j)
theorem tr_Rp_pt {a : Nat → Int32} {L : Nat → Nat} {u v x : Nat} {m : Nat} (h : tr_Rp m a L) : tr_Rp m (upd (upd a (7 * u + v) (nI x)) (7 * v + u) (nI x)) (tr_pt L u v x) := by
  intro j hj
  unfold upd tr_pt
  by_cases z1 : j = 7 * v + u
  · rw [if_pos z1, if_pos z1]
  · by_cases z2 : j = 7 * u + v
    · rw [if_neg z1, if_pos z2, if_neg z1, if_pos z2]
    · rw [if_neg z1, if_neg z2, if_neg z1, if_neg z2, h j hj]
theorem tr_Rp_u {a : Nat → Int32} {L L' : Nat → Nat} {i x : Nat} {m : Nat} (h : tr_Rp m a L) (e : ∀ j, j < m → L' j = if j = i then x else L j) : tr_Rp m (upd a i (nI x)) L' := by
  intro j hj
  unfold upd
  rw [e j hj]
  by_cases z : j = i
  · rw [if_pos z, if_pos z]
  · rw [if_neg z, if_neg z, h j hj]
theorem tr_Rp_m {a : Nat → Int32} {L : Nat → Nat} {m m' : Nat} (h : tr_Rp m a L) (e : m' ≤ m) : tr_Rp m' a L := fun j hj => h j (by omega)
theorem tr_Rp_c {a : Nat → Int32} {L L' : Nat → Nat} {m : Nat} (h : tr_Rp m a L) (e : ∀ j, j < m → L j = L' j) : tr_Rp m a L' := fun j hj => by rw [h j hj, e j hj]
