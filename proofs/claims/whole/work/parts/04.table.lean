/-! the table of trips, row by row, as the reference lengthens it -/
def tr_get : List Nat → Nat → Nat
  | [], _ => 0
  | x :: _, 0 => x
  | _ :: xs, k + 1 => tr_get xs k
def tr_row : List (List Nat) → Nat → List Nat
  | [], _ => []
  | r :: _, 0 => r
  | _ :: rs, t + 1 => tr_row rs t
theorem tr_get_l (v : Nat) : ∀ (r : List Nat) (k : Nat), k < r.length → tr_get (r ++ [v]) k = tr_get r k := by
  intro r
  induction r with
  | nil => intro k h; exact absurd h (Nat.not_lt_zero _)
  | cons x xs ih =>
    intro k h
    cases k with
    | zero => rfl
    | succ k => exact ih k (Nat.lt_of_succ_lt_succ h)
theorem tr_get_e (v : Nat) : ∀ (r : List Nat), tr_get (r ++ [v]) r.length = v := by
  intro r
  induction r with
  | nil => rfl
  | cons x xs ih => exact ih
theorem tr_row_l (x : List Nat) : ∀ (rs : List (List Nat)) (t : Nat), t < rs.length → tr_row (rs ++ [x]) t = tr_row rs t := by
  intro rs
  induction rs with
  | nil => intro k h; exact absurd h (Nat.not_lt_zero _)
  | cons r rs ih =>
    intro k h
    cases k with
    | zero => rfl
    | succ k => exact ih k (Nat.lt_of_succ_lt_succ h)
theorem tr_row_e (x : List Nat) : ∀ (rs : List (List Nat)), tr_row (rs ++ [x]) rs.length = x := by
  intro rs
  induction rs with
  | nil => rfl
  | cons r rs ih => exact ih
theorem tr_row_m : ∀ (rs : List (List Nat)) (t : Nat), t < rs.length → tr_row rs t ∈ rs := by
  intro rs
  induction rs with
  | nil => intro k h; exact absurd h (Nat.not_lt_zero _)
  | cons r rs ih =>
    intro k h
    cases k with
    | zero => exact List.mem_cons_self
    | succ k => exact List.mem_cons_of_mem _ (ih k (Nat.lt_of_succ_lt_succ h))
theorem tr_row_x {r : List Nat} : ∀ (rs : List (List Nat)), r ∈ rs → ∃ t, t < rs.length ∧ tr_row rs t = r := by
  intro rs
  induction rs with
  | nil => intro h; exact absurd h List.not_mem_nil
  | cons q rs ih =>
    intro h
    rcases List.mem_cons.mp h with z | z
    · exact ⟨0, Nat.succ_pos _, z.symm⟩
    · obtain ⟨t, ht, e⟩ := ih z
      exact ⟨t + 1, Nat.succ_lt_succ ht, e⟩
theorem tr_row_t : ∀ (rs : List (List Nat)) (t : Nat), t < rs.length → rs.take (t + 1) = rs.take t ++ [tr_row rs t] := by
  intro rs
  induction rs with
  | nil => intro k h; exact absurd h (Nat.not_lt_zero _)
  | cons r rs ih =>
    intro k h
    cases k with
    | zero => rfl
    | succ k =>
      rw [List.take_succ_cons, List.take_succ_cons, ih k (Nat.lt_of_succ_lt_succ h)]
      rfl
/-- does v stand in the first k places of r -/
def tr_has (r : List Nat) (v : Nat) : Nat → Bool
  | 0 => false
  | k + 1 => tr_has r v k || Nat.beq (tr_get r k) v
/-- the rows that row r gives, with the towns below v -/
def tr_in (r : List Nat) : Nat → List (List Nat)
  | 0 => []
  | v + 1 => tr_in r v ++ (match tr_has r v r.length with | true => [] | false => [r ++ [v]])
def tr_st (n : Nat) (rs : List (List Nat)) : List (List Nat) := rs.flatMap (fun r => tr_in r n)
/-- the rows of s + 1 towns -/
def tr_tb (n : Nat) : Nat → List (List Nat)
  | 0 => [[0]]
  | s + 1 => tr_st n (tr_tb n s)
/-- the rows after tv steps -/
def tr_ac (n : Nat) (rs : List (List Nat)) (tv : Nat) : List (List Nat) :=
  (rs.take (tv / n)).flatMap (fun r => tr_in r n) ++ tr_in (tr_row rs (tv / n)) (tv % n)
theorem tr_ac_0 (n : Nat) (rs : List (List Nat)) : tr_ac n rs 0 = [] := by
  unfold tr_ac
  rw [Nat.zero_div, Nat.zero_mod]
  rfl
theorem tr_ac_s {n tv : Nat} {rs : List (List Nat)} (hn : 0 < n) (h : tv / n < rs.length) :
    tr_ac n rs (tv + 1) = tr_ac n rs tv ++ (match tr_has (tr_row rs (tv / n)) (tv % n) (tr_row rs (tv / n)).length with | true => [] | false => [tr_row rs (tv / n) ++ [tv % n]]) := by
  have dm := Nat.div_add_mod tv n
  have lt := Nat.mod_lt tv hn
  by_cases z : tv % n + 1 = n
  · have e : tv + 1 = n * (tv / n + 1) := by rw [Nat.mul_succ]; omega
    have e1 : (tv + 1) / n = tv / n + 1 := by rw [e, Nat.mul_div_cancel_left _ hn]
    have e2 : (tv + 1) % n = 0 := by rw [e, Nat.mul_mod_right]
    have i : ∀ r, tr_in r n = tr_in r (tv % n + 1) := fun r => by rw [z]
    unfold tr_ac
    rw [e1, e2, tr_row_t rs _ h, List.flatMap_append]
    have j : ([tr_row rs (tv / n)] : List (List Nat)).flatMap (fun r => tr_in r n) = tr_in (tr_row rs (tv / n)) (tv % n + 1) := by
      rw [List.flatMap_cons, List.flatMap_nil, List.append_nil, i]
    rw [j]
    show (_ ++ (tr_in _ (tv % n) ++ _)) ++ [] = _
    rw [List.append_nil, List.append_assoc]
  · have e : tv + 1 = (tv % n + 1) + n * (tv / n) := by omega
    have e1 : (tv + 1) / n = tv / n := by
      rw [e, Nat.add_mul_div_left _ _ hn, Nat.div_eq_of_lt (by omega), Nat.zero_add]
    have e2 : (tv + 1) % n = tv % n + 1 := by
      rw [e, Nat.add_mul_mod_self_left, Nat.mod_eq_of_lt (by omega)]
    unfold tr_ac
    rw [e1, e2]
    show _ ++ (tr_in _ (tv % n) ++ _) = _
    rw [List.append_assoc]
theorem tr_ac_e {n : Nat} (rs : List (List Nat)) (hn : 0 < n) : tr_ac n rs (rs.length * n) = tr_st n rs := by
  unfold tr_ac
  rw [Nat.mul_div_cancel _ hn, Nat.mul_mod_left, List.take_length]
  show _ ++ [] = _
  rw [List.append_nil]
  rfl
theorem tr_dv {n a b : Nat} (h : a < b * n) : a / n < b := Nat.div_lt_of_lt_mul (by rw [Nat.mul_comm]; exact h)
theorem tr_ac_l {n : Nat} (rs : List (List Nat)) (hn : 0 < n) (tv : Nat) : ∀ d, tv + d ≤ rs.length * n → (tr_ac n rs tv).length ≤ (tr_ac n rs (tv + d)).length := by
  intro d
  induction d with
  | zero => intro _; exact Nat.le_refl _
  | succ d ih =>
    intro h
    have a := ih (by omega)
    rw [← Nat.add_assoc, tr_ac_s hn (tr_dv (by omega)), List.length_append]
    omega
/-- a step of the table never has more rows than its end has -/
theorem tr_ac_b {n tv : Nat} (rs : List (List Nat)) (hn : 0 < n) (h : tv ≤ rs.length * n) : (tr_ac n rs tv).length ≤ (tr_st n rs).length := by
  have a := tr_ac_l rs hn tv (rs.length * n - tv) (by omega)
  rw [show tv + (rs.length * n - tv) = rs.length * n by omega, tr_ac_e rs hn] at a
  exact a
/-! the next trip -/
def tr_gr (f : Nat → Nat) : Nat → Nat
  | 0 => 0
  | i + 1 => if f (i + 1) < f (i + 2) then i + 1 else tr_gr f i
def tr_gt (f : Nat → Nat) (p : Nat) : Nat → Nat
  | 0 => p
  | d + 1 => if f p < f (p + (d + 1)) then p + (d + 1) else tr_gt f p d
def tr_sw (f : Nat → Nat) (i j : Nat) : Nat → Nat := fun x => if x = j then f i else if x = i then f j else f x
def tr_rv (f : Nat → Nat) (n p : Nat) : Nat → Nat → Nat
  | 0 => f
  | m + 1 => tr_sw (tr_rv f n p m) (p + (m + 1)) (n - (m + 1))
def tr_nx (n : Nat) (f : Nat → Nat) (p o : Nat) : Nat → Nat := tr_rv (tr_sw f p o) n p ((n - 1 - p) / 2)
def tr_eq (f g : Nat → Nat) : Nat → Bool
  | 0 => true
  | k + 1 => match Nat.beq (f k) (g k) with | true => tr_eq f g k | false => false
def tr_c1 (n : Nat) (f : Nat → Nat) : Bool := Nat.beq (tr_gr f (n - 2)) 0
def tr_c2 (n : Nat) (f g : Nat → Nat) : Bool :=
  match tr_gr f (n - 2) with
  | 0 => false
  | p + 1 => match tr_gt f (p + 1) (n - 1 - (p + 1)) with
    | 0 => false
    | o + 1 => tr_eq (tr_nx n f (p + 1) (o + 1)) g n
def tr_ck (n : Nat) : List (List Nat) → Bool
  | [] => true
  | r :: rs => match (match rs with | [] => tr_c1 n (tr_get r) | q :: _ => tr_c2 n (tr_get r) (tr_get q)) with
    | true => tr_ck n rs
    | false => false
theorem tr_eq_t {f g : Nat → Nat} : ∀ n, tr_eq f g n = true → ∀ k, k < n → f k = g k := by
  intro n
  induction n with
  | zero => intro _ k h; omega
  | succ n ih =>
    intro h k hk
    rw [tr_eq] at h
    cases e : Nat.beq (f n) (g n) with
    | false => rw [e] at h; exact absurd (show false = true from h) Bool.false_ne_true
    | true =>
      rw [e] at h
      by_cases z : k = n
      · rw [z]; exact Nat.eq_of_beq_eq_true e
      · exact ih h k (by omega)
theorem tr_ck_s {n : Nat} : ∀ (rs : List (List Nat)) (t : Nat), tr_ck n rs = true → t + 1 < rs.length → tr_c2 n (tr_get (tr_row rs t)) (tr_get (tr_row rs (t + 1))) = true := by
  intro rs
  induction rs with
  | nil => intro t _ h; exact absurd h (Nat.not_lt_zero _)
  | cons r rs ih =>
    intro t h ht
    cases rs with
    | nil => exact absurd (Nat.lt_of_succ_lt_succ ht) (Nat.not_lt_zero _)
    | cons q qs =>
      have h' : (match tr_c2 n (tr_get r) (tr_get q) with | true => tr_ck n (q :: qs) | false => false) = true := h
      cases e : tr_c2 n (tr_get r) (tr_get q) with
      | false => rw [e] at h'; exact absurd (show false = true from h') Bool.false_ne_true
      | true =>
        rw [e] at h'
        cases t with
        | zero => exact e
        | succ t => exact ih t h' (Nat.lt_of_succ_lt_succ ht)
theorem tr_ck_e {n : Nat} : ∀ (rs : List (List Nat)) (t : Nat), tr_ck n rs = true → t + 1 = rs.length → tr_c1 n (tr_get (tr_row rs t)) = true := by
  intro rs
  induction rs with
  | nil => intro t _ h; exact absurd h (Nat.succ_ne_zero _)
  | cons r rs ih =>
    intro t h ht
    cases rs with
    | nil =>
      have h' : (match tr_c1 n (tr_get r) with | true => tr_ck n [] | false => false) = true := h
      have z : t = 0 := by simpa using ht
      subst z
      cases e : tr_c1 n (tr_get r) with
      | false => rw [e] at h'; exact absurd (show false = true from h') Bool.false_ne_true
      | true => exact e
    | cons q qs =>
      have h' : (match tr_c2 n (tr_get r) (tr_get q) with | true => tr_ck n (q :: qs) | false => false) = true := h
      cases e : tr_c2 n (tr_get r) (tr_get q) with
      | false => rw [e] at h'; exact absurd (show false = true from h') Bool.false_ne_true
      | true =>
        rw [e] at h'
        cases t with
        | zero => exact absurd ht (by simp)
        | succ t => exact ih t h' (Nat.succ.inj ht)
/-! which trips use two towns side by side -/
def tr_nk (n k : Nat) : Nat := if k + 1 = n then 0 else k + 1
def tr_pr (a b u v : Nat) : Prop := (a = u ∧ b = v) ∨ (a = v ∧ b = u)
def tr_us (f : Nat → Nat) (n u v : Nat) : Prop := ∃ k, k < n ∧ tr_pr (f k) (f (tr_nk n k)) u v
def tr_pb (a b u v : Nat) : Bool := (Nat.beq a u && Nat.beq b v) || (Nat.beq a v && Nat.beq b u)
def tr_ub (f : Nat → Nat) (n u v : Nat) : Nat → Bool
  | 0 => false
  | k + 1 => match tr_pb (f k) (f (tr_nk n k)) u v with | true => true | false => tr_ub f n u v k
theorem tr_pb_i (a b u v : Nat) : tr_pb a b u v = true ↔ tr_pr a b u v := by
  unfold tr_pb tr_pr
  rw [Bool.or_eq_true, Bool.and_eq_true, Bool.and_eq_true, Nat.beq_eq, Nat.beq_eq, Nat.beq_eq, Nat.beq_eq]
theorem tr_ub_i (f : Nat → Nat) (n u v : Nat) : ∀ m, tr_ub f n u v m = true ↔ ∃ k, k < m ∧ tr_pr (f k) (f (tr_nk n k)) u v := by
  intro m
  induction m with
  | zero => exact ⟨fun h => absurd (show false = true from h) Bool.false_ne_true, fun ⟨k, h, _⟩ => absurd h (Nat.not_lt_zero _)⟩
  | succ m ih =>
    rw [tr_ub]
    cases e : tr_pb (f m) (f (tr_nk n m)) u v with
    | true => exact ⟨fun _ => ⟨m, Nat.lt_succ_self _, (tr_pb_i _ _ _ _).mp e⟩, fun _ => rfl⟩
    | false =>
      refine ⟨fun h => ?_, fun ⟨k, h, q⟩ => ?_⟩
      · obtain ⟨k, hk, q⟩ := ih.mp h
        exact ⟨k, by omega, q⟩
      · refine ih.mpr ⟨k, ?_, q⟩
        by_cases z : k = m
        · rw [z] at q
          rw [(tr_pb_i _ _ _ _).mpr q] at e
          exact absurd e (fun w => Bool.false_ne_true w.symm)
        · omega
/-! what the tables of 3 to 7 towns are: looked through once, by the kernel -/
def tr_wf (n s : Nat) : List (List Nat) → Bool
  | [] => true
  | r :: rs => match Nat.beq r.length s && r.all (fun x => Nat.ble (x + 1) n) with | true => tr_wf n s rs | false => false
def tr_wa (n : Nat) : Nat → Bool
  | 0 => true
  | s + 1 => tr_wf n (s + 1) (tr_tb n s) && Nat.ble (tr_tb n s).length 720 && tr_wa n s
def tr_an (f : List Nat → Bool) : List (List Nat) → Bool
  | [] => false
  | r :: rs => match f r with | true => true | false => tr_an f rs
def tr_xv (n : Nat) (rs : List (List Nat)) (u : Nat) : Nat → Bool
  | 0 => true
  | v + 1 => (Nat.beq u v || (tr_an (fun r => tr_ub (tr_get r) n u v n) rs && (Nat.beq n 3 || tr_an (fun r => !(tr_ub (tr_get r) n u v n)) rs))) && tr_xv n rs u v
def tr_xu (n : Nat) (rs : List (List Nat)) : Nat → Bool
  | 0 => true
  | u + 1 => tr_xv n rs u n && tr_xu n rs u
def tr_gd (n : Nat) : Bool :=
  tr_wa n n && tr_ck n (tr_tb n (n - 1)) && tr_xu n (tr_tb n (n - 1)) n && tr_eq (tr_get (tr_row (tr_tb n (n - 1)) 0)) (fun k => k) n && Nat.ble 1 (tr_tb n (n - 1)).length
theorem tr_g3 : tr_gd 3 = true := by decide +kernel
theorem tr_g4 : tr_gd 4 = true := by decide +kernel
theorem tr_g5 : tr_gd 5 = true := by decide +kernel
theorem tr_g6 : tr_gd 6 = true := by decide +kernel
theorem tr_g7 : tr_gd 7 = true := by decide +kernel
