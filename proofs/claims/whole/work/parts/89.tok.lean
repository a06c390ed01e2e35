/-! Layer 2: the TOKENS of a text; how the class finds them -/
def ze (k : Nat) : List Nat → Nat
  | [] => 0
  | x :: u => ze k u * k + x
def zn_dg (u : List Nat) : Prop := ∀ d, d ∈ u → 1 ≤ d ∧ d ≤ 26
theorem ze_inj {k : Nat} (hk : 27 ≤ k) : ∀ u v : List Nat, zn_dg u → zn_dg v → ze k u = ze k v → u = v
  | [], [], _, _, _ => rfl
  | [], y :: v, _, h, e => by
    have h1 := h y (List.mem_cons_self ..)
    simp only [ze] at e
    omega
  | x :: u, [], h, _, e => by
    have h1 := h x (List.mem_cons_self ..)
    simp only [ze] at e
    omega
  | x :: u, y :: v, h, h2, e => by
    have h1 := h x (List.mem_cons_self ..)
    have h3 := h2 y (List.mem_cons_self ..)
    simp only [ze] at e
    have em := congrArg (· % k) e
    have ed := congrArg (· / k) e
    simp only [Nat.mul_comm _ k, Nat.mul_add_mod, Nat.mul_add_div (show k > 0 by omega), Nat.mod_eq_of_lt (show x < k by omega), Nat.mod_eq_of_lt (show y < k by omega), Nat.div_eq_of_lt (show x < k by omega), Nat.div_eq_of_lt (show y < k by omega), Nat.add_zero] at em ed
    rw [em, ze_inj hk u v (fun d q => h d (List.mem_cons_of_mem _ q)) (fun d q => h2 d (List.mem_cons_of_mem _ q)) ed]
theorem ze_lt {k : Nat} (hk : 27 ≤ k) : ∀ u : List Nat, zn_dg u → ze k u < k ^ u.length
  | [], _ => by show 0 < k ^ 0; rw [Nat.pow_zero]; omega
  | x :: u, h => by
    have h1 := h x (List.mem_cons_self ..)
    have h2 := ze_lt hk u (fun d q => h d (List.mem_cons_of_mem _ q))
    show ze k u * k + x < k ^ (u.length + 1)
    rw [Nat.pow_succ]
    calc ze k u * k + x < ze k u * k + k := by omega
      _ = (ze k u + 1) * k := by rw [Nat.add_mul, Nat.one_mul]
      _ ≤ k ^ u.length * k := Nat.mul_le_mul_right _ (by omega)
theorem ze_lt8 {k : Nat} {u : List Nat} (hk : 27 ≤ k ∧ k ≤ 32) (h : zn_dg u) (h8 : u.length ≤ 8) : ze k u < 1099511627776 := by
  have h1 := ze_lt hk.1 u h
  have h2 : k ^ u.length ≤ k ^ 8 := Nat.pow_le_pow_right (by omega) h8
  have h3 : k ^ 8 ≤ 32 ^ 8 := Nat.pow_le_pow_left hk.2 8
  omega
theorem iL_inj {a b : Nat} (ha : a < 4611686018427387904) (hb : b < 4611686018427387904) (e : iL a = iL b) : a = b := by
  have := congrArg Int64.toInt e
  rw [Int64.toInt_ofInt_of_le (by omega) (by omega), Int64.toInt_ofInt_of_le (by omega) (by omega)] at this
  omega
theorem zn_cmp {x y : Int64} : (lg_cmp x y = 0) = (x = y) := propext (lg_cmp_eq x y)
/-- the first of some -/
def zn_fi (p : Nat → Bool) : Nat → Nat
  | 0 => 0
  | n + 1 => if zn_fi p n = 0 then (if p n then n + 1 else 0) else zn_fi p n
theorem zn_fi_c {p q : Nat → Bool} : ∀ {n : Nat}, (∀ i, i < n → p i = q i) → zn_fi p n = zn_fi q n
  | 0, _ => rfl
  | n + 1, h => by simp only [zn_fi]; rw [zn_fi_c (n := n) (fun i hi => h i (by omega)), h n (by omega)]
theorem zn_fi_m {p : Nat → Bool} {i : Nat} (h : zn_fi p i ≠ 0) : ∀ n, i ≤ n → zn_fi p n = zn_fi p i := by
  intro n
  induction n with
  | zero => intro q; rw [show i = 0 by omega]
  | succ n ih =>
    intro q
    by_cases e : i = n + 1
    · rw [e]
    · have := ih (by omega)
      simp only [zn_fi]; rw [this, if_neg h]
theorem zn_fi_le {p : Nat → Bool} : ∀ n, zn_fi p n ≤ n
  | 0 => Nat.le_refl _
  | n + 1 => by
    have := zn_fi_le (p := p) n
    simp only [zn_fi]
    split
    · split <;> omega
    · omega
theorem zn_fi_s {p : Nat → Bool} : ∀ {n j : Nat}, zn_fi p n = j + 1 → j < n ∧ p j = true
  | 0, j, h => by simp only [zn_fi] at h; omega
  | n + 1, j, h => by
    simp only [zn_fi] at h
    split at h
    · split at h
      · rename_i q; rw [show j = n by omega]; exact ⟨by omega, q⟩
      · omega
    · have := zn_fi_s h; exact ⟨by omega, this.2⟩
theorem zn_fi_0 {p : Nat → Bool} : ∀ {n : Nat}, zn_fi p n = 0 → ∀ j, j < n → p j = false
  | 0, _, j, h => by omega
  | n + 1, h, j, hj => by
    simp only [zn_fi] at h
    split at h
    · rename_i q
      split at h
      · omega
      · rename_i q2
        by_cases e : j = n
        · rw [e]; simpa using q2
        · exact zn_fi_0 q j (by omega)
    · rename_i q; exact absurd h q
theorem zn_indexIn {F a na cnt : Nat} {c : g_St} {x : Int64} (h : cnt ≤ na) (hn : na < 100000) (hF : cnt < F) : oo_indexIn F a na c (nI cnt) x = some (zE (zn_fi (fun i => decide (c.2.1 a i = x)) cnt)) := by
  unfold oo_indexIn
  have key := z_cnt (n := cnt) (A := fun f i => oo_indexIn_3 F a na c (nI cnt) x f (nI i)) (X := some (zE (zn_fi (fun i => decide (c.2.1 a i = x)) cnt))) (fun i => zn_fi (fun i => decide (c.2.1 a i = x)) i = 0) (fun f i hi h0 => ?_) (fun f h0 => ?_) F 0 (Nat.zero_le _) rfl (by omega)
  · exact key
  · have st : oo_indexIn_3 F a na c (nI cnt) x (f + 1) (nI i) = if c.2.1 a i = x then some (nI i) else oo_indexIn_3 F a na c (nI cnt) x f (nI (i + 1)) := by
      show oo_indexIn_3_b F a na c (nI cnt) x _ (nI i) = _
      unfold oo_indexIn_3_b
      rw [if_pos (show nI i < nI cnt by rw [z_lt (by omega) (by omega)]; exact hi), if_pos (show nI i < Int32.ofNat na by show nI i < nI na; rw [z_lt (by omega) (by omega)]; omega), z_rl (by omega) (by omega), z_sbind, nI_1]
      simp only [zn_cmp]
    rw [st]
    by_cases e : c.2.1 a i = x
    · left
      rw [if_pos e]
      have e1 : zn_fi (fun i => decide (c.2.1 a i = x)) (i + 1) = i + 1 := by simp only [zn_fi]; rw [if_pos h0, if_pos (by simpa using e)]
      rw [zn_fi_m (i := i + 1) (by omega) cnt (by omega), e1, zE_s]
    · right
      rw [if_neg e]
      refine ⟨?_, rfl⟩
      simp only [zn_fi]; rw [if_pos h0, if_neg (by simpa using e)]
  · show oo_indexIn_3_b F a na c (nI cnt) x _ (nI cnt) = _
    unfold oo_indexIn_3_b
    rw [if_neg (show ¬ nI cnt < nI cnt by rw [z_lt (by omega) (by omega)]; omega), h0]; rfl
/-- the words of the language -/
def zn_wu (k : Nat) : List Nat := [[5, 3, 1, 12, 16], [25, 1, 23], [4, 15, 15, 7], [19, 18, 21, 15, 8], [13, 15, 18, 6], [14, 15, 19, 18, 5, 16], [20, 1], [19, 5, 11, 1, 13], [19, 20, 14, 1, 23], [12, 21, 6, 23, 1, 12], [14, 5, 8, 23], [4, 14, 1], [18, 15], [20, 15, 14], [14, 23, 15], [20, 18, 1, 16], [20, 18, 15, 19], [18, 15, 15, 4], [25, 1, 23, 1], [5, 5, 18, 6]].getD k []
def zn_wd27 (k : Nat) : Int64 := [(8740067 : Int64), 16819, 149125, 4562587, 131638, 232608281, 47, 6936589, 12253591, 173175987, 458690, 1111, 423, 10631, 11570, 316163, 385418, 90090, 36502, 131360].getD k 0
theorem zn_wu_32 : ∀ k, k < 20 → zt_wd k = iL (ze 32 (zn_wu k) : Nat) := by decide +kernel
theorem zn_wu_27 : ∀ k, k < 20 → zn_wd27 k = iL (ze 27 (zn_wu k) : Nat) := by decide +kernel
theorem zn_wu_d : ∀ k, k < 20 → ((zn_wu k).all (fun d => decide (1 ≤ d ∧ d ≤ 26))) = true ∧ (zn_wu k).length ≤ 8 ∧ 0 < (zn_wu k).length := by decide +kernel
theorem zn_wu_dg {k : Nat} (h : k < 20) : zn_dg (zn_wu k) := by
  have := (zn_wu_d k h).1
  rw [List.all_eq_true] at this
  intro d hd
  simpa using this d hd
theorem zn_wu_i : ∀ i, i < 20 → ∀ j, j < 20 → zn_wu i = zn_wu j → i = j := by decide +kernel
def zn_kn (u : List Nat) : Nat := if zn_fi (fun i => decide (zn_wu i = u)) 20 = 0 then 200 else zn_fi (fun i => decide (zn_wu i = u)) 20 - 1
theorem zn_kn_w (u : List Nat) : zn_kn u < 20 ∨ zn_kn u = 200 := by
  have := zn_fi_le (p := fun i => decide (zn_wu i = u)) 20
  unfold zn_kn
  split
  · exact Or.inr rfl
  · left; omega
theorem zn_kn_eq {u : List Nat} {k : Nat} (hk : k < 20) : (zn_kn u = k) = (u = zn_wu k) := by
  apply propext
  unfold zn_kn
  constructor
  · intro h
    split at h
    · omega
    · rename_i q
      have := (zn_fi_s (p := fun i => decide (zn_wu i = u)) (n := 20) (j := k) (by omega)).2
      simp only [decide_eq_true_eq] at this
      exact this.symm
  · intro h
    split
    · rename_i q
      have := zn_fi_0 q k hk
      simp only [decide_eq_false_iff_not] at this
      exact absurd h.symm this
    · rename_i q
      obtain ⟨j, hj⟩ : ∃ j, zn_fi (fun i => decide (zn_wu i = u)) 20 = j + 1 := ⟨_, (Nat.succ_pred_eq_of_ne_zero q).symm⟩
      have := zn_fi_s hj
      simp only [decide_eq_true_eq] at this
      have e := zn_wu_i j this.1 k hk (by rw [this.2, h])
      omega
/-- runs of signs -/
abbrev zn_le (x : Nat) : Prop := 97 ≤ x ∧ x ≤ 122
abbrev zn_di (x : Nat) : Prop := 48 ≤ x ∧ x ≤ 57
abbrev zn_bl (x : Nat) : Prop := x = 32 ∨ x = 10
abbrev zn_si (x : Nat) : Prop := (40 ≤ x ∧ x ≤ 43) ∨ x = 45 ∨ (59 ≤ x ∧ x ≤ 61)
def zn_E (P : Nat → Prop) (n : Nat) (s : Nat → Nat) (b e : Nat) : Prop := b ≤ e ∧ e ≤ n ∧ (∀ i, b ≤ i → i < e → P (s i)) ∧ (e = n ∨ ¬ P (s e))
theorem zn_E_ex (P : Nat → Prop) (n : Nat) (s : Nat → Nat) : ∀ k b, n - b = k → b ≤ n → ∃ e, zn_E P n s b e := by
  intro k
  induction k with
  | zero => intro b h1 h2; exact ⟨b, Nat.le_refl _, h2, fun i _ _ => by omega, Or.inl (by omega)⟩
  | succ k ih =>
    intro b h1 h2
    by_cases hp : P (s b)
    · obtain ⟨e, e1, e2, e3, e4⟩ := ih (b + 1) (by omega) (by omega)
      refine ⟨e, by omega, e2, fun i hi1 hi2 => ?_, e4⟩
      by_cases q : i = b
      · rw [q]; exact hp
      · exact e3 i (by omega) hi2
    · exact ⟨b, Nat.le_refl _, h2, fun i _ _ => by omega, Or.inr hp⟩
def zn_u (s : Nat → Nat) (b : Nat) : Nat → List Nat
  | 0 => []
  | m + 1 => (s (b + m) - 96) :: zn_u s b m
def zn_v (s : Nat → Nat) (b : Nat) : Nat → Nat
  | 0 => 0
  | m + 1 => zn_v s b m * 10 + (s (b + m) - 48)
theorem zn_u_len (s : Nat → Nat) (b : Nat) : ∀ m, (zn_u s b m).length = m
  | 0 => rfl
  | m + 1 => by show (zn_u s b m).length + 1 = m + 1; rw [zn_u_len]
theorem zn_u_dg {s : Nat → Nat} {b : Nat} : ∀ {m : Nat}, (∀ i, b ≤ i → i < b + m → zn_le (s i)) → zn_dg (zn_u s b m)
  | 0, _ => by intro d h; cases h
  | m + 1, h => by
    intro d hd
    rcases List.mem_cons.1 hd with e | e
    · have := h (b + m) (by omega) (by omega); rw [e]; unfold zn_le at this; omega
    · exact zn_u_dg (m := m) (fun i h1 h2 => h i h1 (by omega)) d e
theorem zn_v_lt {s : Nat → Nat} {b : Nat} : ∀ {m : Nat}, (∀ i, b ≤ i → i < b + m → zn_di (s i)) → zn_v s b m < 10 ^ m
  | 0, _ => by show 0 < 10 ^ 0; rw [Nat.pow_zero]; omega
  | m + 1, h => by
    have h1 := zn_v_lt (m := m) (fun i h1 h2 => h i h1 (by omega))
    have h2 := h (b + m) (by omega) (by omega)
    unfold zn_di at h2
    show zn_v s b m * 10 + (s (b + m) - 48) < 10 ^ (m + 1)
    rw [Nat.pow_succ]; omega
/-- a TOKEN: its kind, where it begins, where it ends; its letters, its number, what the class keeps of it -/
abbrev zn_K : Type := (Nat × Nat × Nat) × (List Nat × Nat × Int64)
def zn_k (t : zn_K) : Nat := t.1.1
def zn_b (t : zn_K) : Nat := t.1.2.1
def zn_e (t : zn_K) : Nat := t.1.2.2
def zn_w (t : zn_K) : List Nat := t.2.1
def zn_n (t : zn_K) : Nat := t.2.2.1
def zn_x (t : zn_K) : Int64 := t.2.2.2
def zn_tk (n : Nat) (s : Nat → Nat) (t : zn_K) : Prop := zn_b t < n ∧
  ((zn_le (s (zn_b t)) ∧ zn_E zn_le n s (zn_b t) (zn_e t) ∧ ((zn_e t - zn_b t ≤ 8 ∧ zn_w t = zn_u s (zn_b t) (zn_e t - zn_b t) ∧ zn_k t = zn_kn (zn_w t) ∧ zn_x t = iL (ze 32 (zn_w t) : Nat)) ∨ (8 < zn_e t - zn_b t ∧ zn_k t = 203)))
  ∨ (zn_di (s (zn_b t)) ∧ zn_E zn_di n s (zn_b t) (zn_e t) ∧ ((zn_e t - zn_b t ≤ 4 ∧ zn_k t = 201 ∧ zn_n t = zn_v s (zn_b t) (zn_e t - zn_b t) ∧ zn_x t = iL (zn_n t : Nat)) ∨ (4 < zn_e t - zn_b t ∧ zn_k t = 203)))
  ∨ (¬ zn_le (s (zn_b t)) ∧ ¬ zn_di (s (zn_b t)) ∧ ¬ zn_bl (s (zn_b t)) ∧ zn_e t = zn_b t + 1 ∧ ((zn_si (s (zn_b t)) ∧ zn_k t = s (zn_b t)) ∨ (¬ zn_si (s (zn_b t)) ∧ zn_k t = 203))))
/-- the TAPE of the class -/
def zn_A (n : Nat) (s : Nat → Nat) (c : g_St) : Prop := n ≤ 1000 ∧ c.1 1 2 = nI n ∧ (∀ i, i < n → c.1 3 i = nI (s i) ∧ zt_ok (s i)) ∧ ∀ k, k < 20 → c.2.1 2 k = zt_wd k
theorem zn_A_lt {n : Nat} {s : Nat → Nat} {c : g_St} (h : zn_A n s c) {i : Nat} (hi : i < n) : s i < 127 := by
  have := (h.2.2.1 i hi).2
  unfold zt_ok at this; omega
theorem zn_isL {μ : g_St} {x : Nat} (h : x < 127) : ot_isLetter μ (nI x) = some (if zn_le x then nI 1 else nI 0) := by
  unfold ot_isLetter
  simp (disch := omega) only [↓reduceIte, nI_lit, z_sbind, z_rd, z_rl, z_rr, z_wr, z_wl, nI_add, z_mul, z_lt, z_le, z_eq, z_ltm1, z_m1lt, z_eqm1, z_m1eq, z_lem1, z_m1le, if_true, if_false, ite_true, ite_false]
  by_cases h1 : 97 ≤ x
  · by_cases h2 : x ≤ 122
    · rw [if_pos h1, if_pos h2, if_pos ⟨h1, h2⟩]
    · rw [if_pos h1, if_neg h2, if_neg (fun q => h2 q.2)]
  · rw [if_neg h1, if_neg (fun q => h1 q.1)]
theorem zn_isD {μ : g_St} {x : Nat} (h : x < 127) : ot_isDigit μ (nI x) = some (if zn_di x then nI 1 else nI 0) := by
  unfold ot_isDigit
  simp (disch := omega) only [↓reduceIte, nI_lit, z_sbind, z_rd, z_rl, z_rr, z_wr, z_wl, nI_add, z_mul, z_lt, z_le, z_eq, z_ltm1, z_m1lt, z_eqm1, z_m1eq, z_lem1, z_m1le, if_true, if_false, ite_true, ite_false]
  by_cases h1 : 48 ≤ x
  · by_cases h2 : x ≤ 57
    · rw [if_pos h1, if_pos h2, if_pos ⟨h1, h2⟩]
    · rw [if_pos h1, if_neg h2, if_neg (fun q => h2 q.2)]
  · rw [if_neg h1, if_neg (fun q => h1 q.1)]
def zn_kp (c : g_St) (m k b : Nat) (x : Int64) : g_St := g_sI (g_sL (g_sI (g_sI c 4 m (nI k)) 5 m (nI b)) 6 m x) 1 6 (nI (m + 1))
theorem zn_keep {c : g_St} {m k b : Nat} {x : Int64} (h : c.1 1 6 = nI m) (hm : m < 1001) : ot_keep (nI k) (nI b) x c = some (zn_kp c m k b x) := by
  unfold ot_keep zn_kp
  rw [h, if_pos (show nI m < (1001 : Int32) from nI_lt (b := 1001) hm (by omega)), z_wr hm (by omega), z_sbind, z_sI_id (by omega), h, z_wr hm (by omega), z_sbind, z_sI_id (by omega), z_sI_id (by omega), h, z_wl hm (by omega), z_sbind, z_sbind, z_sL_1, z_sI_id (by omega), z_sI_id (by omega), h, nI_1]
