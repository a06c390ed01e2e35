/-! Layer 2: the class finds the TOKENS -/
theorem zn_iL_acc (a k d : Nat) : iL (a : Int) * iL (k : Int) + iL (d : Int) = iL ((a * k + d : Nat) : Int) := by
  rw [← Int64.ofInt_mul, ← Int64.ofInt_add]; rfl
theorem zn_letter {x : Nat} (h : zn_le x) : (((nI x - (97 : Int32)) + (1 : Int32)).toInt64) = iL ((x - 96 : Nat) : Int) := by
  show ((nI x - nI 97) + nI 1).toInt64 = _
  unfold zn_le at h
  rw [z_sub (by omega), nI_add, zy_of (by omega), show x - 97 + 1 = x - 96 by omega]
theorem zn_find32 {c : g_St} {u : List Nat} (hw : ∀ k, k < 20 → c.2.1 2 k = zt_wd k) (hu : zn_dg u) (h8 : u.length ≤ 8) : zn_fi (fun i => decide (c.2.1 2 i = iL (ze 32 u : Nat))) 20 = zn_fi (fun i => decide (zn_wu i = u)) 20 := by
  refine zn_fi_c (fun i hi => ?_)
  rw [hw i hi, zn_wu_32 i hi]
  have h1 := ze_lt8 (k := 32) (u := u) (by omega) hu h8
  have h2 := ze_lt8 (k := 32) (u := zn_wu i) (by omega) (zn_wu_dg hi) (zn_wu_d i hi).2.1
  refine decide_eq_decide.2 ⟨fun q => ?_, fun q => by rw [q]⟩
  exact ze_inj (by omega) _ _ (zn_wu_dg hi) hu (iL_inj (by omega) (by omega) q)
theorem zn_word {F n m p : Nat} {s : Nat → Nat} {c : g_St} (hA : zn_A n s c) (hm : c.1 1 6 = nI m) (hm1 : m < 1001) (hp : p < n) (hl : zn_le (s p)) (hF : 1100 < F) : ∃ t, zn_tk n s t ∧ zn_b t = p ∧ ot_readWord F (nI p) c = some (nI (zn_e t), zn_kp c m (zn_k t) p (zn_x t)) := by
  obtain ⟨e, hE⟩ := zn_E_ex zn_le n s (n - p) p rfl (by omega)
  have hn := hA.1
  obtain ⟨e1, e2, e3, e4⟩ := hE
  have run : ot_readWord F (nI p) c = ot_readWord_45 F (nI p) (iL (ze 32 (zn_u s p (e - p)) : Nat)) (nI e) c := by
    unfold ot_readWord
    refine z_cnt0 (n := e - p) (A := fun f i => ot_readWord_5 F (nI p) f (iL (ze 32 (zn_u s p i) : Nat)) (nI (p + i)) c) (fun f i hi => ?_) (fun f => ?_) (by omega)
    · have hli := e3 (p + i) (by omega) (by omega)
      show ot_readWord_5_b F (nI p) _ _ (nI (p + i)) c = _
      unfold ot_readWord_5_b
      rw [hA.2.1, if_pos (show nI (p + i) < nI n by rw [z_lt (by omega) (by omega)]; omega), z_rd (by omega) (by omega), z_sbind, (hA.2.2.1 (p + i) (by omega)).1, zn_isL (zn_A_lt hA (by omega)), z_sbind, if_pos hli, if_neg (by decide), z_sbind]
      unfold ot_withLetter
      rw [zn_letter hli, show (32 : Int64) = iL ((32 : Nat) : Int) from rfl, zn_iL_acc, z_sbind, nI_1]
      rfl
    · show ot_readWord_5_b F (nI p) _ _ (nI (p + (e - p))) c = _
      unfold ot_readWord_5_b
      rw [show p + (e - p) = e by omega, hA.2.1]
      by_cases q : e < n
      · rw [if_pos (show nI e < nI n by rw [z_lt (by omega) (by omega)]; omega), z_rd (by omega) (by omega), z_sbind, (hA.2.2.1 e q).1, zn_isL (zn_A_lt hA q), z_sbind, if_neg (show ¬ zn_le (s e) from e4.resolve_left (by omega)), if_pos (by rfl)]
      · rw [if_neg (show ¬ nI e < nI n by rw [z_lt (by omega) (by omega)]; omega)]
  have hdg : zn_dg (zn_u s p (e - p)) := zn_u_dg (fun i h1 h2 => e3 i h1 (by omega))
  have hlen := zn_u_len s p (e - p)
  by_cases h8 : 8 < e - p
  · refine ⟨((203, p, e), ([], 0, 0)), ⟨hp, Or.inl ⟨hl, ⟨e1, e2, e3, e4⟩, Or.inr ⟨h8, rfl⟩⟩⟩, rfl, ?_⟩
    rw [run]
    unfold ot_readWord_45
    rw [show (20 : Int32) = nI 20 from rfl, zn_indexIn (by omega) (by omega) (by omega), z_sbind, z_sub e1, if_pos (show (8 : Int32) < nI (e - p) by show nI 8 < nI (e - p); rw [z_lt (by omega) (by omega)]; exact h8)]
    rw [show (203 : Int32) = nI 203 from rfl, zn_keep hm hm1, z_sbind]
    rfl
  · obtain ⟨u, hu⟩ : ∃ u, u = zn_u s p (e - p) := ⟨_, rfl⟩
    obtain ⟨k, hk⟩ : ∃ k, k = zn_kn u := ⟨_, rfl⟩
    obtain ⟨x, hx⟩ : ∃ x, x = iL (ze 32 u : Nat) := ⟨_, rfl⟩
    refine ⟨((k, p, e), (u, 0, x)), ⟨hp, Or.inl ⟨hl, ⟨e1, e2, e3, e4⟩, Or.inl ⟨by show e - p ≤ 8; omega, hu, hk, hx⟩⟩⟩, rfl, ?_⟩
    rw [run, ← hu]
    rw [← hu] at hdg hlen
    unfold ot_readWord_45
    rw [show (20 : Int32) = nI 20 from rfl, zn_indexIn (by omega) (by omega) (by omega), z_sbind, z_sub e1, if_neg (show ¬ (8 : Int32) < nI (e - p) by show ¬ nI 8 < nI (e - p); rw [z_lt (by omega) (by omega)]; exact h8)]
    rw [zn_find32 hA.2.2.2 hdg (by omega)]
    have hfl := zn_fi_le (p := fun i => decide (zn_wu i = u)) 20
    unfold zn_kn at hk
    unfold ot_readWord_96
    show _ = some (nI e, zn_kp c m k p x)
    rw [← hx]
    by_cases q : zn_fi (fun i => decide (zn_wu i = u)) 20 = 0
    · rw [if_pos q] at hk
      rw [if_pos (by rw [q]; rfl), show (200 : Int32) = nI 200 from rfl, zn_keep hm hm1, z_sbind, hk]
    · rw [if_neg q] at hk
      rw [if_neg (show ¬ zE _ = (-1 : Int32) from by rw [show (-1 : Int32) = -nI 1 from rfl, zE_m1 (by omega)]; exact q), zE_pos q, zn_keep hm hm1, z_sbind, hk]
theorem zn_numb {F n m p : Nat} {s : Nat → Nat} {c : g_St} (hA : zn_A n s c) (hm : c.1 1 6 = nI m) (hm1 : m < 1001) (hp : p < n) (hl : zn_di (s p)) (hF : 1100 < F) : ∃ t, zn_tk n s t ∧ zn_b t = p ∧ ot_readNumber F (nI p) c = some (nI (zn_e t), zn_kp c m (zn_k t) p (zn_x t)) := by
  obtain ⟨e, hE⟩ := zn_E_ex zn_di n s (n - p) p rfl (by omega)
  have hn := hA.1
  obtain ⟨e1, e2, e3, e4⟩ := hE
  have run : ot_readNumber F (nI p) c = ot_readNumber_45 F (nI p) (nI (zn_v s p (e - p))) (nI e) c := by
    unfold ot_readNumber
    refine z_cnt0 (n := e - p) (A := fun f i => ot_readNumber_4 F (nI p) f (nI (zn_v s p i)) (nI (p + i)) c) (fun f i hi => ?_) (fun f => ?_) (by omega)
    · have hli := e3 (p + i) (by omega) (by omega)
      show ot_readNumber_4_b F (nI p) _ _ (nI (p + i)) c = _
      unfold ot_readNumber_4_b
      rw [hA.2.1, if_pos (show nI (p + i) < nI n by rw [z_lt (by omega) (by omega)]; omega), z_rd (by omega) (by omega), z_sbind, (hA.2.2.1 (p + i) (by omega)).1, zn_isD (zn_A_lt hA (by omega)), z_sbind, if_pos hli, if_neg (by decide), z_sbind, show (10 : Int32) = nI 10 from rfl, show (48 : Int32) = nI 48 from rfl, z_mul, z_sub (by unfold zn_di at hli; omega), nI_add, z_sbind, nI_1]
      rfl
    · show ot_readNumber_4_b F (nI p) _ _ (nI (p + (e - p))) c = _
      unfold ot_readNumber_4_b
      rw [show p + (e - p) = e by omega, hA.2.1]
      by_cases q : e < n
      · rw [if_pos (show nI e < nI n by rw [z_lt (by omega) (by omega)]; omega), z_rd (by omega) (by omega), z_sbind, (hA.2.2.1 e q).1, zn_isD (zn_A_lt hA q), z_sbind, if_neg (show ¬ zn_di (s e) from e4.resolve_left (by omega)), if_pos (by rfl)]
      · rw [if_neg (show ¬ nI e < nI n by rw [z_lt (by omega) (by omega)]; omega)]
  by_cases h8 : 4 < e - p
  · refine ⟨((203, p, e), ([], 0, (nI (zn_v s p (e - p))).toInt64)), ⟨hp, Or.inr (Or.inl ⟨hl, ⟨e1, e2, e3, e4⟩, Or.inr ⟨h8, rfl⟩⟩)⟩, rfl, ?_⟩
    rw [run]
    unfold ot_readNumber_45 ot_readNumber_62
    rw [z_sub e1, if_pos (show (4 : Int32) < nI (e - p) by show nI 4 < nI (e - p); rw [z_lt (by omega) (by omega)]; exact h8), show (203 : Int32) = nI 203 from rfl, zn_keep hm hm1, z_sbind]
    rfl
  · have hv := zn_v_lt (s := s) (b := p) (m := e - p) (fun i h1 h2 => e3 i h1 (by omega))
    have hv2 : (10 : Nat) ^ (e - p) ≤ 10 ^ 4 := Nat.pow_le_pow_right (by omega) (by omega)
    refine ⟨((201, p, e), ([], zn_v s p (e - p), iL (zn_v s p (e - p) : Nat))), ⟨hp, Or.inr (Or.inl ⟨hl, ⟨e1, e2, e3, e4⟩, Or.inl ⟨by show e - p ≤ 4; omega, rfl, rfl, rfl⟩⟩)⟩, rfl, ?_⟩
    rw [run]
    unfold ot_readNumber_45 ot_readNumber_62
    rw [z_sub e1, if_neg (show ¬ (4 : Int32) < nI (e - p) by show ¬ nI 4 < nI (e - p); rw [z_lt (by omega) (by omega)]; exact h8), show (201 : Int32) = nI 201 from rfl, zy_of (by omega), zn_keep hm hm1, z_sbind]
    rfl
/-- the signs -/
theorem zn_ixm {F i : Nat} {μ μ' : g_St} {v3 v4 x : Int32} {k : Nat} : ∀ f v5, jl_indexOfChar_7 F i μ v3 v4 f v5 = some x → jl_indexOfChar_7 (F + k) i μ' v3 v4 (f + k) v5 = some x
  | 0, v5, h => by cases h
  | f + 1, v5, h => by
    rw [show f + 1 + k = (f + k) + 1 by omega]
    show jl_indexOfChar_7_b (F + k) i μ' v3 v4 (jl_indexOfChar_7 (F + k) i μ' v3 v4 (f + k)) v5 = _
    have h : jl_indexOfChar_7_b F i μ v3 v4 (jl_indexOfChar_7 F i μ v3 v4 f) v5 = some x := h
    unfold jl_indexOfChar_7_b at *
    by_cases q : v5 < v3
    · rw [if_pos q] at *
      cases g : g_sbr i v5 with
      | none => rw [g] at h; cases h
      | some y =>
        rw [g, z_sbind] at h
        rw [z_sbind]
        by_cases q2 : y = v4
        · rw [if_pos q2] at *; exact h
        · rw [if_neg q2] at *; exact zn_ixm f _ h
    · rw [if_neg q] at *; exact h
theorem zn_ix0 : ∀ s, s < 127 → jl_indexOfChar_7 10 0 (fun _ _ => 0, fun _ _ => 0, fun _ => 0) (nI 8) (g_nb (nI s)) 10 (nI 0) = some (g_ixo (nI s)) := by decide +kernel
theorem zn_ixs : ∀ s, s < 127 → (0 ≤ g_ixo (nI s)) = (zn_si s) := by
  have h : ∀ s, s < 127 → (0 ≤ g_ixo (nI s) ↔ zn_si s) := by decide +kernel
  exact fun s q => propext (h s q)
theorem zn_ix {F s : Nat} {μ : g_St} (hs : s < 127) (hF : 10 ≤ F) : js_indexOf F 0 μ (nI s) = some (g_ixo (nI s)) := by
  have h := zn_ixm (k := F - 10) (μ' := μ) 10 (nI 0) (zn_ix0 s hs)
  rw [show 10 + (F - 10) = F by omega] at h
  unfold js_indexOf js_indexOf2
  rw [show js_isLatin1 0 μ = some 1 from rfl, z_sbind, if_neg (by decide), show js_length 0 μ = some (nI 8) from rfl, z_sbind]
  unfold jl_indexOf jl_canEncode jl_indexOfChar
  rw [if_pos (show (0 : Int32) ≤ nI s by show nI 0 ≤ nI s; rw [z_le (by omega) (by omega)]; omega), if_pos (show nI s ≤ (255 : Int32) by show nI s ≤ nI 255; rw [z_le (by omega) (by omega)]; omega), z_sbind, if_neg (by decide), if_neg (by decide)]
  rw [show g_max (0 : Int32) (0 : Int32) = nI 0 from rfl, show g_min (nI 8) (Int32.ofNat (g_sl 0)) = nI 8 from rfl, h]; rfl
theorem zn_token {F n m p : Nat} {s : Nat → Nat} {c : g_St} (hA : zn_A n s c) (hm : c.1 1 6 = nI m) (hm1 : m < 1001) (hp : p < n) (hl : ¬ zn_bl (s p)) (hF : 1100 < F) : ∃ t, zn_tk n s t ∧ zn_b t = p ∧ ot_readToken F (nI p) c = some (nI (zn_e t), zn_kp c m (zn_k t) p (zn_x t)) := by
  have hn := hA.1
  have h127 := zn_A_lt hA hp
  unfold ot_readToken
  rw [z_rd (by omega) (by omega), z_sbind, (hA.2.2.1 p hp).1, zn_isL h127, z_sbind]
  by_cases q1 : zn_le (s p)
  · obtain ⟨t, t1, t2, t3⟩ := zn_word hA hm hm1 hp q1 hF
    exact ⟨t, t1, t2, by rw [if_pos q1, if_neg (by decide), t3, z_sbind]⟩
  · rw [if_neg q1, if_pos (by rfl), zn_isD h127, z_sbind]
    by_cases q2 : zn_di (s p)
    · obtain ⟨t, t1, t2, t3⟩ := zn_numb hA hm hm1 hp q2 hF
      exact ⟨t, t1, t2, by rw [if_pos q2, if_neg (by decide), t3, z_sbind]⟩
    · rw [if_neg q2, if_pos (by rfl), if_neg (show ¬ nI (s p) = (32 : Int32) from by show ¬ nI (s p) = nI 32; rw [z_eq (by omega) (by omega)]; exact fun q => hl (Or.inl q)), if_neg (show ¬ nI (s p) = (10 : Int32) from by show ¬ nI (s p) = nI 10; rw [z_eq (by omega) (by omega)]; exact fun q => hl (Or.inr q)), zn_ix h127 (by omega), z_sbind]
      simp only [zn_ixs (s p) h127]
      unfold ot_readToken_62
      by_cases q3 : zn_si (s p)
      · refine ⟨((s p, p, p + 1), ([], 0, 0)), ⟨hp, Or.inr (Or.inr ⟨q1, q2, hl, rfl, Or.inl ⟨q3, rfl⟩⟩)⟩, rfl, ?_⟩
        rw [if_pos q3, zn_keep hm hm1, z_sbind, nI_1]; rfl
      · refine ⟨((203, p, p + 1), ([], 0, 0)), ⟨hp, Or.inr (Or.inr ⟨q1, q2, hl, rfl, Or.inr ⟨q3, rfl⟩⟩)⟩, rfl, ?_⟩
        rw [if_neg q3, show (203 : Int32) = nI 203 from rfl, zn_keep hm hm1, z_sbind, nI_1]; rfl
/-- all TOKENS, one behind the other -/
def zn_pe (T : Nat → zn_K) : Nat → Nat
  | 0 => 0
  | j + 1 => zn_e (T j)
def zn_ch (n : Nat) (s : Nat → Nat) (T : Nat → zn_K) (m : Nat) : Prop := ∀ j, j < m → zn_tk n s (T j) ∧ zn_pe T j ≤ zn_b (T j) ∧ ∀ i, zn_pe T j ≤ i → i < zn_b (T j) → zn_bl (s i)
def zn_end (n : Nat) : zn_K := ((202, n, n), ([], 0, 0))
def zn_ok (n : Nat) (s : Nat → Nat) (T : Nat → zn_K) (m : Nat) : Prop := zn_ch n s T m ∧ zn_pe T m ≤ n ∧ (∀ i, zn_pe T m ≤ i → i < n → zn_bl (s i)) ∧ T m = zn_end n ∧ m ≤ n
def zn_rows (T : Nat → zn_K) (m : Nat) (c : g_St) : Prop := ∀ i, i < m → c.1 4 i = nI (zn_k (T i)) ∧ c.1 5 i = nI (zn_b (T i)) ∧ c.2.1 6 i = zn_x (T i)
def zn_kC (c c2 : g_St) : Prop := (∀ id, id ≠ 1 → id ≠ 4 → id ≠ 5 → c2.1 id = c.1 id) ∧ (∀ k, (k < 6 ∨ 9 < k) → c2.1 1 k = c.1 1 k) ∧ (∀ id, id ≠ 1 → id ≠ 6 → c2.2.1 id = c.2.1 id) ∧ c2.2.2 = c.2.2
theorem zn_kC_refl {c : g_St} : zn_kC c c := ⟨fun _ _ _ _ => rfl, fun _ _ => rfl, fun _ _ _ => rfl, rfl⟩
theorem zn_kC_trans {a b c : g_St} (h : zn_kC a b) (h2 : zn_kC b c) : zn_kC a c := ⟨fun id q1 q2 q3 => by rw [h2.1 id q1 q2 q3, h.1 id q1 q2 q3], fun k q => by rw [h2.2.1 k q, h.2.1 k q], fun id q1 q2 => by rw [h2.2.2.1 id q1 q2, h.2.2.1 id q1 q2], by rw [h2.2.2.2, h.2.2.2]⟩
theorem zn_A_k {n : Nat} {s : Nat → Nat} {c c2 : g_St} (h : zn_A n s c) (hk : zn_kC c c2) : zn_A n s c2 :=
  ⟨h.1, by rw [hk.2.1 2 (by omega)]; exact h.2.1, fun i hi => by rw [hk.1 3 (by omega) (by omega) (by omega)]; exact h.2.2.1 i hi, fun k q => by rw [hk.2.2.1 2 (by omega) (by omega)]; exact h.2.2.2 k q⟩
theorem zn_sL_f {μ : g_St} {id k a : Nat} {v : Int64} (h : a ≠ id) : (g_sL μ id k v).2.1 a = μ.2.1 a := by funext j; rw [z_sL, if_neg (fun q => h q.1)]
theorem zn_kp_k {c : g_St} {m k b : Nat} {x : Int64} : zn_kC c (zn_kp c m k b x) := by
  unfold zn_kp
  refine ⟨fun id q1 q2 q3 => by rw [z_sI_f q1, z_sL_1, z_sI_f q3, z_sI_f q2], fun j q => by rw [z_sI_k (by omega), z_sL_1, z_sI_id (by omega), z_sI_id (by omega)], fun id q1 q2 => ?_, rfl⟩
  rw [z_sI_2, zn_sL_f q2]; rfl
def zn_tx (T : Nat → zn_K) (m : Nat) (t : zn_K) : Nat → zn_K := fun j => if j = m then t else T j
theorem zn_tx_m {T : Nat → zn_K} {m : Nat} {t : zn_K} : zn_tx T m t m = t := if_pos rfl
theorem zn_tx_o {T : Nat → zn_K} {m j : Nat} {t : zn_K} (h : j ≠ m) : zn_tx T m t j = T j := if_neg h
theorem zn_tx_pe {T : Nat → zn_K} {m : Nat} {t : zn_K} : ∀ {j : Nat}, j ≤ m → zn_pe (zn_tx T m t) j = zn_pe T j
  | 0, _ => rfl
  | j + 1, h => by show zn_e (zn_tx T m t j) = zn_e (T j); rw [zn_tx_o (by omega)]
theorem zn_ch_tx {n m : Nat} {s : Nat → Nat} {T : Nat → zn_K} {t : zn_K} (h : zn_ch n s T m) : zn_ch n s (zn_tx T m t) m := by
  intro j hj
  rw [zn_tx_o (show j ≠ m by omega), zn_tx_pe (by omega)]
  exact h j hj
theorem zn_rows_kp {T : Nat → zn_K} {m : Nat} {c : g_St} {t : zn_K} (h : zn_rows T m c) : zn_rows (zn_tx T m t) (m + 1) (zn_kp c m (zn_k t) (zn_b t) (zn_x t)) := by
  intro i hi
  unfold zn_kp
  rw [z_sI_id (by omega), z_sI_id (by omega), z_sL_1, z_sI_id (by omega), z_sI_2, z_sL]
  by_cases e : i = m
  · subst e
    rw [zn_tx_m, z_sI_same, if_pos ⟨rfl, rfl⟩, z_sI_same]
    exact ⟨rfl, rfl, rfl⟩
  · rw [zn_tx_o e, z_sI_k e, z_sI_k e, if_neg (fun q => e q.2)]
    exact h i (by omega)
theorem zn_tk_e {n : Nat} {s : Nat → Nat} {t : zn_K} (h : zn_tk n s t) : zn_b t < zn_e t ∧ zn_e t ≤ n := by
  obtain ⟨hb, h⟩ := h
  rcases h with ⟨h1, ⟨e1, e2, e3, e4⟩, -⟩ | ⟨h1, ⟨e1, e2, e3, e4⟩, -⟩ | ⟨-, -, -, e, -⟩
  · refine ⟨?_, e2⟩
    rcases e4 with q | q
    · omega
    · by_cases e : zn_b t = zn_e t
      · rw [← e] at q; exact absurd h1 q
      · omega
  · refine ⟨?_, e2⟩
    rcases e4 with q | q
    · omega
    · by_cases e : zn_b t = zn_e t
      · rw [← e] at q; exact absurd h1 q
      · omega
  · omega
def zn_pos (T : Nat → zn_K) (c : g_St) (j : Nat) : g_St := g_sL (g_sI (g_sI c 1 7 (nI j)) 1 8 (nI (zn_k (T j)))) 1 9 (zn_x (T j))
theorem zn_adv {T : Nat → zn_K} {m j : Nat} {c : g_St} (h : zn_rows T (m + 1) c) (h6 : c.1 1 6 = nI (m + 1)) (hm : m ≤ 1000) (hj : j ≤ m) (h7 : c.1 1 7 + (1 : Int32) = nI j) : ot_advance c = some (zn_pos T c j) := by
  unfold ot_advance zn_pos
  rw [h7, h6, if_pos (show nI j < nI (m + 1) by rw [z_lt (by omega) (by omega)]; omega), z_sbind, z_sI_same, z_rd (by omega) (by omega), z_sbind, z_sbind, z_sI_id (a := 4) (by omega), z_sI_k (k := 8) (j := 7) (by omega), z_sI_same, z_rl (by omega) (by omega), z_sbind, z_sbind, (h j (by omega)).1]
  show some (g_sL _ 1 9 (c.2.1 6 j)) = _
  rw [(h j (by omega)).2.2]
theorem zn_pos_k {T : Nat → zn_K} {c : g_St} {j : Nat} : zn_kC c (zn_pos T c j) := by
  unfold zn_pos
  refine ⟨fun id q1 q2 q3 => by rw [z_sL_1, z_sI_f q1, z_sI_f q1], fun k q => by rw [z_sL_1, z_sI_k (by omega), z_sI_k (by omega)], fun id q1 q2 => ?_, rfl⟩
  rw [zn_sL_f q1]; rfl
/-- the class stands at a TOKEN -/
def zn_C (n : Nat) (s : Nat → Nat) (T : Nat → zn_K) (m j : Nat) (c : g_St) : Prop := zn_A n s c ∧ zn_ok n s T m ∧ j ≤ m ∧ c.1 1 6 = nI (m + 1) ∧ zn_rows T (m + 1) c ∧ c.1 1 7 = nI j ∧ c.1 1 8 = nI (zn_k (T j)) ∧ c.2.1 1 9 = zn_x (T j)
def zn_nx (m j : Nat) : Nat := if j < m then j + 1 else j
theorem zn_rows_pos {T : Nat → zn_K} {m j : Nat} {c : g_St} (h : zn_rows T m c) : zn_rows T m (zn_pos T c j) := by
  intro i hi
  unfold zn_pos
  rw [z_sL_1, z_sI_id (by omega), z_sI_id (by omega), z_sI_id (by omega), z_sI_id (by omega), zn_sL_f (by omega)]
  exact h i hi
theorem zn_C_pos {n m j : Nat} {s : Nat → Nat} {T : Nat → zn_K} {c : g_St} (hA : zn_A n s c) (ho : zn_ok n s T m) (hj : j ≤ m) (h6 : c.1 1 6 = nI (m + 1)) (hr : zn_rows T (m + 1) c) : zn_C n s T m j (zn_pos T c j) := by
  refine ⟨zn_A_k hA zn_pos_k, ho, hj, ?_, zn_rows_pos hr, ?_, ?_, ?_⟩
  · unfold zn_pos; rw [z_sL_1, z_sI_k (by omega), z_sI_k (by omega)]; exact h6
  · unfold zn_pos; rw [z_sL_1, z_sI_k (by omega), z_sI_same]
  · unfold zn_pos; rw [z_sL_1, z_sI_same]
  · unfold zn_pos; rw [z_sL, if_pos ⟨rfl, rfl⟩]
theorem zn_C_adv {n m j : Nat} {s : Nat → Nat} {T : Nat → zn_K} {c : g_St} (h : zn_C n s T m j c) : z_w (ot_advance c) (fun c2 => zn_C n s T m (zn_nx m j) c2 ∧ zn_kC c c2) := by
  obtain ⟨hA, ho, hj, h6, hr, h7, h8, h9⟩ := h
  have hm := ho.2.2.2.2
  have hn := hA.1
  unfold zn_nx
  by_cases q : j < m
  · rw [if_pos q]
    exact z_w_eq (zn_adv hr h6 (by omega) (j := j + 1) (by omega) (by rw [h7, nI_1])) ⟨zn_C_pos hA ho (by omega) h6 hr, zn_pos_k⟩
  · rw [if_neg q]
    refine z_w_eq (a := c) ?_ ⟨⟨hA, ho, hj, h6, hr, h7, h8, h9⟩, zn_kC_refl⟩
    unfold ot_advance
    rw [h7, h6, nI_1, if_neg (show ¬ nI (j + 1) < nI (m + 1) by rw [z_lt (by omega) (by omega)]; omega)]
/-- all are found -/
theorem zn_open {F n : Nat} {s : Nat → Nat} {c : g_St} (hA : zn_A n s c) (hF : 1100 < F) : z_w (ot_open F c) (fun c2 => ∃ T m, zn_C n s T m 0 c2 ∧ zn_kC (g_sI c 1 10 (0 : Int32)) c2) := by
  have hn := hA.1
  have hA : zn_A n s (g_sI c 1 10 (0 : Int32)) := ⟨hA.1, by rw [z_sI_k (by omega)]; exact hA.2.1, fun i hi => by rw [z_sI_id (by omega)]; exact hA.2.2.1 i hi, hA.2.2.2⟩
  unfold ot_open
  rw [z_sbind, z_sbind]
  have k0 : zn_kC (g_sI c 1 10 (0 : Int32)) (g_sI (g_sI c 1 6 (0 : Int32)) 1 10 (0 : Int32)) := ⟨fun id q1 q2 q3 => by rw [z_sI_f q1, z_sI_f q1, z_sI_f q1], fun k q => by rw [z_sI, z_sI, z_sI, if_neg (show ¬ (1 = 1 ∧ k = 6) by omega)], fun _ _ _ => rfl, rfl⟩
  have h60 : (g_sI (g_sI c 1 6 (0 : Int32)) 1 10 (0 : Int32)).1 1 6 = nI 0 := by rw [z_sI_k (by omega), z_sI_same]; rfl
  generalize g_sI (g_sI c 1 6 (0 : Int32)) 1 10 (0 : Int32) = c0 at k0 h60
  generalize g_sI c 1 10 (0 : Int32) = c at k0 hA
  refine z_mw (σ := Nat × Nat × g_St) (A := fun f q => ot_open_14 F f (nI q.1) (nI q.2.1) q.2.2) (fun q => ∃ T m, zn_ch n s T m ∧ zn_pe T m ≤ q.1 ∧ (∀ i, zn_pe T m ≤ i → i < q.1 → zn_bl (s i)) ∧ q.1 ≤ n ∧ m ≤ q.1 ∧ q.2.1 ≤ q.1 ∧ q.2.2.1 1 6 = nI m ∧ zn_rows T m q.2.2 ∧ zn_kC c q.2.2) (fun q => n - q.1) ?_ F (0, 0, c0) ?_ (by show n - 0 < F; omega)
  · rintro f ⟨p, i, c1⟩ ⟨T, m, h1, h2, h3, h4, h5, h6, h7, h8, h9⟩ go
    have h2 : zn_pe T m ≤ p := h2
    have h3 : ∀ i, zn_pe T m ≤ i → i < p → zn_bl (s i) := h3
    have h4 : p ≤ n := h4
    have h5 : m ≤ p := h5
    have h6 : i ≤ p := h6
    have h7 : c1.1 1 6 = nI m := h7
    have h8 : zn_rows T m c1 := h8
    have h9 : zn_kC c c1 := h9
    have hA1 := zn_A_k hA h9
    show z_w (ot_open_14_b F (ot_open_14 F f) (nI p) (nI i) c1) _
    unfold ot_open_14_b
    by_cases e : p < n
    · rw [if_pos (show nI i < (1000 : Int32) by show nI i < nI 1000; rw [z_lt (by omega) (by omega)]; omega), hA1.2.1, if_pos (show nI p < nI n by rw [z_lt (by omega) (by omega)]; exact e)]
      by_cases b : zn_bl (s p)
      · have h127 := zn_A_lt hA e
        have rt : ot_readToken F (nI p) c1 = some (nI (p + 1), c1) := by
          unfold ot_readToken
          rw [z_rd (by omega) (by omega), z_sbind, (hA1.2.2.1 p e).1, zn_isL h127, z_sbind, if_neg (show ¬ zn_le (s p) by unfold zn_le; unfold zn_bl at b; omega), if_pos (by rfl), zn_isD h127, z_sbind, if_neg (show ¬ zn_di (s p) by unfold zn_di; unfold zn_bl at b; omega), if_pos (by rfl), nI_1]
          rcases b with q | q
          · rw [if_pos (by rw [q]; rfl)]
          · rw [if_neg (by rw [q]; decide), if_pos (by rw [q]; rfl)]
        rw [rt, z_sbind]
        show z_w (ot_open_14 F f (nI (p + 1)) (nI i + 1) c1) _
        rw [nI_1]
        refine go (p + 1, i + 1, c1) ⟨T, m, h1, by show zn_pe T m ≤ p + 1; omega, fun i q1 q2 => ?_, by show p + 1 ≤ n; omega, by show m ≤ p + 1; omega, by show i + 1 ≤ p + 1; omega, h7, h8, h9⟩ (by show n - (p + 1) < n - p; omega)
        have q2 : i < p + 1 := q2
        by_cases e2 : i = p
        · rw [e2]; exact b
        · exact h3 i q1 (by omega)
      · obtain ⟨t, t1, t2, t3⟩ := zn_token (F := F) hA1 h7 (by omega) e b hF
        have te := zn_tk_e t1
        rw [t3, z_sbind]
        show z_w (ot_open_14 F f (nI (zn_e t)) (nI i + 1) (zn_kp c1 m (zn_k t) p (zn_x t))) _
        rw [nI_1]
        refine go (zn_e t, i + 1, zn_kp c1 m (zn_k t) p (zn_x t)) ⟨zn_tx T m t, m + 1, ?_, ?_, ?_, te.2, by show m + 1 ≤ zn_e t; omega, by show i + 1 ≤ zn_e t; omega, ?_, ?_, zn_kC_trans h9 zn_kp_k⟩ (by show n - zn_e t < n - p; omega)
        · intro j hj
          by_cases e2 : j = m
          · rw [e2, zn_tx_m, zn_tx_pe (Nat.le_refl _), t2]; exact ⟨t1, h2, h3⟩
          · exact zn_ch_tx h1 j (by omega)
        · show zn_e (zn_tx T m t m) ≤ _; rw [zn_tx_m]; exact Nat.le_refl _
        · intro i q1 q2
          have q1 : zn_e (zn_tx T m t m) ≤ i := q1
          have q2 : i < zn_e t := q2
          rw [zn_tx_m] at q1; omega
        · show (zn_kp c1 m (zn_k t) p (zn_x t)).1 1 6 = _; unfold zn_kp; rw [z_sI_same]
        · have := zn_rows_kp (t := t) h8; rw [t2] at this; exact this
    · have hp : p = n := by omega
      have fin : z_w (ot_open_41 F c1) (fun c2 => ∃ T m, zn_C n s T m 0 c2 ∧ zn_kC c c2) := by
        unfold ot_open_41
        rw [hA1.2.1, show (202 : Int32) = nI 202 from rfl, zn_keep h7 (by omega), z_sbind, z_sbind]
        have r1 := zn_rows_kp (t := zn_end n) h8
        have a1 := zn_A_k hA1 (zn_kp_k (m := m) (k := 202) (b := n) (x := 0))
        have k1 := zn_kC_trans h9 (zn_kp_k (m := m) (k := 202) (b := n) (x := 0))
        have s1 : (zn_kp c1 m 202 n 0).1 1 6 = nI (m + 1) := by unfold zn_kp; rw [z_sI_same]
        have r1 : zn_rows (zn_tx T m (zn_end n)) (m + 1) (zn_kp c1 m 202 n 0) := r1
        generalize zn_kp c1 m 202 n 0 = c3 at r1 a1 k1 s1
        have k2 : zn_kC c3 (g_sI c3 1 7 (-1 : Int32)) := ⟨fun id q1 q2 q3 => by rw [z_sI_f q1], fun k q => by rw [z_sI_k (by omega)], fun _ _ _ => rfl, rfl⟩
        have r2 : zn_rows (zn_tx T m (zn_end n)) (m + 1) (g_sI c3 1 7 (-1 : Int32)) := fun i hi => by rw [z_sI_id (by omega), z_sI_id (by omega)]; exact r1 i hi
        have s2 : (g_sI c3 1 7 (-1 : Int32)).1 1 6 = nI (m + 1) := by rw [z_sI_k (by omega)]; exact s1
        have s3 : (g_sI c3 1 7 (-1 : Int32)).1 1 7 + (1 : Int32) = nI 0 := by rw [z_sI_same]; rfl
        generalize g_sI c3 1 7 (-1 : Int32) = c4 at k2 r2 s2 s3
        have ok : zn_ok n s (zn_tx T m (zn_end n)) m := by
          refine ⟨zn_ch_tx h1, ?_, ?_, zn_tx_m, by omega⟩
          · rw [zn_tx_pe (Nat.le_refl _)]; omega
          · rw [zn_tx_pe (Nat.le_refl _)]; intro i q1 q2; exact h3 i q1 (by omega)
        rw [zn_adv r2 s2 (by omega) (Nat.zero_le _) s3, z_sbind]
        exact z_w_some ⟨_, m, zn_C_pos (zn_A_k a1 k2) ok (Nat.zero_le _) s2 r2, zn_kC_trans k1 (zn_kC_trans k2 zn_pos_k)⟩
      rw [hA1.2.1, if_neg (show ¬ nI p < nI n by rw [z_lt (by omega) (by omega)]; exact e)]
      split <;> exact fin
  · refine ⟨fun _ => zn_end n, 0, fun j hj => by omega, Nat.le_refl _, fun i _ q => ?_, Nat.zero_le _, Nat.le_refl _, Nat.le_refl _, h60, fun i hi => by omega, k0⟩
    have q : i < 0 := q
    omega
