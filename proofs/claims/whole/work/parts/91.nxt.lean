/-! Layer 2: the reference finds the same TOKENS -/
def zn_rk (k : Nat) : Nat := if k < 20 ∨ k = 200 then 1 else if k = 201 then 2 else if k = 202 then 0 else if k = 203 then 4 else 3
abbrev zn_isw (k : Nat) : Prop := k < 20 ∨ k = 200
def zn_B (n : Nat) (s : Nat → Nat) (r : g_St) : Prop := n ≤ 1000 ∧ (∀ i, i < n → r.1 1 i = nI (s i) ∧ zt_ok (s i)) ∧ r.1 0 3 = nI n
def zn_kR (r r2 : g_St) : Prop := (∀ id, id ≠ 0 → r2.1 id = r.1 id) ∧ (∀ k, k ≠ 4 → k ≠ 5 → k ≠ 6 → k ≠ 8 → r2.1 0 k = r.1 0 k) ∧ (∀ id, id ≠ 0 → r2.2.1 id = r.2.1 id) ∧ r2.2.2 = r.2.2
theorem zn_kR_refl {r : g_St} : zn_kR r r := ⟨fun _ _ => rfl, fun _ _ _ _ _ => rfl, fun _ _ => rfl, rfl⟩
theorem zn_kR_trans {a b c : g_St} (h : zn_kR a b) (h2 : zn_kR b c) : zn_kR a c := ⟨fun id q => by rw [h2.1 id q, h.1 id q], fun k q1 q2 q3 q4 => by rw [h2.2.1 k q1 q2 q3 q4, h.2.1 k q1 q2 q3 q4], fun id q => by rw [h2.2.2.1 id q, h.2.2.1 id q], by rw [h2.2.2.2, h.2.2.2]⟩
theorem zn_kR_I {r : g_St} {k : Nat} {v : Int32} (h : k = 4 ∨ k = 5 ∨ k = 6 ∨ k = 8) : zn_kR r (g_sI r 0 k v) := ⟨fun id q => z_sI_f q, fun j q1 q2 q3 q4 => z_sI_k (by omega), fun _ _ => rfl, rfl⟩
theorem zn_kR_L {r : g_St} {v : Int64} : zn_kR r (g_sL r 0 7 v) := ⟨fun _ _ => rfl, fun _ _ _ _ _ => rfl, fun id q => zn_sL_f q, rfl⟩
theorem zn_B_k {n : Nat} {s : Nat → Nat} {r r2 : g_St} (h : zn_B n s r) (hk : zn_kR r r2) : zn_B n s r2 := ⟨h.1, fun i hi => by rw [hk.1 1 (by omega)]; exact h.2.1 i hi, by rw [hk.2.1 3 (by omega) (by omega) (by omega) (by omega)]; exact h.2.2⟩
theorem zn_signAt {n i : Nat} {s : Nat → Nat} {r : g_St} (h : zn_B n s r) (hi : i < 2000) : mm_signAt r (nI i) = some (nI (if i < n then s i else 0)) := by
  have := h.1
  unfold mm_signAt
  rw [h.2.2]
  by_cases q : i < n
  · rw [if_pos (show nI i < nI n by rw [z_lt (by omega) (by omega)]; exact q), z_rd (by omega) (by omega), z_sbind, (h.2.1 i q).1, if_pos q]
  · rw [if_neg (show ¬ nI i < nI n by rw [z_lt (by omega) (by omega)]; exact q), if_neg q]; rfl
/-- the reference stands at a TOKEN -/
def zn_at (t : zn_K) (r : g_St) : Prop := r.1 0 4 = nI (zn_e t) ∧ r.1 0 5 = nI (zn_b t) ∧ r.1 0 6 = nI (zn_rk (zn_k t)) ∧ (zn_isw (zn_k t) → r.2.1 0 7 = iL (ze 27 (zn_w t) : Nat)) ∧ (zn_k t = 201 → r.1 0 8 = nI (zn_n t))
theorem zn_acc27 {a x : Nat} (h : zn_le x) : (iL (a : Int) * (27 : Int64) + (nI x).toInt64) - (96 : Int64) = iL ((a * 27 + (x - 96) : Nat) : Int) := by
  unfold zn_le at h
  rw [zy_of (by omega), show (27 : Int64) = iL (27 : Int) from rfl, show (96 : Int64) = iL (96 : Int) from rfl, ← Int64.ofInt_mul, ← Int64.ofInt_add, ← Int64.ofInt_sub]
  show iL _ = iL _
  congr 1
  omega
theorem zn_R_word {F n b e : Nat} {s : Nat → Nat} {r r0 : g_St} {t : zn_K} (hB : zn_B n s r) (h4 : r.1 0 4 = nI b) (h5 : r.1 0 5 = nI b) (h7 : r.2.1 0 7 = 0) (hE : zn_E zn_le n s b e) (hl : b < e) (tb : zn_b t = b) (te : zn_e t = e) (ht : (e - b ≤ 8 ∧ zn_w t = zn_u s b (e - b) ∧ zn_k t = zn_kn (zn_w t)) ∨ (8 < e - b ∧ zn_k t = 203)) (hF : 1100 < F) : z_w (mm_nextToken_109 F F r) (fun r2 => zn_at t r2 ∧ zn_kR r r2) := by
  obtain ⟨e1, e2, e3, e4⟩ := hE
  have hn := hB.1
  refine z_cw (n := e - b) (A := fun f k μ => mm_nextToken_109 F f μ) (fun k μ => μ.1 0 4 = nI (b + k) ∧ μ.1 0 5 = nI b ∧ (k ≤ 8 → μ.2.1 0 7 = iL (ze 27 (zn_u s b k) : Nat)) ∧ zn_kR r μ) ?_ ?_ F 0 r (Nat.zero_le _) ⟨h4, h5, fun _ => h7, zn_kR_refl⟩ (by omega)
  · intro f k μ hk ⟨g4, g5, g7, gk⟩ go
    have hli := e3 (b + k) (by omega) (by omega)
    have hli2 := hli
    unfold zn_le at hli2
    have hB2 := zn_B_k hB gk
    have sg : mm_signAt μ (nI (b + k)) = some (nI (s (b + k))) := by rw [zn_signAt hB2 (by omega), if_pos (by omega)]
    show z_w (mm_nextToken_109_b F (mm_nextToken_109 F f) μ) _
    unfold mm_nextToken_109_b
    rw [g4, sg, z_sbind, if_pos (show (97 : Int32) ≤ nI (s (b + k)) by show nI 97 ≤ nI _; rw [z_le (by omega) (by omega)]; omega), z_sbind, if_pos (show nI (s (b + k)) ≤ (122 : Int32) by show nI _ ≤ nI 122; rw [z_le (by omega) (by omega)]; omega), g5, z_sub (by omega), show b + k - b = k by omega]
    by_cases q : k < 8
    · rw [if_pos (show nI k < (8 : Int32) from nI_lt (b := 8) q (by omega)), z_sbind, z_sbind, z_sbind, g7 (by omega), zn_acc27 hli, z_sL_1, g4, nI_1]
      refine go _ ⟨by rw [z_sI_same]; rfl, by rw [z_sI_k (by omega)]; exact g5, fun _ => ?_, zn_kR_trans gk (zn_kR_trans zn_kR_L (zn_kR_I (by omega)))⟩
      rw [z_sI_2, z_sL, if_pos ⟨rfl, rfl⟩]; rfl
    · rw [if_neg (show ¬ nI k < (8 : Int32) by show ¬ nI k < nI 8; rw [z_lt (by omega) (by omega)]; exact q), z_sbind, nI_1]
      exact go _ ⟨by rw [z_sI_same]; rfl, by rw [z_sI_k (by omega)]; exact g5, fun q2 => absurd q2 (by omega), zn_kR_trans gk (zn_kR_I (by omega))⟩
  · intro f μ ⟨g4, g5, g7, gk⟩
    have hB2 := zn_B_k hB gk
    rw [show b + (e - b) = e by omega] at g4
    have fin : z_w (mm_nextToken_188 F μ) (fun r2 => zn_at t r2 ∧ zn_kR r r2) := by
      unfold mm_nextToken_188
      rw [g4, g5, z_sub e1]
      rcases ht with ⟨t1, t2, t3⟩ | ⟨t1, t2⟩
      · rw [if_neg (show ¬ (8 : Int32) < nI (e - b) by show ¬ nI 8 < nI _; rw [z_lt (by omega) (by omega)]; omega), z_sbind]
        have kw := zn_kn_w (zn_w t)
        refine z_w_some ⟨⟨by rw [z_sI_k (by omega), te]; exact g4, by rw [z_sI_k (by omega), tb]; exact g5, ?_, fun _ => ?_, fun q => ?_⟩, zn_kR_trans gk (zn_kR_I (by omega))⟩
        · rw [z_sI_same, t3]; unfold zn_rk; rw [if_pos kw]; rfl
        · rw [z_sI_2, t2]; exact g7 t1
        · rw [t3] at q; omega
      · rw [if_pos (show (8 : Int32) < nI (e - b) by show nI 8 < nI _; rw [z_lt (by omega) (by omega)]; omega), z_sbind]
        refine z_w_some ⟨⟨by rw [z_sI_k (by omega), te]; exact g4, by rw [z_sI_k (by omega), tb]; exact g5, ?_, fun q => ?_, fun q => ?_⟩, zn_kR_trans gk (zn_kR_I (by omega))⟩
        · rw [z_sI_same, t2]; rfl
        · rw [t2] at q; unfold zn_isw at q; omega
        · omega
    show z_w (mm_nextToken_109_b F (mm_nextToken_109 F f) μ) _
    unfold mm_nextToken_109_b
    rw [g4, zn_signAt hB2 (by omega), z_sbind, z_sbind]
    by_cases q : e < n
    · rw [if_pos q]
      have ne : ¬ zn_le (s e) := e4.resolve_left (by omega)
      have h127 := (hB2.2.1 e q).2
      unfold zt_ok at h127
      unfold zn_le at ne
      by_cases q1 : 97 ≤ s e
      · rw [if_pos (show (97 : Int32) ≤ nI (s e) by show nI 97 ≤ nI _; rw [z_le (by omega) (by omega)]; omega), if_neg (show ¬ nI (s e) ≤ (122 : Int32) by show ¬ nI _ ≤ nI 122; rw [z_le (by omega) (by omega)]; omega)]
        exact fin
      · rw [if_neg (show ¬ (97 : Int32) ≤ nI (s e) by show ¬ nI 97 ≤ nI _; rw [z_le (by omega) (by omega)]; omega)]
        exact fin
    · rw [if_neg q, if_neg (by decide)]
      exact fin
theorem zn_R_numb {F n b e : Nat} {s : Nat → Nat} {r r0 : g_St} {t : zn_K} (hB : zn_B n s r) (h4 : r.1 0 4 = nI b) (h5 : r.1 0 5 = nI b) (h7 : r.1 0 8 = nI 0) (hE : zn_E zn_di n s b e) (hl : b < e) (tb : zn_b t = b) (te : zn_e t = e) (ht : (e - b ≤ 4 ∧ zn_k t = 201 ∧ zn_n t = zn_v s b (e - b)) ∨ (4 < e - b ∧ zn_k t = 203)) (hF : 1100 < F) : z_w (mm_nextToken_224 F F r) (fun r2 => zn_at t r2 ∧ zn_kR r r2) := by
  obtain ⟨e1, e2, e3, e4⟩ := hE
  have hn := hB.1
  refine z_cw (n := e - b) (A := fun f k μ => mm_nextToken_224 F f μ) (fun k μ => μ.1 0 4 = nI (b + k) ∧ μ.1 0 5 = nI b ∧ (k ≤ 4 → μ.1 0 8 = nI (zn_v s b k)) ∧ zn_kR r μ) ?_ ?_ F 0 r (Nat.zero_le _) ⟨h4, h5, fun _ => h7, zn_kR_refl⟩ (by omega)
  · intro f k μ hk ⟨g4, g5, g7, gk⟩ go
    have hli := e3 (b + k) (by omega) (by omega)
    have hli2 := hli
    unfold zn_di at hli2
    have hB2 := zn_B_k hB gk
    have sg : mm_signAt μ (nI (b + k)) = some (nI (s (b + k))) := by rw [zn_signAt hB2 (by omega), if_pos (by omega)]
    show z_w (mm_nextToken_224_b F (mm_nextToken_224 F f) μ) _
    unfold mm_nextToken_224_b
    rw [g4, sg, z_sbind, if_pos (show (48 : Int32) ≤ nI (s (b + k)) by show nI 48 ≤ nI _; rw [z_le (by omega) (by omega)]; omega), z_sbind, if_pos (show nI (s (b + k)) ≤ (57 : Int32) by show nI _ ≤ nI 57; rw [z_le (by omega) (by omega)]; omega), g5, z_sub (by omega), show b + k - b = k by omega]
    by_cases q : k < 4
    · rw [if_pos (show nI k < (4 : Int32) from nI_lt (b := 4) q (by omega)), z_sbind, z_sbind, z_sbind, g7 (by omega), z_sI_k (by omega), g4, nI_1, show (10 : Int32) = nI 10 from rfl, show (48 : Int32) = nI 48 from rfl, z_mul, nI_add, z_sub (by omega)]
      refine go _ ⟨by rw [z_sI_same]; rfl, by rw [z_sI_k (by omega), z_sI_k (by omega)]; exact g5, fun _ => ?_, zn_kR_trans gk (zn_kR_trans (zn_kR_I (by omega)) (zn_kR_I (by omega)))⟩
      rw [z_sI_k (by omega), z_sI_same]
      show nI _ = nI (zn_v s b k * 10 + (s (b + k) - 48))
      congr 1; omega
    · rw [if_neg (show ¬ nI k < (4 : Int32) by show ¬ nI k < nI 4; rw [z_lt (by omega) (by omega)]; exact q), z_sbind, nI_1]
      exact go _ ⟨by rw [z_sI_same]; rfl, by rw [z_sI_k (by omega)]; exact g5, fun q2 => absurd q2 (by omega), zn_kR_trans gk (zn_kR_I (by omega))⟩
  · intro f μ ⟨g4, g5, g7, gk⟩
    have hB2 := zn_B_k hB gk
    rw [show b + (e - b) = e by omega] at g4
    have fin : z_w (mm_nextToken_299 F μ) (fun r2 => zn_at t r2 ∧ zn_kR r r2) := by
      unfold mm_nextToken_299
      rw [g4, g5, z_sub e1]
      rcases ht with ⟨t1, t2, t3⟩ | ⟨t1, t2⟩
      · rw [if_neg (show ¬ (4 : Int32) < nI (e - b) by show ¬ nI 4 < nI _; rw [z_lt (by omega) (by omega)]; omega), z_sbind]
        refine z_w_some ⟨⟨by rw [z_sI_k (by omega), te]; exact g4, by rw [z_sI_k (by omega), tb]; exact g5, ?_, fun q => ?_, fun _ => ?_⟩, zn_kR_trans gk (zn_kR_I (by omega))⟩
        · rw [z_sI_same, t2]; rfl
        · rw [t2] at q; unfold zn_isw at q; omega
        · rw [z_sI_k (by omega), t3]; exact g7 t1
      · rw [if_pos (show (4 : Int32) < nI (e - b) by show nI 4 < nI _; rw [z_lt (by omega) (by omega)]; omega), z_sbind]
        refine z_w_some ⟨⟨by rw [z_sI_k (by omega), te]; exact g4, by rw [z_sI_k (by omega), tb]; exact g5, ?_, fun q => ?_, fun q => ?_⟩, zn_kR_trans gk (zn_kR_I (by omega))⟩
        · rw [z_sI_same, t2]; rfl
        · rw [t2] at q; unfold zn_isw at q; omega
        · omega
    show z_w (mm_nextToken_224_b F (mm_nextToken_224 F f) μ) _
    unfold mm_nextToken_224_b
    rw [g4, zn_signAt hB2 (by omega), z_sbind, z_sbind]
    by_cases q : e < n
    · rw [if_pos q]
      have ne : ¬ zn_di (s e) := e4.resolve_left (by omega)
      have h127 := (hB2.2.1 e q).2
      unfold zt_ok at h127
      unfold zn_di at ne
      by_cases q1 : 48 ≤ s e
      · rw [if_pos (show (48 : Int32) ≤ nI (s e) by show nI 48 ≤ nI _; rw [z_le (by omega) (by omega)]; omega), if_neg (show ¬ nI (s e) ≤ (57 : Int32) by show ¬ nI _ ≤ nI 57; rw [z_le (by omega) (by omega)]; omega)]
        exact fin
      · rw [if_neg (show ¬ (48 : Int32) ≤ nI (s e) by show ¬ nI 48 ≤ nI _; rw [z_le (by omega) (by omega)]; omega)]
        exact fin
    · rw [if_neg q, if_neg (by decide)]
      exact fin
theorem zn_R_sign {F n b : Nat} {s : Nat → Nat} {r : g_St} {t : zn_K} (hB : zn_B n s r) (h4 : r.1 0 4 = nI b) (h5 : r.1 0 5 = nI b) (hb : b < n) (tb : zn_b t = b) (te : zn_e t = b + 1) (ht : (zn_si (s b) ∧ zn_k t = s b) ∨ (¬ zn_si (s b) ∧ zn_k t = 203)) : z_w (mm_nextToken_322 F (nI (s b)) r) (fun r2 => zn_at t r2 ∧ zn_kR r r2) := by
  have hn := hB.1
  have h127 := (hB.2.1 b hb).2
  unfold zt_ok at h127
  unfold mm_nextToken_322 mm_nextToken_345
  rw [z_sbind, h4, nI_1]
  have fin : ∀ v : Int32, v = nI (zn_rk (zn_k t)) → z_w ((some (g_sI (g_sI r 0 4 (nI (b + 1))) 0 6 v)).bind fun μ => some μ) (fun r2 => zn_at t r2 ∧ zn_kR r r2) := by
    intro v hv
    refine z_w_some ⟨⟨by rw [z_sI_k (by omega), z_sI_same, te], by rw [z_sI_k (by omega), z_sI_k (by omega), tb]; exact h5, by rw [z_sI_same]; exact hv, fun q => ?_, fun q => ?_⟩, zn_kR_trans (zn_kR_I (by omega)) (zn_kR_I (by omega))⟩
    · rcases ht with ⟨t1, t2⟩ | ⟨t1, t2⟩
      · unfold zn_si at t1; unfold zn_isw at q; omega
      · unfold zn_isw at q; omega
    · rcases ht with ⟨t1, t2⟩ | ⟨t1, t2⟩
      · unfold zn_si at t1; omega
      · omega
  have si : zn_si (s b) → nI 3 = nI (zn_rk (zn_k t)) := by
    intro q
    rcases ht with ⟨t1, t2⟩ | ⟨t1, t2⟩
    · rw [t2]; unfold zn_si at t1; unfold zn_rk; rw [if_neg (by omega), if_neg (by omega), if_neg (by omega), if_neg (by omega)]
    · exact absurd q t1
  have ns : ¬ zn_si (s b) → nI 4 = nI (zn_rk (zn_k t)) := by
    intro q
    rcases ht with ⟨t1, t2⟩ | ⟨t1, t2⟩
    · exact absurd t1 q
    · rw [t2]; rfl
  simp (disch := omega) only [↓reduceIte, nI_lit, z_sbind, z_rd, z_rl, z_rr, z_wr, z_wl, nI_add, z_mul, z_lt, z_le, z_eq, z_ltm1, z_m1lt, z_eqm1, z_m1eq, z_lem1, z_m1le, if_true, if_false, ite_true, ite_false]
  unfold zn_si at si ns
  repeat' split
  all_goals first | exact fin _ (si (by omega)) | exact fin _ (ns (by omega)) 
theorem zn_next0 {F n p : Nat} {s : Nat → Nat} {r : g_St} {t : zn_K} (hB : zn_B n s r) (h4 : r.1 0 4 = nI p) (hp : p ≤ zn_b t) (hbl : ∀ i, p ≤ i → i < zn_b t → zn_bl (s i)) (ht : zn_tk n s t ∨ t = zn_end n) (hF : 1100 < F) : z_w (mm_nextToken F r) (fun r2 => zn_at t r2 ∧ zn_kR r r2) := by
  have hn := hB.1
  have hbn : zn_b t ≤ n := by
    rcases ht with q | q
    · have := q.1; omega
    · rw [q]; exact Nat.le_refl _
  obtain ⟨b, hb⟩ : ∃ b, zn_b t = b := ⟨_, rfl⟩
  rw [hb] at hp hbl hbn
  unfold mm_nextToken
  refine z_cw (n := b - p) (A := fun f k μ => mm_nextToken_0 F f μ) (fun k μ => μ.1 0 4 = nI (p + k) ∧ zn_kR r μ) ?_ ?_ F 0 r (Nat.zero_le _) ⟨h4, zn_kR_refl⟩ (by omega)
  · intro f k μ hk ⟨g4, gk⟩ go
    have hli := hbl (p + k) (by omega) (by omega)
    have hB2 := zn_B_k hB gk
    have nx : z_w (mm_nextToken_0 F f (g_sI μ 0 4 (nI (p + k) + (1 : Int32)))) (fun r2 => zn_at t r2 ∧ zn_kR r r2) := by
      refine go _ ⟨by rw [z_sI_same, nI_1]; rfl, zn_kR_trans gk (zn_kR_I (by omega))⟩
    show z_w (mm_nextToken_0_b F (mm_nextToken_0 F f) μ) _
    unfold mm_nextToken_0_b
    rw [g4, hB2.2.2, if_pos (show nI (p + k) < nI n by rw [z_lt (by omega) (by omega)]; omega), z_rd (by omega) (by omega), z_sbind, (hB2.2.1 (p + k) (by omega)).1]
    rcases hli with q | q
    · rw [if_pos (by rw [q]; rfl), z_sbind]; exact nx
    · rw [if_neg (by rw [q]; decide), z_sbind, if_pos (by rw [q]; rfl), z_sbind]; exact nx
  · intro f μ ⟨g4, gk⟩
    have hB2 := zn_B_k hB gk
    rw [show p + (b - p) = b by omega] at g4
    have fin : z_w (mm_nextToken_52 F μ) (fun r2 => zn_at t r2 ∧ zn_kR r r2) := by
      unfold mm_nextToken_52
      rw [z_sbind, z_sbind, z_sbind]
      have k6 : zn_kR r (g_sI (g_sL (g_sI μ 0 5 (μ.1 0 4)) 0 7 (0 : Int64)) 0 8 (0 : Int32)) := zn_kR_trans gk (zn_kR_trans (zn_kR_I (by omega)) (zn_kR_trans zn_kR_L (zn_kR_I (by omega))))
      have s4 : (g_sI (g_sL (g_sI μ 0 5 (μ.1 0 4)) 0 7 (0 : Int64)) 0 8 (0 : Int32)).1 0 4 = nI b := by rw [z_sI_k (by omega), z_sL_1, z_sI_k (by omega)]; exact g4
      have s5 : (g_sI (g_sL (g_sI μ 0 5 (μ.1 0 4)) 0 7 (0 : Int64)) 0 8 (0 : Int32)).1 0 5 = nI b := by rw [z_sI_k (by omega), z_sL_1, z_sI_same]; exact g4
      have s8 : (g_sI (g_sL (g_sI μ 0 5 (μ.1 0 4)) 0 7 (0 : Int64)) 0 8 (0 : Int32)).1 0 8 = nI 0 := by rw [z_sI_same]; rfl
      have s7 : (g_sI (g_sL (g_sI μ 0 5 (μ.1 0 4)) 0 7 (0 : Int64)) 0 8 (0 : Int32)).2.1 0 7 = 0 := by rw [z_sI_2, z_sL, if_pos ⟨rfl, rfl⟩]
      generalize g_sI (g_sL (g_sI μ 0 5 (μ.1 0 4)) 0 7 (0 : Int64)) 0 8 (0 : Int32) = c at k6 s4 s5 s7 s8
      have hB3 := zn_B_k hB k6
      rw [s4, hB3.2.2]
      by_cases e : b = n
      · rw [if_pos (by rw [e]), z_sbind]
        rcases ht with q | q
        · have := q.1; omega
        · refine z_w_some ⟨⟨by rw [z_sI_k (by omega), q, s4, e]; rfl, by rw [z_sI_k (by omega), q, s5, e]; rfl, by rw [z_sI_same, q]; rfl, fun q2 => ?_, fun q2 => ?_⟩, zn_kR_trans k6 (zn_kR_I (by omega))⟩
          · rw [q] at q2
            have q2 : 202 < 20 ∨ 202 = 200 := q2
            omega
          · rw [q] at q2
            have q2 : 202 = 201 := q2
            omega
      · rw [if_neg (show ¬ nI b = nI n by rw [z_eq (by omega) (by omega)]; exact e), z_rd (by omega) (by omega), z_sbind, (hB3.2.1 b (by omega)).1]
        have h127 := (hB3.2.1 b (by omega)).2
        unfold zt_ok at h127
        rcases ht with ⟨q1, q2⟩ | q
        · rw [hb] at q2
          have mono : ∀ {x : Option g_St}, z_w x (fun r2 => zn_at t r2 ∧ zn_kR c r2) → z_w x (fun r2 => zn_at t r2 ∧ zn_kR r r2) := fun h => z_w_mono h (fun a ha => ⟨ha.1, zn_kR_trans k6 ha.2⟩)
          rcases q2 with ⟨l1, l2, l3⟩ | ⟨l1, l2, l3⟩ | ⟨l1, l2, l3, l4, l5⟩
          · have l1' := l1
            unfold zn_le at l1'
            rw [if_pos (show (97 : Int32) ≤ nI (s b) by show nI 97 ≤ nI _; rw [z_le (by omega) (by omega)]; omega), if_pos (show nI (s b) ≤ (122 : Int32) by show nI _ ≤ nI 122; rw [z_le (by omega) (by omega)]; omega)]
            have lt := zn_tk_e (show zn_tk n s t from ⟨q1, Or.inl ⟨by rw [hb]; exact l1, by rw [hb]; exact l2, by rw [hb]; exact l3⟩⟩)
            rw [hb] at lt
            exact mono (zn_R_word (r0 := r) hB3 s4 s5 s7 l2 lt.1 hb rfl (l3.imp (fun q => ⟨q.1, q.2.1, q.2.2.1⟩) id) hF)
          · have l1' := l1
            unfold zn_di at l1'
            rw [if_neg (show ¬ (97 : Int32) ≤ nI (s b) by show ¬ nI 97 ≤ nI _; rw [z_le (by omega) (by omega)]; omega)]
            unfold mm_nextToken_212
            rw [if_pos (show (48 : Int32) ≤ nI (s b) by show nI 48 ≤ nI _; rw [z_le (by omega) (by omega)]; omega), if_pos (show nI (s b) ≤ (57 : Int32) by show nI _ ≤ nI 57; rw [z_le (by omega) (by omega)]; omega)]
            have lt := zn_tk_e (show zn_tk n s t from ⟨q1, Or.inr (Or.inl ⟨by rw [hb]; exact l1, by rw [hb]; exact l2, by rw [hb]; exact l3⟩)⟩)
            rw [hb] at lt
            exact mono (zn_R_numb (r0 := r) hB3 s4 s5 s8 l2 lt.1 hb rfl (l3.imp (fun q => ⟨q.1, q.2.1, q.2.2.1⟩) id) hF)
          · have sg := mono (zn_R_sign (F := F) hB3 s4 s5 (by omega) hb l4 l5)
            unfold mm_nextToken_212
            unfold zn_le at l1
            unfold zn_di at l2
            simp (disch := omega) only [↓reduceIte, nI_lit, z_sbind, z_rd, z_rl, z_rr, z_wr, z_wl, nI_add, z_mul, z_lt, z_le, z_eq, z_ltm1, z_m1lt, z_eqm1, z_m1eq, z_lem1, z_m1le, if_true, if_false, ite_true, ite_false]
            repeat' split
            all_goals first | exact sg | omega
        · exfalso; rw [q] at hb; exact e hb.symm
    show z_w (mm_nextToken_0_b F (mm_nextToken_0 F f) μ) _
    unfold mm_nextToken_0_b
    rw [g4, hB2.2.2]
    by_cases e : b = n
    · rw [if_neg (show ¬ nI b < nI n by rw [z_lt (by omega) (by omega)]; omega)]; exact fin
    · rw [if_pos (show nI b < nI n by rw [z_lt (by omega) (by omega)]; omega), z_rd (by omega) (by omega), z_sbind, (hB2.2.1 b (by omega)).1]
      have nb : ¬ zn_bl (s b) := by
        rcases ht with ⟨q1, q2⟩ | q
        · rw [hb] at q2
          rcases q2 with ⟨l1, -⟩ | ⟨l1, -⟩ | ⟨-, -, l3, -⟩
          · unfold zn_le at l1; unfold zn_bl; omega
          · unfold zn_di at l1; unfold zn_bl; omega
          · exact l3
        · exfalso; rw [q] at hb; exact e hb.symm
      have h127 := (hB2.2.1 b (by omega)).2
      unfold zt_ok at h127
      unfold zn_bl at nb
      rw [if_neg (show ¬ nI (s b) = (32 : Int32) by show ¬ nI (s b) = nI 32; rw [z_eq (by omega) (by omega)]; omega), z_sbind, if_neg (show ¬ nI (s b) = (10 : Int32) by show ¬ nI (s b) = nI 10; rw [z_eq (by omega) (by omega)]; omega)]
      exact fin
def zn_R (n : Nat) (s : Nat → Nat) (T : Nat → zn_K) (m j : Nat) (r : g_St) : Prop := zn_B n s r ∧ zn_ok n s T m ∧ j ≤ m ∧ zn_at (T j) r
theorem zn_ok_t {n m j : Nat} {s : Nat → Nat} {T : Nat → zn_K} (h : zn_ok n s T m) (hj : j ≤ m) : zn_tk n s (T j) ∨ T j = zn_end n := by
  by_cases e : j = m
  · rw [e]; exact Or.inr h.2.2.2.1
  · exact Or.inl (h.1 j (by omega)).1
theorem zn_ok_b {n m j : Nat} {s : Nat → Nat} {T : Nat → zn_K} (h : zn_ok n s T m) (hj : j ≤ m) : zn_pe T j ≤ zn_b (T j) ∧ ∀ i, zn_pe T j ≤ i → i < zn_b (T j) → zn_bl (s i) := by
  by_cases e : j = m
  · rw [e, h.2.2.2.1]; exact ⟨h.2.1, h.2.2.1⟩
  · exact (h.1 j (by omega)).2
theorem zn_R_nx {F n m j : Nat} {s : Nat → Nat} {T : Nat → zn_K} {r : g_St} (h : zn_R n s T m j r) (hF : 1100 < F) : z_w (mm_nextToken F r) (fun r2 => zn_R n s T m (zn_nx m j) r2 ∧ zn_kR r r2) := by
  obtain ⟨hB, ho, hj, ha⟩ := h
  unfold zn_nx
  by_cases q : j < m
  · rw [if_pos q]
    have hb := zn_ok_b ho (show j + 1 ≤ m by omega)
    exact z_w_mono (zn_next0 hB ha.1 hb.1 hb.2 (zn_ok_t ho (by omega)) hF) (fun a h => ⟨⟨zn_B_k hB h.2, ho, by omega, h.1⟩, h.2⟩)
  · rw [if_neg q]
    have e : j = m := by omega
    subst e
    have ed := ho.2.2.2.1
    rw [ed] at ha
    have h4 := ha.1
    refine z_w_mono (zn_next0 (t := zn_end n) hB h4 (Nat.le_refl _) (fun i q1 q2 => ?_) (Or.inr rfl) hF) (fun a h => ⟨⟨zn_B_k hB h.2, ho, hj, by rw [ed]; exact h.1⟩, h.2⟩)
    have q1 : n ≤ i := q1
    have q2 : i < n := q2
    omega
theorem zn_R_0 {F n m : Nat} {s : Nat → Nat} {T : Nat → zn_K} {r : g_St} (hB : zn_B n s r) (ho : zn_ok n s T m) (h4 : r.1 0 4 = nI 0) (hF : 1100 < F) : z_w (mm_nextToken F r) (fun r2 => zn_R n s T m 0 r2 ∧ zn_kR r r2) := by
  have hb := zn_ok_b ho (Nat.zero_le m)
  exact z_w_mono (zn_next0 hB h4 hb.1 hb.2 (zn_ok_t ho (by omega)) hF) (fun a h => ⟨⟨zn_B_k hB h.2, ho, by omega, h.1⟩, h.2⟩)
