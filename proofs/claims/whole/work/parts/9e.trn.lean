/-! Layer 2: the reference's turns: something stands -/
theorem zg_n4 {F f d g n : Nat} {s : Nat → Nat} {t : zn_K} {r : g_St} (hB : zn_B n s r) (h : zn_at t r) (hk : zn_kd n s t) (h26 : r.1 0 26 = nI (1000 + g)) (hg : g < 1000) (hp : zn_k t = 43 ∨ zn_k t = 45 ∨ zn_k t = 42) : mm_reads_11 F (f + 1) (nI d) (0 : Int32) r = (mm_nextToken F (zg_pR g (if zn_k t = 43 then nI 20 else if zn_k t = 45 then nI 21 else nI 22) r)).bind fun μ => mm_reads_11 F f (nI d) (1 : Int32) μ := by
  have s43 : mm_isSign r (43 : Int32) = _ := zn_isSign (i := 43) hB h hk (by unfold zn_si; omega); have s45 : mm_isSign r (45 : Int32) = _ := zn_isSign (i := 45) hB h hk (by unfold zn_si; omega); have s42 : mm_isSign r (42 : Int32) = _ := zn_isSign (i := 42) hB h hk (by unfold zn_si; omega); have s60 : mm_isSign r (60 : Int32) = _ := zn_isSign (i := 60) hB h hk (by unfold zn_si; omega); have s61 : mm_isSign r (61 : Int32) = _ := zn_isSign (i := 61) hB h hk (by unfold zn_si; omega); have s41 : mm_isSign r (41 : Int32) = _ := zn_isSign (i := 41) hB h hk (by unfold zn_si; omega); have s59 : mm_isSign r (59 : Int32) = _ := zn_isSign (i := 59) hB h hk (by unfold zn_si; omega); have w11 : mm_isWord r (1111 : Int64) = _ := zn_isWord (i := 11) h hk (by omega); have w12 : mm_isWord r (423 : Int64) = _ := zn_isWord (i := 12) h hk (by omega)
  show mm_reads_11_b F (mm_reads_11 F f) (nI d) (0 : Int32) r = _
  unfold mm_reads_11_b
  have w : mm_reads_206 F (mm_reads_11 F f) (nI d) r = (mm_nextToken F (zg_pR g (if zn_k t = 43 then nI 20 else if zn_k t = 45 then nI 21 else nI 22) r)).bind fun μ => mm_reads_11 F f (nI d) (1 : Int32) μ := by
    unfold mm_reads_206
    rw [s43, z_sbind, s45, z_sbind]
    have fin : ∀ v, mm_reads_237 F (mm_reads_11 F f) (nI d) v r = (mm_nextToken F (zg_pR g v r)).bind fun μ => mm_reads_11 F f (nI d) (1 : Int32) μ := by
      intro v
      unfold mm_reads_237
      rw [zg_puts h26 hg, z_sbind]
      rfl
    by_cases e1 : zn_k t = 43
    · rw [if_pos e1, if_neg zn_p1, if_pos e1]; exact fin _
    · rw [if_neg e1, if_pos zn_p0, if_neg e1]
      by_cases e2 : zn_k t = 45
      · rw [if_pos e2, if_neg zn_p1, if_pos e2]; exact fin _
      · rw [if_neg e2, if_pos zn_p0, if_neg e2]; exact fin _
  rw [if_pos (show (0 : Int32) = 0 from rfl), s43, z_sbind, s45, z_sbind, s42, z_sbind, w]
  by_cases e1 : zn_k t = 43
  · rw [if_pos e1, if_neg zn_p1]
  · rw [if_neg e1, if_pos zn_p0]
    by_cases e2 : zn_k t = 45
    · rw [if_pos e2, if_neg zn_p1]
    · rw [if_neg e2, if_pos zn_p0, if_pos (show zn_k t = 42 by omega), if_neg zn_p1]
theorem zg_n304 {F f d n : Nat} {s : Nat → Nat} {t : zn_K} {r : g_St} (hB : zn_B n s r) (h : zn_at t r) (hk : zn_kd n s t) (hd : d < 7) (hp : ¬ (zn_k t = 43 ∨ zn_k t = 45 ∨ zn_k t = 42)) (hq : ¬ (zn_k t = 60 ∨ zn_k t = 61) ∨ r.1 18 d ≠ nI 0) : mm_reads_11 F (f + 1) (nI d) (0 : Int32) r = mm_reads_304 F (mm_reads_11 F f) (nI d) (0 : Int32) r := by
  have s43 : mm_isSign r (43 : Int32) = _ := zn_isSign (i := 43) hB h hk (by unfold zn_si; omega); have s45 : mm_isSign r (45 : Int32) = _ := zn_isSign (i := 45) hB h hk (by unfold zn_si; omega); have s42 : mm_isSign r (42 : Int32) = _ := zn_isSign (i := 42) hB h hk (by unfold zn_si; omega); have s60 : mm_isSign r (60 : Int32) = _ := zn_isSign (i := 60) hB h hk (by unfold zn_si; omega); have s61 : mm_isSign r (61 : Int32) = _ := zn_isSign (i := 61) hB h hk (by unfold zn_si; omega); have s41 : mm_isSign r (41 : Int32) = _ := zn_isSign (i := 41) hB h hk (by unfold zn_si; omega); have s59 : mm_isSign r (59 : Int32) = _ := zn_isSign (i := 59) hB h hk (by unfold zn_si; omega); have w11 : mm_isWord r (1111 : Int64) = _ := zn_isWord (i := 11) h hk (by omega); have w12 : mm_isWord r (423 : Int64) = _ := zn_isWord (i := 12) h hk (by omega)
  show mm_reads_11_b F (mm_reads_11 F f) (nI d) (0 : Int32) r = _
  unfold mm_reads_11_b
  rw [if_pos (show (0 : Int32) = 0 from rfl), s43, z_sbind, if_neg (show ¬ zn_k t = 43 by omega), if_pos zn_p0, s45, z_sbind, if_neg (show ¬ zn_k t = 45 by omega), if_pos zn_p0, s42, z_sbind, if_neg (show ¬ zn_k t = 42 by omega), if_pos zn_p0, s60, z_sbind, s61, z_sbind]
  unfold mm_reads_263
  rw [z_rd hd (by omega), z_sbind]
  by_cases e : zn_k t = 60 ∨ zn_k t = 61
  · have h18 : r.1 18 d ≠ nI 0 := hq.resolve_left (fun q => q e)
    rw [if_neg (show ¬ r.1 18 d = (0 : Int32) from h18)]
    by_cases e1 : zn_k t = 60
    · rw [if_pos e1, if_neg zn_p1]
    · rw [if_neg e1, if_pos zn_p0, if_pos (show zn_k t = 61 by omega), if_neg zn_p1]
  · rw [if_neg (show ¬ zn_k t = 60 by omega), if_pos zn_p0, if_neg (show ¬ zn_k t = 61 by omega), if_pos zn_p0]
theorem zg_n5 {F f d g n : Nat} {s : Nat → Nat} {t : zn_K} {r : g_St} (hB : zn_B n s r) (h : zn_at t r) (hk : zn_kd n s t) (hd : d < 7) (h26 : r.1 0 26 = nI (1000 + g)) (hg : g < 1000) (hp : zn_k t = 60 ∨ zn_k t = 61) (h18 : r.1 18 d = nI 0) : mm_reads_11 F (f + 1) (nI d) (0 : Int32) r = (mm_nextToken F (g_sI (zg_pR g (if zn_k t = 60 then nI 24 else nI 25) r) 18 d (nI 1))).bind fun μ => mm_reads_11 F f (nI d) (1 : Int32) μ := by
  have s43 : mm_isSign r (43 : Int32) = _ := zn_isSign (i := 43) hB h hk (by unfold zn_si; omega); have s45 : mm_isSign r (45 : Int32) = _ := zn_isSign (i := 45) hB h hk (by unfold zn_si; omega); have s42 : mm_isSign r (42 : Int32) = _ := zn_isSign (i := 42) hB h hk (by unfold zn_si; omega); have s60 : mm_isSign r (60 : Int32) = _ := zn_isSign (i := 60) hB h hk (by unfold zn_si; omega); have s61 : mm_isSign r (61 : Int32) = _ := zn_isSign (i := 61) hB h hk (by unfold zn_si; omega); have s41 : mm_isSign r (41 : Int32) = _ := zn_isSign (i := 41) hB h hk (by unfold zn_si; omega); have s59 : mm_isSign r (59 : Int32) = _ := zn_isSign (i := 59) hB h hk (by unfold zn_si; omega); have w11 : mm_isWord r (1111 : Int64) = _ := zn_isWord (i := 11) h hk (by omega); have w12 : mm_isWord r (423 : Int64) = _ := zn_isWord (i := 12) h hk (by omega)
  show mm_reads_11_b F (mm_reads_11 F f) (nI d) (0 : Int32) r = _
  unfold mm_reads_11_b
  have w : mm_reads_263 F (mm_reads_11 F f) (nI d) (0 : Int32) r = (mm_nextToken F (g_sI (zg_pR g (if zn_k t = 60 then nI 24 else nI 25) r) 18 d (nI 1))).bind fun μ => mm_reads_11 F f (nI d) (1 : Int32) μ := by
    unfold mm_reads_263
    rw [z_rd hd (by omega), z_sbind, if_pos (show r.1 18 d = (0 : Int32) from h18), s60, z_sbind]
    have fin : ∀ v, mm_reads_289 F (mm_reads_11 F f) (nI d) v r = (mm_nextToken F (g_sI (zg_pR g v r) 18 d (nI 1))).bind fun μ => mm_reads_11 F f (nI d) (1 : Int32) μ := by
      intro v
      unfold mm_reads_289
      rw [zg_puts h26 hg, z_sbind, show g_nz (1 : Int32) = nI 1 from by decide, z_wr hd (by omega), z_sbind]
      rfl
    by_cases e1 : zn_k t = 60
    · rw [if_pos e1, if_neg zn_p1, if_pos e1]; exact fin _
    · rw [if_neg e1, if_pos zn_p0, if_neg e1]; exact fin _
  rw [if_pos (show (0 : Int32) = 0 from rfl), s43, z_sbind, if_neg (show ¬ zn_k t = 43 by omega), if_pos zn_p0, s45, z_sbind, if_neg (show ¬ zn_k t = 45 by omega), if_pos zn_p0, s42, z_sbind, if_neg (show ¬ zn_k t = 42 by omega), if_pos zn_p0, s60, z_sbind, s61, z_sbind, w]
  by_cases e1 : zn_k t = 60
  · rw [if_pos e1, if_neg zn_p1]
  · rw [if_neg e1, if_pos zn_p0, if_pos (show zn_k t = 61 by omega), if_neg zn_p1]
theorem zg_n6 {F f d g n : Nat} {s : Nat → Nat} {t : zn_K} {r : g_St} (hB : zn_B n s r) (h : zn_at t r) (hk : zn_kd n s t) (hd : d < 7) (h26 : r.1 0 26 = nI (1000 + g)) (hg : g < 1000) (hp : zn_k t = 11 ∨ zn_k t = 12) : mm_reads_11 F (f + 1) (nI d) (0 : Int32) r = (mm_nextToken F (g_sI (zg_pR g (if zn_k t = 11 then nI 26 else nI 27) r) 18 d (nI 0))).bind fun μ => mm_reads_11 F f (nI d) (1 : Int32) μ := by
  have s43 : mm_isSign r (43 : Int32) = _ := zn_isSign (i := 43) hB h hk (by unfold zn_si; omega); have s45 : mm_isSign r (45 : Int32) = _ := zn_isSign (i := 45) hB h hk (by unfold zn_si; omega); have s42 : mm_isSign r (42 : Int32) = _ := zn_isSign (i := 42) hB h hk (by unfold zn_si; omega); have s60 : mm_isSign r (60 : Int32) = _ := zn_isSign (i := 60) hB h hk (by unfold zn_si; omega); have s61 : mm_isSign r (61 : Int32) = _ := zn_isSign (i := 61) hB h hk (by unfold zn_si; omega); have s41 : mm_isSign r (41 : Int32) = _ := zn_isSign (i := 41) hB h hk (by unfold zn_si; omega); have s59 : mm_isSign r (59 : Int32) = _ := zn_isSign (i := 59) hB h hk (by unfold zn_si; omega); have w11 : mm_isWord r (1111 : Int64) = _ := zn_isWord (i := 11) h hk (by omega); have w12 : mm_isWord r (423 : Int64) = _ := zn_isWord (i := 12) h hk (by omega)
  rw [zg_n304 hB h hk hd (by omega) (Or.inl (by omega))]
  unfold mm_reads_304
  have w : mm_reads_324 F (mm_reads_11 F f) (nI d) r = (mm_nextToken F (g_sI (zg_pR g (if zn_k t = 11 then nI 26 else nI 27) r) 18 d (nI 0))).bind fun μ => mm_reads_11 F f (nI d) (1 : Int32) μ := by
    unfold mm_reads_324
    rw [w11, z_sbind]
    have fin : ∀ v, mm_reads_342 F (mm_reads_11 F f) (nI d) v r = (mm_nextToken F (g_sI (zg_pR g v r) 18 d (nI 0))).bind fun μ => mm_reads_11 F f (nI d) (1 : Int32) μ := by
      intro v
      unfold mm_reads_342
      rw [zg_puts h26 hg, z_sbind, zp_nz0, z_wr hd (by omega), z_sbind]
      rfl
    by_cases e1 : zn_k t = 11
    · rw [if_pos e1, if_neg zn_p1, if_pos e1]; exact fin _
    · rw [if_neg e1, if_pos zn_p0, if_neg e1]; exact fin _
  rw [w11, z_sbind, w12, z_sbind, w]
  by_cases e1 : zn_k t = 11
  · rw [if_pos e1, if_neg zn_p1]
  · rw [if_neg e1, if_pos zn_p0, if_pos (show zn_k t = 12 by omega), if_neg zn_p1]
theorem zg_n7 {F f d g n : Nat} {s : Nat → Nat} {t : zn_K} {r : g_St} (hB : zn_B n s r) (h : zn_at t r) (hk : zn_kd n s t) (hd : d + 1 < 7) (h26 : r.1 0 26 = nI (1000 + g)) (hg : g < 1000) (hp : zn_k t = 41) (hF : 1100 < F) : mm_reads_11 F (f + 1) (nI (d + 1)) (0 : Int32) r = (mm_nextToken F (zg_pR g (nI 29) r)).bind fun μ => mm_reads_11 F f (nI (zg_o r d)) (0 : Int32) μ := by
  have s43 : mm_isSign r (43 : Int32) = _ := zn_isSign (i := 43) hB h hk (by unfold zn_si; omega); have s45 : mm_isSign r (45 : Int32) = _ := zn_isSign (i := 45) hB h hk (by unfold zn_si; omega); have s42 : mm_isSign r (42 : Int32) = _ := zn_isSign (i := 42) hB h hk (by unfold zn_si; omega); have s60 : mm_isSign r (60 : Int32) = _ := zn_isSign (i := 60) hB h hk (by unfold zn_si; omega); have s61 : mm_isSign r (61 : Int32) = _ := zn_isSign (i := 61) hB h hk (by unfold zn_si; omega); have s41 : mm_isSign r (41 : Int32) = _ := zn_isSign (i := 41) hB h hk (by unfold zn_si; omega); have s59 : mm_isSign r (59 : Int32) = _ := zn_isSign (i := 59) hB h hk (by unfold zn_si; omega); have w11 : mm_isWord r (1111 : Int64) = _ := zn_isWord (i := 11) h hk (by omega); have w12 : mm_isWord r (423 : Int64) = _ := zn_isWord (i := 12) h hk (by omega)
  rw [zg_n304 hB h hk hd (by omega) (Or.inl (by omega))]
  unfold mm_reads_304
  rw [w11, z_sbind, if_neg (show ¬ zn_k t = 11 by omega), if_pos zn_p0, w12, z_sbind, if_neg (show ¬ zn_k t = 12 by omega), if_pos zn_p0, s41, z_sbind, if_pos hp, if_neg zn_p1, if_pos (show (0 : Int32) < nI (d + 1) by show nI 0 < nI (d + 1); rw [z_lt (by omega) (by omega)]; omega), show (29 : Int32) = nI 29 from rfl, zg_puts h26 hg, z_sbind, zg_m1, zg_379 d F (by omega) (by omega), zg_o_pR]
  rfl
theorem zg_n8 {F f n : Nat} {s : Nat → Nat} {t : zn_K} {r : g_St} (hB : zn_B n s r) (h : zn_at t r) (hk : zn_kd n s t) (hp : zn_k t = 59) : mm_reads_11 F (f + 1) (nI 0) (0 : Int32) r = (mm_nextToken F r).bind fun μ => some (nI 1, μ) := by
  have s43 : mm_isSign r (43 : Int32) = _ := zn_isSign (i := 43) hB h hk (by unfold zn_si; omega); have s45 : mm_isSign r (45 : Int32) = _ := zn_isSign (i := 45) hB h hk (by unfold zn_si; omega); have s42 : mm_isSign r (42 : Int32) = _ := zn_isSign (i := 42) hB h hk (by unfold zn_si; omega); have s60 : mm_isSign r (60 : Int32) = _ := zn_isSign (i := 60) hB h hk (by unfold zn_si; omega); have s61 : mm_isSign r (61 : Int32) = _ := zn_isSign (i := 61) hB h hk (by unfold zn_si; omega); have s41 : mm_isSign r (41 : Int32) = _ := zn_isSign (i := 41) hB h hk (by unfold zn_si; omega); have s59 : mm_isSign r (59 : Int32) = _ := zn_isSign (i := 59) hB h hk (by unfold zn_si; omega); have w11 : mm_isWord r (1111 : Int64) = _ := zn_isWord (i := 11) h hk (by omega); have w12 : mm_isWord r (423 : Int64) = _ := zn_isWord (i := 12) h hk (by omega)
  rw [zg_n304 hB h hk (by omega) (by omega) (Or.inl (by omega))]
  unfold mm_reads_304
  rw [w11, z_sbind, if_neg (show ¬ zn_k t = 11 by omega), if_pos zn_p0, w12, z_sbind, if_neg (show ¬ zn_k t = 12 by omega), if_pos zn_p0, s41, z_sbind, if_neg (show ¬ zn_k t = 41 by omega), if_pos zn_p0]
  unfold mm_reads_399
  rw [if_pos zn_p0, s59, z_sbind, if_pos hp, if_neg zn_p1]
  rfl
theorem zg_n9 {F f d n : Nat} {s : Nat → Nat} {t : zn_K} {r : g_St} (hB : zn_B n s r) (h : zn_at t r) (hk : zn_kd n s t) (hd : d < 7) (hp : ¬ (zn_k t = 43 ∨ zn_k t = 45 ∨ zn_k t = 42)) (hq : ¬ (zn_k t = 60 ∨ zn_k t = 61) ∨ r.1 18 d ≠ nI 0) (ha : ¬ (zn_k t = 11 ∨ zn_k t = 12)) (hc : ¬ (zn_k t = 41 ∧ 0 < d)) (he : ¬ (d = 0 ∧ zn_k t = 59)) : mm_reads_11 F (f + 1) (nI d) (0 : Int32) r = mm_fails (nI 1) r := by
  have s43 : mm_isSign r (43 : Int32) = _ := zn_isSign (i := 43) hB h hk (by unfold zn_si; omega); have s45 : mm_isSign r (45 : Int32) = _ := zn_isSign (i := 45) hB h hk (by unfold zn_si; omega); have s42 : mm_isSign r (42 : Int32) = _ := zn_isSign (i := 42) hB h hk (by unfold zn_si; omega); have s60 : mm_isSign r (60 : Int32) = _ := zn_isSign (i := 60) hB h hk (by unfold zn_si; omega); have s61 : mm_isSign r (61 : Int32) = _ := zn_isSign (i := 61) hB h hk (by unfold zn_si; omega); have s41 : mm_isSign r (41 : Int32) = _ := zn_isSign (i := 41) hB h hk (by unfold zn_si; omega); have s59 : mm_isSign r (59 : Int32) = _ := zn_isSign (i := 59) hB h hk (by unfold zn_si; omega); have w11 : mm_isWord r (1111 : Int64) = _ := zn_isWord (i := 11) h hk (by omega); have w12 : mm_isWord r (423 : Int64) = _ := zn_isWord (i := 12) h hk (by omega)
  have fa : ((mm_fails (1 : Int32) r).bind fun q => some (q.1 &&& (1 : Int32), q.2)) = mm_fails (nI 1) r := by
    rw [show mm_fails (1 : Int32) r = _ from zn_fails (f := 1) h, zn_fails h, z_sbind]
    show some (nI 0 &&& (1 : Int32), _) = _
    rw [zn_a0]
  rw [zg_n304 hB h hk hd hp hq]
  unfold mm_reads_304
  have w : mm_reads_399 F (nI d) r = mm_fails (nI 1) r := by
    unfold mm_reads_399 mm_reads_418
    rw [s59, z_sbind, fa]
    by_cases d0 : d = 0
    · rw [if_pos (show nI d = (0 : Int32) by rw [d0]; rfl), if_neg (fun q => he ⟨d0, q⟩), if_pos zn_p0]
    · rw [if_neg (show ¬ nI d = (0 : Int32) by show ¬ nI d = nI 0; rw [z_eq (by omega) (by omega)]; exact d0)]
  rw [w11, z_sbind, if_neg (show ¬ zn_k t = 11 by omega), if_pos zn_p0, w12, z_sbind, if_neg (show ¬ zn_k t = 12 by omega), if_pos zn_p0, s41, z_sbind, w]
  by_cases e : zn_k t = 41
  · have d0 : d = 0 := by omega
    rw [if_pos e, if_neg zn_p1, if_neg (show ¬ (0 : Int32) < nI d by rw [d0]; decide)]
  · rw [if_neg e, if_pos zn_p0]
