/-! Layer 2: LIVE -/
theorem z_pc_all : ∀ n, n < 9 → z_pc (2 ^ n - 1) = n := by decide +kernel
theorem zh_b_M {m : Nat → Nat} {cap A : Nat} (hA : A ≠ 0) : ∀ k, (zh_b m cap A k).1 = zh_M m cap k A
  | 0 => by show 0 = (if A = 0 then 1 else 0); rw [if_neg hA]
  | k + 1 => by
    have ih := zh_b_M (m := m) (cap := cap) hA k
    show (if (zh_b m cap A k).1 < zh_E m cap (k + 1) A then (zh_E m cap (k + 1) A, k + 2) else zh_b m cap A k).1 = max (zh_M m cap k A) (zh_E m cap (k + 1) A)
    rw [← ih]
    by_cases a : (zh_b m cap A k).1 < zh_E m cap (k + 1) A
    · rw [if_pos a, Nat.max_eq_right (by omega)]
    · rw [if_neg a, Nat.max_eq_left (by omega)]
theorem zh_b_first {m : Nat → Nat} {cap A : Nat} (hA : A ≠ 0) : ∀ k, zh_M m cap k A ≠ 0 → (zh_b m cap A k).2 ≠ 0 ∧ zh_M m cap ((zh_b m cap A k).2 - 1) A = zh_M m cap k A ∧ ∀ i, i < (zh_b m cap A k).2 - 1 → zh_M m cap i A < zh_M m cap k A
  | 0, h => absurd (show zh_M m cap 0 A = 0 from if_neg hA) h
  | k + 1, h => by
    have bm := zh_b_M (m := m) (cap := cap) hA k
    have eM : zh_M m cap (k + 1) A = max (zh_M m cap k A) (zh_E m cap (k + 1) A) := rfl
    have eb : zh_b m cap A (k + 1) = if (zh_b m cap A k).1 < zh_E m cap (k + 1) A then (zh_E m cap (k + 1) A, k + 2) else zh_b m cap A k := rfl
    by_cases a : (zh_b m cap A k).1 < zh_E m cap (k + 1) A
    · rw [if_pos a] at eb
      rw [eb]
      refine ⟨by show k + 2 ≠ 0; omega, rfl, fun i hi => ?_⟩
      have hi : i < k + 1 := hi
      have : zh_M m cap i A ≤ zh_M m cap k A := zh_M_le.mpr (fun j hj => zh_E_M (by omega))
      rw [eM, Nat.max_eq_right (by omega)]
      omega
    · rw [if_neg a] at eb
      rw [eb]
      have e2 : zh_M m cap (k + 1) A = zh_M m cap k A := by rw [eM, Nat.max_eq_left (by omega)]
      rw [e2] at h ⊢
      exact zh_b_first hA k h
theorem zo_houses {L : zl_T} {U : zu_T} {W : zw_T} {c r : g_St} {F cap : Nat} (h : zi_I L U W c r) (hc : cap < 100) (hpp : zl_pp L ≠ 0) (hF : 4000 < F) : ∃ m c2 c3 r3, (∀ p, p < 256 → m p ≤ 25500000) ∧ oo_anywhere F c = some c2 ∧ zi_I L U W c2 r ∧ oh_fill F (nI (zv_all L)) (nI cap) (nI (zl_pl L)) c2 = some c3 ∧ mm_livesOut F (nI cap) r = some (nI (if zh_D m cap (zl_pl L) (zv_all L) = 0 then 0 else 1), r3) ∧ zi_I L U W c3 r3 ∧ zi_I L U W c r3 ∧ zh_C m cap (zv_all L) (zl_pl L) (zl_pl L) c3 ∧ (∀ k, k < 6 → ∀ s, s < 2 ^ zl_pp L → r3.1 45 (256 * k + s) = zE (zh_D m cap k s)) ∧ (∀ q, q < 2 ^ zl_pp L → r3.1 42 q = nI (m q)) ∧ ∀ q, q < 2 ^ zl_pp L → c3.1 78 q = nI (m q) := by
  have ho := h.1
  have how := h.2.1
  have h5 := ho.1
  have h8 := ho.2.2.1
  have h28 := zo_p28 ho
  have hal := zv_all_lt ho
  have h22 : 2 ≤ (2 : Nat) ^ zl_pp L := Nat.le_trans (by decide) (Nat.pow_le_pow_right (n := 2) (by omega) (by omega : 1 ≤ zl_pp L))
  have hal0 : zv_all L ≠ 0 := by unfold zv_all; omega
  obtain ⟨c2, e1, h2, z2⟩ := zo_any (F := F) h (by omega)
  obtain ⟨r2, hr2, n1, n2⟩ := zr_works (F := F) (ds := 0) h2.2.2.2.1 ho how (by omega) (by omega)
  have hr2 : mm_works F 0 r = some r2 := hr2
  have kR2 : zi_kR r r2 := zi_kR_f n1 (fun id q => by unfold zr_id; omega)
  have h3 := zi_R h2 kR2
  obtain ⟨b, bb, -, -, b4, b5⟩ := zr_same hal z2 n2
  have c78 := zr_C_all ho b5
  have hm : ∀ p, p < 256 → (zm_f b 256 p).1 ≤ 25500000 := fun p hp => by have := (zm_f_le bb 256 p (Nat.le_refl _)).1; omega
  obtain ⟨c3, hc3, f1, f2⟩ := zh_C_fill (m := fun p => (zm_f b 256 p).1) (cap := cap) (A := zv_all L) (pl := zl_pl L) (F := F) (c := c2) (Nat.le_refl 25500000) hm hal hal0 h5 hc (fun p hp => (c78 p (by unfold zv_all at hp; omega)).1) (by omega)
  obtain ⟨⟨y1, r3⟩, hy, g1, g2, g3⟩ := zh_R_out (m := fun p => (zm_f b 256 p).1) (cap := cap) (pp := zl_pp L) (pl := zl_pl L) (F := F) (r := r2) (Nat.le_refl 25500000) hm h8 h5 hc h3.2.2.2.1.1.2.2.1 h3.2.2.2.1.1.1 (fun q hq => (b4 q hq).1) (by omega)
  have g1 : y1 = _ := g1
  subst g1
  have kR3 : zi_kR r2 r3 := zi_kR_f g2 (fun id q => by omega)
  have kC3 : zi_kC c2 c3 := zi_kC_f f1 (fun id q => by unfold zh_id; omega)
  refine ⟨fun p => (zm_f b 256 p).1, c2, c3, r3, hm, e1, h2, hc3, ?_, ?_, zi_R h (zi_kR_trans kR2 kR3), f2, g3, fun q hq => ?_, fun q hq => ?_⟩
  · unfold mm_livesOut
    rw [hr2, z_sbind, hy]
    rfl
  · exact zi_R (zi_C h3 kC3 (zi_ca_f h3.2.2.2.2.2.2.2 (by rw [f1.1 0 (by unfold zh_id; omega)]) (fun id a b => f1.1 id (by unfold zh_id; omega)))) kR3
  · have g2 : z_f (fun id => id ≠ 45) r2 r3 := g2
    rw [g2.1 42 (by omega)]; exact (b4 q hq).1
  · rw [f1.1 78 (by unfold zh_id; omega)]; exact (c78 q hq).1
/-- who asks, and whether they can live -/
theorem zo_can {L : zl_T} {U : zu_T} {W : zw_T} {c r : g_St} (h : zi_I L U W c r) {v : Int32} : ((∃ k, 1 ≤ k ∧ k ≤ 8 ∧ v = nI k ∧ zl_pp L ≠ 0 ∧ zl_pp L ≤ k * zl_pl L) → oo_canLive c v = some (nI 1)) ∧ (¬ (∃ k, 1 ≤ k ∧ k ≤ 8 ∧ v = nI k ∧ zl_pp L ≠ 0 ∧ zl_pp L ≤ k * zl_pl L) → oo_canLive c v = some (nI 0)) := by
  have ho := h.1
  have h5 := ho.1
  have h8 := ho.2.2.1
  have hC := h.2.2.1
  have main : ∀ k, k ≤ 8 → (nI (zl_pp L) ≤ nI k * nI (zl_pl L)) = (zl_pp L ≤ k * zl_pl L) := fun k hk => by
    have : k * zl_pl L ≤ 8 * 5 := Nat.mul_le_mul hk h5
    rw [z_mul, z_le (by omega) (by omega)]
  unfold oo_canLive
  rw [z_ql hC.1, z_sbind, z_sbind, z_sbind, hC.2.2.1.2.2.1, hC.2.2.1.1, show (8 : Int32) = nI 8 from rfl]
  constructor
  · rintro ⟨k, k1, k2, rfl, k3, k4⟩
    rw [(z_ask5 (by omega)).1 ⟨k, k1, k2, rfl⟩, if_pos (show (0 : Int32) < nI (zl_pp L) from nI_lt (a := 0) (by omega) (by omega)), if_pos (by rw [main k k2]; exact k4)]
    rfl
  · intro hn
    by_cases b : ∃ j, 1 ≤ j ∧ j ≤ 8 ∧ v = nI j
    · rw [(z_ask5 (by omega)).1 b]
      obtain ⟨k, k1, k2, rfl⟩ := b
      by_cases a : zl_pp L = 0
      · rw [if_neg (show ¬ (0 : Int32) < nI (zl_pp L) from by rw [a]; decide)]; rfl
      · rw [if_pos (show (0 : Int32) < nI (zl_pp L) from nI_lt (a := 0) (by omega) (by omega)), if_neg (by rw [main k k2]; exact fun q => hn ⟨k, k1, k2, rfl, a, q⟩)]; rfl
    · rw [(z_ask5 (by omega)).2 b]; rfl
