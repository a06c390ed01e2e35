/-! Layer 2: YEARS, as an operation -/
theorem zx_eq_self {X : zx_T} {A : Nat} : zx_eq X X A := ⟨fun _ _ _ _ _ => rfl, fun _ _ _ => ⟨rfl, rfl⟩⟩
theorem zx_same {X : zx_T} {A br pp s : Nat} {c r : g_St} (hA : A < 256) (h1 : zr_C X A br c) (h2 : zr_R X pp r) (hs : s < 2 ^ pp) (hs2 : s < 256) (hin : z_in s A) : c.1 (br + 7) s = r.1 42 s := by
  obtain ⟨b1, u1, c1, m1⟩ := h1
  obtain ⟨b2, u2, c2, m2⟩ := h2
  have e : ∀ s, z_in s A → b1 s = b2 s := fun s hs => zx_up_at u1 u2 (fun w => zx_all_eq zx_eq_self rfl hA hs)
  have a := (m1 s hs2 hin).1
  have b := (m2 s hs).1
  rw [zm_f_congr (b := b1) (b' := b2) (A := A) (fun p _ hp => e p hp) 256 s (Nat.le_refl _) hin] at a
  rw [a, b]
theorem zy_loop {L : zl_T} {U : zu_T} {W : zw_T} {F w : Nat} {v3 : Int32} (hF : 1010 < F) (hw : w < 100) : ∀ (f i n : Nat) (t q : Int32) (c r : g_St), i ≤ w → w - i < f → n < 2147483648 → zi_I L U W c r → (∀ p q, p < zl_pp L → q < zl_pp L → c.1 100 (8 * p + q) = nI (zy_w L U (zw_lf W) p q)) → r.2.1 0 59 = iL n →
    ∃ x c2 r2, oo_years_50 F (nI w) v3 f t q (iL n) (nI i) c = some (x, c2) ∧ mm_years_52 F (nI w) v3 f t q (nI i) r = some (x, r2) ∧ zi_I L U W c2 r2 := by
  intro f
  induction f with
  | zero => intro i n t q c r _ h; omega
  | succ f ih =>
    intro i n t q c r hi hf hn h hT he
    have ho := h.1
    have how := h.2.1
    have h8 := ho.2.2.1
    have h28 := zo_p28 ho
    have h20 : 0 < (2 : Nat) ^ zl_pp L := Nat.two_pow_pos _
    have hal := zv_all_lt ho
    show ∃ x c2 r2, oo_years_50_b F (nI w) v3 (oo_years_50 F (nI w) v3 f) t q (iL n) (nI i) c = some (x, c2) ∧ mm_years_52_b F (nI w) v3 (mm_years_52 F (nI w) v3 f) t q (nI i) r = some (x, r2) ∧ zi_I L U W c2 r2
    unfold oo_years_50_b mm_years_52_b
    by_cases e : i < w
    · rw [if_pos (nI_lt e (by omega)), if_pos (nI_lt e (by omega))]
      obtain ⟨x, hx, x1, x2, x3⟩ := zy_C_week (F := F) ho h.2.2.1 hT hn hF
      obtain ⟨ν, hν, n1, n2, n3⟩ := zy_R_week (F := F) ho how h.2.2.2.1 hn he hF
      have kC : zi_kC c x.2 := zi_kC_f x2 (fun id q => by unfold zy_D; omega)
      have h2 : zi_I L U W x.2 ν := zi_R (zi_C h kC (zi_ca_f h.2.2.2.2.2.2.2 (by rw [x2.1 0 (by unfold zy_D; omega)]) (fun id q1 q2 => x2.1 id (by unfold zy_D; omega)))) n1
      have ev : x.2.1 88 (zv_all L) = ν.1 42 (zv_all L) := zx_same (s := zv_all L) hal x3 n3 (by unfold zv_all; omega) hal (z_in_self _)
      have e4 : ν.1 4 0 = nI (zl_pp L) := h2.2.2.2.1.1.2.2.1
      have eal : ((1 : Int32) <<< (nI (zl_pp L) &&& 31)) - (1 : Int32) = nI (zv_all L) := by
        rw [z_tp (by omega), show (1 : Int32) = nI 1 from rfl, z_sub (by omega)]
        rfl
      rw [hx, hν, z_sbind, z_sbind, zo_all ho h2.2.2.1, z_sbind, z_rd (by omega) (by omega), z_sbind, show g_rd ν 4 2 (0 : Int32) = some (ν.1 4 0) from z_rd (i := 0) (by omega) (by omega), z_sbind, e4, eal, z_rd (by omega) (by omega), z_sbind, z_sbind, eal, z_rd (by omega) (by omega), z_sbind, ev, x1, nI_1]
      have go := fun t q => ih (i + 1) (zy_sd L n (zl_pp L)) t q x.2 ν (by omega) (by omega) (zy_sd_lt hn _) h2 (fun p q hp hq => by rw [x2.1 100 (by unfold zy_D; omega)]; exact hT p q hp hq) n2
      by_cases z : ν.1 42 (zv_all L) = 0
      · rw [if_pos z, if_pos z]; exact go _ _
      · rw [if_neg z, if_neg z]; exact go _ _
    · have ne : ¬ nI i < nI w := by rw [z_lt (by omega) (by omega)]; exact e
      rw [if_neg ne, if_neg ne]
      by_cases z : v3 = 0
      · rw [if_pos z, if_pos z]; exact ⟨_, _, _, rfl, rfl, h⟩
      · rw [if_neg z, if_neg z]; exact ⟨_, _, _, rfl, rfl, h⟩
theorem zo_years {F : Nat} (hF : 4000 < F) {c r : g_St} (h : zi c r) (v1 v2 v3 : Int32) : zo_s c r (oo_years F v1 v2 v3 c) (mm_years F v1 v2 v3 r) := by
  obtain ⟨L, U, W, h⟩ := h
  have h0 := zo_0 h
  have ho := h.1
  have how := h.2.1
  unfold oo_years mm_years
  rw [z_sbind]
  generalize g_sI r 0 0 0 = r0 at h0 ⊢
  have w1 := zo_within (μ := r0) (v := v1) (n := 9999) (by omega)
  have w2 := zo_within1 (μ := r0) (v := v2) (n := 52) (by omega)
  have w3 := zo_within (μ := r0) (v := v3) (n := 1) (by omega)
  rw [show (9999 : Int32) = nI 9999 from rfl, show (52 : Int32) = nI 52 from rfl]
  by_cases b1 : z_is v1 10000
  · rw [w1.1 b1, (z_ask6 (by omega)).1 b1, z_sbind, if_neg z_e1]
    by_cases b2 : ∃ j, 1 ≤ j ∧ j ≤ 52 ∧ v2 = nI j
    · rw [w2.1 b2, (z_ask5 (by omega)).1 b2, z_sbind, if_neg z_e1]
      by_cases b3 : z_is v3 2
      · have w3a := w3.1 b3
        have k3 := (z_ask4 (v := v3) (n := 1) (a := (oo_findWares F c).bind fun μ1 => oo_years_50 F v2 v3 F 0 0 v1.toInt64 0 μ1) (b := some ((-1 : Int32), c)) (by omega)).1 b3
        have w3a : mm_within r0 v3 0 1 = some (nI 1) := w3a
        have k3 : (if (0 : Int32) ≤ v3 then if (1 : Int32) < v3 then some ((-1 : Int32), c) else (oo_findWares F c).bind fun μ1 => oo_years_50 F v2 v3 F 0 0 v1.toInt64 0 μ1 else some ((-1 : Int32), c)) = _ := k3
        rw [w3a, k3, z_sbind, if_neg z_e1, z_sbind]
        obtain ⟨n, hn, rfl⟩ := b1
        obtain ⟨w, hw1, hw2, rfl⟩ := b2
        obtain ⟨s, hs, s1, s2⟩ := zy_C_wares (F := F) ho how h0.2.2.1 (by omega)
        have bu := h0.2.2.1.2.1
        unfold g_isRule at bu
        have kC : zi_kC c s := zi_kC_f s1 (fun id q => by unfold zy_id; omega)
        have h2 : zi_I L U W s r0 := zi_C h0 kC (zi_ca_f h0.2.2.2.2.2.2.2 (by rw [s1.1 0 (by unfold zy_id; omega)]) (fun id q1 q2 => s1.1 id (by unfold zy_id; omega)))
        rw [hs, z_sbind, zy_of (by omega)]
        have h3 : zi_I L U W s (g_sL r0 0 59 (iL n)) := zi_R h2 ⟨fun id _ => rfl, rfl, rfl, rfl⟩
        obtain ⟨x, c2, r2, e1, e2, h4⟩ := zy_loop (F := F) (w := w) (v3 := v3) (by omega) (by omega) F 0 n 0 0 s (g_sL r0 0 59 (iL n)) (by omega) (by omega) (by omega) h3 (fun p q hp hq => s2 p q hp hq trivial) (by rw [z_sL, if_pos ⟨rfl, rfl⟩])
        exact zo_s_of e1 e2 h4
      · have w3a := w3.2 b3
        have k3 := (z_ask4 (v := v3) (n := 1) (a := (oo_findWares F c).bind fun μ1 => oo_years_50 F v2 v3 F 0 0 v1.toInt64 0 μ1) (b := some ((-1 : Int32), c)) (by omega)).2 b3
        have w3a : mm_within r0 v3 0 1 = some (nI 0) := w3a
        have k3 : (if (0 : Int32) ≤ v3 then if (1 : Int32) < v3 then some ((-1 : Int32), c) else (oo_findWares F c).bind fun μ1 => oo_years_50 F v2 v3 F 0 0 v1.toInt64 0 μ1 else some ((-1 : Int32), c)) = _ := k3
        rw [w3a, k3, z_sbind, if_pos z_e0]
        exact zo_s_of rfl rfl h0
    · rw [w2.2 b2, (z_ask5 (by omega)).2 b2, z_sbind, if_pos z_e0]; exact zo_s_of rfl rfl h0
  · rw [w1.2 b1, (z_ask6 (by omega)).2 b1, z_sbind, if_pos z_e0]; exact zo_s_of rfl rfl h0
