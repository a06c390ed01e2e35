/-! Layer 2: FEED -/
def zb (v : Int64) (sh : Nat) : Nat := (v.toUInt64.toNat >>> sh) % 256
theorem zb_lt (v : Int64) (sh : Nat) : zb v sh < 256 := Nat.mod_lt _ (by omega)
theorem zb_n (v : Int64) (sh : Nat) (h : sh < 64) : (v.toUInt64 >>> UInt64.ofNat sh).toNat = v.toUInt64.toNat >>> sh := by
  rw [UInt64.toNat_shiftRight, UInt64.toNat_ofNat', Nat.mod_eq_of_lt (show sh < 2 ^ 64 by omega), Nat.mod_eq_of_lt h]
theorem zb_C0 (u : UInt64) : (u.toInt64.toInt32) &&& (255 : Int32) = nI (u.toNat % 256) := by
  apply Int32.toBitVec_inj.1
  apply BitVec.eq_of_toNat_eq
  rw [Int32.toBitVec_and, BitVec.toNat_and]
  have e1 : (u.toInt64.toInt32).toBitVec.toNat = u.toNat % 4294967296 := by
    rw [Int64.toBitVec_toInt32, BitVec.signExtend_eq_setWidth_of_le _ (by omega), BitVec.toNat_setWidth]; rfl
  have e2 : (255 : Int32).toBitVec.toNat = 2 ^ 8 - 1 := rfl
  have e3 : (nI (u.toNat % 256)).toBitVec.toNat = u.toNat % 256 := by
    show (Int32.ofNat (u.toNat % 256)).toBitVec.toNat = _
    rw [Int32.toBitVec_ofNat', BitVec.toNat_ofNat, Nat.mod_eq_of_lt (by omega)]
  rw [e1, e2, e3, Nat.and_two_pow_sub_one_eq_mod]
  omega
theorem zb_R0 (u : UInt64) : ((u.toInt64) &&& (255 : Int64)).toInt32 = nI (u.toNat % 256) := by
  apply Int32.toBitVec_inj.1
  apply BitVec.eq_of_toNat_eq
  have e2 : (255 : Int64).toBitVec.toNat = 2 ^ 8 - 1 := rfl
  have e3 : (nI (u.toNat % 256)).toBitVec.toNat = u.toNat % 256 := by
    show (Int32.ofNat (u.toNat % 256)).toBitVec.toNat = _
    rw [Int32.toBitVec_ofNat', BitVec.toNat_ofNat, Nat.mod_eq_of_lt (by omega)]
  rw [Int64.toBitVec_toInt32, BitVec.signExtend_eq_setWidth_of_le _ (by omega), BitVec.toNat_setWidth, Int64.toBitVec_and, BitVec.toNat_and, e2, e3, Nat.and_two_pow_sub_one_eq_mod]
  show u.toNat % 2 ^ 8 % 2 ^ 32 = _
  omega
def zsh (k : Nat) : Int32 := Int32.ofInt (56 - 8 * k)
theorem zsh_C : ∀ k, k < 8 → (0 ≤ zsh k ∧ zsh k + (-8) = zsh (k + 1) ∧ ((zsh k).toInt64.toUInt64 &&& Int64.toUInt64 63) = UInt64.ofNat (56 - 8 * k)) := by decide
theorem zsh_R : ∀ k, k < 24 → (((56 : Int32) - ((8 : Int32) * (nI k &&& (7 : Int32)))).toInt64.toUInt64 &&& Int64.toUInt64 63) = UInt64.ofNat (56 - 8 * (k % 8)) := by decide +kernel
theorem zb_nar : ∀ s, s < 127 → g_nh (g_nc (nI s)) = nI s := by decide +kernel
/-- the TAPE as a value: how many signs, the signs -/
abbrev zt_ok (s : Nat) : Prop := s = 10 ∨ (32 ≤ s ∧ s ≤ 126)
def zt_put (a : Nat × (Nat → Nat)) (s : Nat) : Nat × (Nat → Nat) := if zt_ok s ∧ a.1 < 1000 then (a.1 + 1, fun i => if i = a.1 then s else a.2 i) else a
def zt_v (a : Nat × (Nat → Nat)) : Prop := a.1 ≤ 1000 ∧ ∀ i, i < a.1 → zt_ok (a.2 i)
def zt_C (a : Nat × (Nat → Nat)) (c : g_St) : Prop := c.1 1 2 = nI a.1 ∧ ∀ i, i < a.1 → c.1 3 i = nI (a.2 i)
def zt_R (a : Nat × (Nat → Nat)) (r : g_St) : Prop := r.1 0 1 = nI a.1 ∧ ∀ i, i < a.1 → r.1 1 i = nI (a.2 i)
theorem zt_put_v {a : Nat × (Nat → Nat)} {s : Nat} (h : zt_v a) : zt_v (zt_put a s) := by
  unfold zt_put
  split
  · rename_i q
    refine ⟨by show a.1 + 1 ≤ 1000; omega, fun i hi => ?_⟩
    show zt_ok (if i = a.1 then s else a.2 i)
    have hi : i < a.1 + 1 := hi
    split
    · exact q.1
    · exact h.2 i (by omega)
  · exact h
def zt_fd (v : Int64) : Nat → (Nat × (Nat → Nat)) → (Nat × (Nat → Nat))
  | 0, a => a
  | k + 1, a => zt_put (zt_fd v k a) (zb v (56 - 8 * k))
theorem zt_fd_v {v : Int64} {a : Nat × (Nat → Nat)} (h : zt_v a) : ∀ k, zt_v (zt_fd v k a)
  | 0 => h
  | k + 1 => zt_put_v (zt_fd_v h k)
def zt_kC (c c2 : g_St) : Prop := (∀ id, id ≠ 1 → id ≠ 3 → c2.1 id = c.1 id) ∧ c2.2 = c.2 ∧ ∀ k, k ≠ 2 → c2.1 1 k = c.1 1 k
theorem zt_kC_trans {a b c : g_St} (h : zt_kC a b) (h2 : zt_kC b c) : zt_kC a c := ⟨fun id q1 q2 => by rw [h2.1 id q1 q2, h.1 id q1 q2], by rw [h2.2.1, h.2.1], fun k q => by rw [h2.2.2 k q, h.2.2 k q]⟩
def zt_kR (r r2 : g_St) : Prop := (∀ id, id ≠ 0 → id ≠ 1 → r2.1 id = r.1 id) ∧ r2.2 = r.2 ∧ ∀ k, k ≠ 1 → r2.1 0 k = r.1 0 k
theorem zt_kR_trans {a b c : g_St} (h : zt_kR a b) (h2 : zt_kR b c) : zt_kR a c := ⟨fun id q1 q2 => by rw [h2.1 id q1 q2, h.1 id q1 q2], by rw [h2.2.1, h.2.1], fun k q => by rw [h2.2.2 k q, h.2.2 k q]⟩
theorem zt_C_put {a : Nat × (Nat → Nat)} {c : g_St} {s : Nat} (h : zt_C a c) : zt_C (a.1 + 1, fun i => if i = a.1 then s else a.2 i) (g_sI (g_sI c 3 a.1 (nI s)) 1 2 (nI (a.1 + 1))) := by
  refine ⟨by rw [z_sI_same], fun i hi => ?_⟩
  have hi : i < a.1 + 1 := hi
  rw [z_sI_id (by omega)]
  show _ = nI (if i = a.1 then s else a.2 i)
  by_cases e : i = a.1
  · rw [if_pos e, e, z_sI_same]
  · rw [if_neg e, z_sI_k e]; exact h.2 i (by omega)
theorem zt_R_put {a : Nat × (Nat → Nat)} {r : g_St} {s : Nat} (h : zt_R a r) : zt_R (a.1 + 1, fun i => if i = a.1 then s else a.2 i) (g_sI (g_sI r 1 a.1 (nI s)) 0 1 (nI (a.1 + 1))) := by
  refine ⟨by rw [z_sI_same], fun i hi => ?_⟩
  have hi : i < a.1 + 1 := hi
  rw [z_sI_id (by omega)]
  show _ = nI (if i = a.1 then s else a.2 i)
  by_cases e : i = a.1
  · rw [if_pos e, e, z_sI_same]
  · rw [if_neg e, z_sI_k e]; exact h.2 i (by omega)
theorem zt_C_add {a : Nat × (Nat → Nat)} {c : g_St} {F : Nat} {v : Int64} (hv : zt_v a) (h : zt_C a c) (hF : 20 < F) : z_w (ot_add F v c) (fun c2 => zt_C (zt_fd v 8 a) c2 ∧ zt_kC c c2) := by
  unfold ot_add
  refine z_cw (n := 8) (A := fun f k s => ot_add_3 F v f (zsh k) s) (fun k s => zt_C (zt_fd v k a) s ∧ zt_kC c s) ?_ ?_ F 0 c (by omega) ⟨h, fun _ _ _ => rfl, rfl, fun _ _ => rfl⟩ (by omega)
  · intro f k s hk ⟨h1, h2⟩ gk
    obtain ⟨z1, z2, z3⟩ := zsh_C k hk
    have av := zt_fd_v (v := v) hv k
    have gk : ∀ s', zt_C (zt_put (zt_fd v k a) (zb v (56 - 8 * k))) s' ∧ zt_kC c s' → z_w (ot_add_3 F v f (zsh (k + 1)) s') (fun c2 => zt_C (zt_fd v 8 a) c2 ∧ zt_kC c c2) := gk
    generalize zt_fd v k a = b at h1 av gk
    have hb := zb_lt v (56 - 8 * k)
    show z_w (ot_add_3_b F v _ (zsh k) s) _
    unfold ot_add_3_b ot_add_38 ot_add_42 ot_add_43
    rw [if_pos z1, z2, z3, zb_C0, zb_n _ _ (by omega), z_sbind]
    rw [show v.toUInt64.toNat >>> (56 - 8 * k) % 256 = zb v (56 - 8 * k) from rfl]
    generalize zb v (56 - 8 * k) = s0 at hb gk
    have bad : ¬ zt_ok s0 → z_w (ot_add_3 F v f (zsh (k + 1)) s) (fun c2 => zt_C (zt_fd v 8 a) c2 ∧ zt_kC c c2) := by
      intro q
      have e : zt_put b s0 = b := by unfold zt_put; rw [if_neg (fun q2 => q q2.1)]
      exact gk s ⟨by rw [e]; exact h1, h2⟩
    have good : zt_ok s0 → z_w (if (1 : Int32) = 0 then ot_add_3 F v f (zsh (k + 1)) s else if s.1 1 2 < (1000 : Int32) then (g_wr s 3 1000 (s.1 1 2) (g_nh (g_nc (nI s0)))).bind fun μ2 => (some (g_sI μ2 1 2 (μ2.1 1 2 + (1 : Int32)))).bind fun μ3 => ot_add_3 F v f (zsh (k + 1)) μ3 else ot_add_3 F v f (zsh (k + 1)) s) (fun c2 => zt_C (zt_fd v 8 a) c2 ∧ zt_kC c c2) := by
      intro q
      have s127 : s0 < 127 := by unfold zt_ok at q; omega
      have b1 := av.1
      rw [if_neg (by decide), h1.1, zb_nar _ s127]
      by_cases e : b.1 < 1000
      · have ep : zt_put b s0 = (b.1 + 1, fun i => if i = b.1 then s0 else b.2 i) := by unfold zt_put; rw [if_pos ⟨q, e⟩]
        rw [if_pos (show nI b.1 < (1000 : Int32) from nI_lt (b := 1000) e (by omega)), z_wr e (by omega), z_sbind, z_sbind, z_sI_id (by omega), h1.1, nI_1]
        refine gk _ ⟨by rw [ep]; exact zt_C_put h1, zt_kC_trans h2 ⟨fun id q1 q2 => by rw [z_sI_f q1, z_sI_f q2], rfl, fun j q1 => by rw [z_sI_k q1, z_sI_id (by omega)]⟩⟩
      · have ep : zt_put b s0 = b := by unfold zt_put; rw [if_neg (fun q2 => e q2.2)]
        rw [if_neg (show ¬ nI b.1 < (1000 : Int32) from by show ¬ nI b.1 < nI 1000; rw [z_lt (by omega) (by omega)]; exact e)]
        exact gk s ⟨by rw [ep]; exact h1, h2⟩
    by_cases e10 : s0 = 10
    · rw [if_pos (show nI s0 = (10 : Int32) from by rw [e10]; rfl)]
      exact good (Or.inl e10)
    · rw [if_neg (show ¬ nI s0 = (10 : Int32) from by show ¬ nI s0 = nI 10; rw [z_eq (by omega) (by omega)]; exact e10)]
      by_cases e32 : 32 ≤ s0
      · rw [if_pos (show (32 : Int32) ≤ nI s0 from by show nI 32 ≤ nI s0; rw [z_le (by omega) (by omega)]; exact e32)]
        by_cases e126 : s0 ≤ 126
        · rw [if_pos (show nI s0 ≤ (126 : Int32) from by show nI s0 ≤ nI 126; rw [z_le (by omega) (by omega)]; exact e126)]
          exact good (Or.inr ⟨e32, e126⟩)
        · rw [if_neg (show ¬ nI s0 ≤ (126 : Int32) from by show ¬ nI s0 ≤ nI 126; rw [z_le (by omega) (by omega)]; exact e126), if_pos (by decide)]
          exact bad (by unfold zt_ok; omega)
      · rw [if_neg (show ¬ (32 : Int32) ≤ nI s0 from by show ¬ nI 32 ≤ nI s0; rw [z_le (by omega) (by omega)]; exact e32), if_pos (by decide)]
        exact bad (by unfold zt_ok; omega)
  · intro f s ⟨h1, h2⟩
    show z_w (ot_add_3_b F v _ (zsh 8) s) _
    unfold ot_add_3_b
    rw [if_neg (by decide)]
    exact z_w_some ⟨h1, h2⟩
def zt_f3 (v1 v2 v3 : Int64) (k : Nat) (a : Nat × (Nat → Nat)) : Nat × (Nat → Nat) := if k ≤ 8 then zt_fd v1 k a else if k ≤ 16 then zt_fd v2 (k - 8) (zt_fd v1 8 a) else zt_fd v3 (k - 16) (zt_fd v2 8 (zt_fd v1 8 a))
theorem zt_f3_v {v1 v2 v3 : Int64} {a : Nat × (Nat → Nat)} {k : Nat} (h : zt_v a) : zt_v (zt_f3 v1 v2 v3 k a) := by
  unfold zt_f3
  repeat' split
  · exact zt_fd_v h _
  · exact zt_fd_v (zt_fd_v h _) _
  · exact zt_fd_v (zt_fd_v (zt_fd_v h _) _) _
theorem zt_f3_s {v1 v2 v3 : Int64} {a : Nat × (Nat → Nat)} {k : Nat} (hk : k < 24) : zt_f3 v1 v2 v3 (k + 1) a = zt_put (zt_f3 v1 v2 v3 k a) (zb (if k < 8 then v1 else if k < 16 then v2 else v3) (56 - 8 * (k % 8))) := by
  unfold zt_f3
  by_cases e : k < 8
  · rw [if_pos (show k + 1 ≤ 8 by omega), if_pos (show k ≤ 8 by omega), if_pos e, Nat.mod_eq_of_lt e]; rfl
  · rw [if_neg (show ¬ k + 1 ≤ 8 by omega), if_neg e]
    by_cases e2 : k < 16
    · rw [if_pos (show k + 1 ≤ 16 by omega), if_pos e2, show k % 8 = k - 8 by omega, show k + 1 - 8 = (k - 8) + 1 by omega]
      by_cases e3 : k ≤ 8
      · rw [if_pos e3, show k = 8 by omega]; rfl
      · rw [if_neg e3, if_pos (show k ≤ 16 by omega)]; rfl
    · rw [if_neg (show ¬ k + 1 ≤ 16 by omega), if_neg e2, if_neg (show ¬ k ≤ 8 by omega), show k + 1 - 16 = (k - 16) + 1 by omega]
      by_cases e3 : k ≤ 16
      · rw [if_pos e3, show k = 16 by omega]; rfl
      · rw [if_neg e3, show k % 8 = k - 16 by omega]; rfl
theorem zt_R_feed {a : Nat × (Nat → Nat)} {r : g_St} {F : Nat} {v1 v2 v3 : Int64} (hv : zt_v a) (h : zt_R a r) (hF : 40 < F) : z_w (mm_feed_8 F v1 v2 v3 F 0 r) (fun q => q.1 = nI (zt_f3 v1 v2 v3 24 a).1 ∧ zt_R (zt_f3 v1 v2 v3 24 a) q.2 ∧ zt_kR r q.2) := by
  refine z_cw (n := 24) (A := fun f k s => mm_feed_8 F v1 v2 v3 f (nI k) s) (fun k s => zt_R (zt_f3 v1 v2 v3 k a) s ∧ zt_kR r s) ?_ ?_ F 0 r (by omega) ⟨h, fun _ _ _ => rfl, rfl, fun _ _ => rfl⟩ (by omega)
  · intro f k s hk ⟨h1, h2⟩ gk
    have av := zt_f3_v (v1 := v1) (v2 := v2) (v3 := v3) (k := k) hv
    have es := zt_f3_s (v1 := v1) (v2 := v2) (v3 := v3) (a := a) hk
    have key : ∀ w : Int64, w = (if k < 8 then v1 else if k < 16 then v2 else v3) → z_w (mm_feed_39 F (mm_feed_8 F v1 v2 v3 f) v1 v2 v3 (nI k) w s) (fun q => q.1 = nI (zt_f3 v1 v2 v3 24 a).1 ∧ zt_R (zt_f3 v1 v2 v3 24 a) q.2 ∧ zt_kR r q.2) := by
      intro w hw
      rw [← hw] at es
      have gk : ∀ s', zt_R (zt_put (zt_f3 v1 v2 v3 k a) (zb w (56 - 8 * (k % 8)))) s' ∧ zt_kR r s' → z_w (mm_feed_8 F v1 v2 v3 f (nI (k + 1)) s') (fun q => q.1 = nI (zt_f3 v1 v2 v3 24 a).1 ∧ zt_R (zt_f3 v1 v2 v3 24 a) q.2 ∧ zt_kR r q.2) := by rw [← es]; exact gk
      generalize zt_f3 v1 v2 v3 k a = b at h1 av gk
      have hb := zb_lt w (56 - 8 * (k % 8))
      unfold mm_feed_39 mm_feed_93
      rw [zsh_R k hk, zb_R0, zb_n _ _ (by omega), z_sbind, show w.toUInt64.toNat >>> (56 - 8 * (k % 8)) % 256 = zb w (56 - 8 * (k % 8)) from rfl, nI_1]
      generalize zb w (56 - 8 * (k % 8)) = s0 at hb gk
      have b1 := av.1
      by_cases e : b.1 < 1000
      · rw [h1.1, if_pos (show nI b.1 < (1000 : Int32) from nI_lt (b := 1000) e (by omega)), z_wr e (by omega), z_sbind, z_sbind, z_sI_id (by omega), h1.1, nI_1]
        have bad : ¬ zt_ok s0 → z_w (mm_feed_8 F v1 v2 v3 f (nI (k + 1)) s) (fun q => q.1 = nI (zt_f3 v1 v2 v3 24 a).1 ∧ zt_R (zt_f3 v1 v2 v3 24 a) q.2 ∧ zt_kR r q.2) := by
          intro q
          have ep : zt_put b s0 = b := by unfold zt_put; rw [if_neg (fun q2 => q q2.1)]
          exact gk s ⟨by rw [ep]; exact h1, h2⟩
        have good : zt_ok s0 → z_w (mm_feed_8 F v1 v2 v3 f (nI (k + 1)) (g_sI (g_sI s 1 b.1 (nI s0)) 0 1 (nI (b.1 + 1)))) (fun q => q.1 = nI (zt_f3 v1 v2 v3 24 a).1 ∧ zt_R (zt_f3 v1 v2 v3 24 a) q.2 ∧ zt_kR r q.2) := by
          intro q
          have ep : zt_put b s0 = (b.1 + 1, fun i => if i = b.1 then s0 else b.2 i) := by unfold zt_put; rw [if_pos ⟨q, e⟩]
          exact gk _ ⟨by rw [ep]; exact zt_R_put h1, zt_kR_trans h2 ⟨fun id q1 q2 => by rw [z_sI_f q1, z_sI_f q2], rfl, fun j q1 => by rw [z_sI_k q1, z_sI_id (by omega)]⟩⟩
        by_cases e10 : s0 = 10
        · rw [if_pos (show nI s0 = (10 : Int32) from by rw [e10]; rfl)]
          exact good (Or.inl e10)
        · rw [if_neg (show ¬ nI s0 = (10 : Int32) from by show ¬ nI s0 = nI 10; rw [z_eq (by omega) (by omega)]; exact e10)]
          by_cases e32 : 32 ≤ s0
          · rw [if_pos (show (32 : Int32) ≤ nI s0 from by show nI 32 ≤ nI s0; rw [z_le (by omega) (by omega)]; exact e32)]
            by_cases e126 : s0 ≤ 126
            · rw [if_pos (show nI s0 ≤ (126 : Int32) from by show nI s0 ≤ nI 126; rw [z_le (by omega) (by omega)]; exact e126)]
              exact good (Or.inr ⟨e32, e126⟩)
            · rw [if_neg (show ¬ nI s0 ≤ (126 : Int32) from by show ¬ nI s0 ≤ nI 126; rw [z_le (by omega) (by omega)]; exact e126)]
              exact bad (by unfold zt_ok; omega)
          · rw [if_neg (show ¬ (32 : Int32) ≤ nI s0 from by show ¬ nI 32 ≤ nI s0; rw [z_le (by omega) (by omega)]; exact e32)]
            exact bad (by unfold zt_ok; omega)
      · have ep : zt_put b s0 = b := by unfold zt_put; rw [if_neg (fun q2 => e q2.2)]
        rw [h1.1, if_neg (show ¬ nI b.1 < (1000 : Int32) from by show ¬ nI b.1 < nI 1000; rw [z_lt (by omega) (by omega)]; exact e)]
        exact gk s ⟨by rw [ep]; exact h1, h2⟩
    show z_w (mm_feed_8_b F v1 v2 v3 _ (nI k) s) _
    unfold mm_feed_8_b
    rw [if_pos (show nI k < (24 : Int32) from nI_lt (b := 24) hk (by omega))]
    by_cases e8 : k < 8
    · rw [if_pos (show nI k < (8 : Int32) from nI_lt (b := 8) e8 (by omega))]; exact key v1 (by rw [if_pos e8])
    · rw [if_neg (show ¬ nI k < (8 : Int32) from by show ¬ nI k < nI 8; rw [z_lt (by omega) (by omega)]; exact e8)]
      by_cases e16 : k < 16
      · rw [if_pos (show nI k < (16 : Int32) from nI_lt (b := 16) e16 (by omega))]; exact key v2 (by rw [if_neg e8, if_pos e16])
      · rw [if_neg (show ¬ nI k < (16 : Int32) from by show ¬ nI k < nI 16; rw [z_lt (by omega) (by omega)]; exact e16)]; exact key v3 (by rw [if_neg e8, if_neg e16])
  · intro f s ⟨h1, h2⟩
    show z_w (mm_feed_8_b F v1 v2 v3 _ (nI 24) s) _
    unfold mm_feed_8_b
    rw [if_neg (by decide)]
    exact z_w_some ⟨h1.1, h1, h2⟩
/-- the TAPE changes, nothing else does -/
theorem zi_T {L : zl_T} {U : zu_T} {W : zw_T} {c c2 r r2 : g_St} (h : zi_I L U W c r) (hc : (∀ id, (id = 0 ∨ 6 < id) → c2.1 id = c.1 id) ∧ c2.2.2 = c.2.2 ∧ ∀ k, c2.2.1 2 k = c.2.1 2 k) (hr : (∀ id, 1 < id → r2.1 id = r.1 id) ∧ r2.1 0 22 = r.1 0 22 ∧ r2.1 0 39 = r.1 0 39) (hT : zt_I c2 r2) : zi_I L U W c2 r2 := by
  obtain ⟨ho, how, hC, hR, hq, -, hm, hca⟩ := h
  obtain ⟨c1, c22, cw⟩ := hc
  have cid := c1
  refine ⟨ho, how, ?_, ?_, ?_, hT, ?_, ?_⟩
  · obtain ⟨k1, k2, k3, k4, k5⟩ := hC
    have lb := k1
    unfold g_isLand at lb
    have rb := k2
    unfold g_isRule at rb
    refine ⟨by rw [c22]; exact k1, by rw [c22]; exact k2, ?_, ?_, ?_⟩
    · unfold zl_C at *
      rw [c22, cid _ (by omega), cid (_ + 10) (by omega), cid (_ + 11) (by omega), cid (_ + 12) (by omega), cid (_ + 13) (by omega)]
      refine ⟨k3.1, k3.2.1, k3.2.2.1, fun x y hx hy => ?_, k3.2.2.2.2.1, fun p hp => ?_⟩
      · rw [cid _ (by omega)]; exact k3.2.2.2.1 x y hx hy
      · refine ⟨(k3.2.2.2.2.2 p hp).1, (k3.2.2.2.2.2 p hp).2.1, fun j hj => ?_⟩
        rw [cid _ (by omega)]; exact (k3.2.2.2.2.2 p hp).2.2 j hj
    · unfold zu_C at *
      rw [c22, cid (c.2.2 2) (by omega), cid (c.2.2 2 + 1) (by omega), cid (c.2.2 2 + 2) (by omega)]
      exact k4
    · exact zw_C_f k5 (fun k hk => cid _ (by omega))
  · obtain ⟨h1, h2, h3⟩ := hR
    unfold zk_R zl_R zu_R zw_R at *
    rw [hr.1 2 (by omega), hr.1 3 (by omega), hr.1 4 (by omega), hr.1 8 (by omega), hr.1 9 (by omega), hr.1 10 (by omega), hr.1 11 (by omega), hr.1 12 (by omega), hr.1 13 (by omega), hr.1 14 (by omega), hr.1 15 (by omega), hr.1 16 (by omega), hr.1 29 (by omega), hr.1 30 (by omega), hr.1 31 (by omega), hr.1 32 (by omega), hr.1 33 (by omega), hr.1 34 (by omega), hr.1 35 (by omega), hr.1 36 (by omega), hr.2.1, hr.2.2]
    exact ⟨h1, h2, h3⟩
  · unfold zi_q at *; rw [c22]; exact hq
  · obtain ⟨ld, l1, l2, l3⟩ := hm
    refine ⟨ld, l1, by rw [cid 0 (by omega)]; exact l2, fun m hm => ?_⟩
    rw [hr.1 47 (by omega)]
    refine ⟨(l3 m hm).1, fun q => ?_⟩
    obtain ⟨W2, w1, w2, w3⟩ := (l3 m hm).2 q
    refine ⟨W2, w1, zw_C_f w2 (fun k hk => cid _ (by omega)), ?_⟩
    unfold zw_M at *
    rw [hr.1 48 (by omega)]
    exact w3
  · exact zi_ca_f hca (by rw [cid 0 (by omega)]) (fun id q1 q2 => cid id (by omega))
theorem zo_feed {F : Nat} (hF : 4000 < F) {c r : g_St} (h : zi c r) (v1 v2 v3 : Int64) : zo_s c r (oo_feed F v1 v2 v3 c) (mm_feed F v1 v2 v3 r) := by
  obtain ⟨L, U, W, h⟩ := h
  have hT := h.2.2.2.2.2.1
  obtain ⟨n, n1, n2, n3, n4, n5⟩ := hT
  have ⟨a, av, aC, aR⟩ : ∃ a, zt_v a ∧ zt_C a c ∧ zt_R a r := by
    refine ⟨(n, fun i => (c.1 3 i).toNatClampNeg), ⟨n1, fun i hi => ?_⟩, ⟨n2, fun i hi => ?_⟩, ⟨n3, fun i hi => ?_⟩⟩
    · obtain ⟨s, s1, s2, s3⟩ := n4 i hi
      show zt_ok (c.1 3 i).toNatClampNeg
      rw [s1, z_cl (by omega)]; exact s3
    · obtain ⟨s, s1, s2, s3⟩ := n4 i hi
      show c.1 3 i = nI (c.1 3 i).toNatClampNeg
      rw [s1, z_cl (by omega)]
    · obtain ⟨s, s1, s2, s3⟩ := n4 i hi
      show r.1 1 i = nI (c.1 3 i).toNatClampNeg
      rw [s1, z_cl (by omega)]; exact s2
  unfold oo_feed mm_feed
  rw [z_sbind]
  obtain ⟨c1, e1, p1, k1⟩ := zt_C_add (F := F) (v := v1) av aC (by omega)
  obtain ⟨c2, e2, p2, k2⟩ := zt_C_add (F := F) (v := v2) (zt_fd_v av 8) p1 (by omega)
  obtain ⟨c3, e3, p3, k3⟩ := zt_C_add (F := F) (v := v3) (zt_fd_v (zt_fd_v av 8) 8) p2 (by omega)
  have aR0 : zt_R a (g_sI r 0 0 0) := ⟨by rw [z_sI_k (by omega)]; exact aR.1, fun i hi => by rw [z_sI_id (by omega)]; exact aR.2 i hi⟩
  obtain ⟨q, e4, p4, p5, k4⟩ := zt_R_feed (F := F) (v1 := v1) (v2 := v2) (v3 := v3) av aR0 (by omega)
  have e24 : zt_f3 v1 v2 v3 24 a = zt_fd v3 8 (zt_fd v2 8 (zt_fd v1 8 a)) := rfl
  have kC := zt_kC_trans k1 (zt_kC_trans k2 k3)
  have bv := zt_fd_v (v := v3) (zt_fd_v (v := v2) (zt_fd_v (v := v1) av 8) 8) 8
  rw [e24] at p4 p5
  rw [e1, z_sbind, e2, z_sbind, e3, z_sbind, e4]
  refine zo_s_of (x := nI (zt_fd v3 8 (zt_fd v2 8 (zt_fd v1 8 a))).1) (by rw [p3.1]) (by rw [← p4]) (zi_T h ⟨fun id q => kC.1 id (by omega) (by omega), by rw [kC.2.1], fun k => by rw [kC.2.1]⟩ ⟨fun id q => by rw [k4.1 id (by omega) (by omega), z_sI_f (by omega)], by rw [k4.2.2 22 (by omega), z_sI_k (by omega)], by rw [k4.2.2 39 (by omega), z_sI_k (by omega)]⟩ ?_)
  refine ⟨_, bv.1, p3.1, p5.1, fun i hi => ⟨_, p3.2 i hi, p5.2 i hi, bv.2 i hi⟩, fun k hk => by rw [kC.2.1]; exact n5 k hk⟩
