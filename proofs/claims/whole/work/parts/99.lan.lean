/-! Layer 2: both programs read a LAND, line by line -/
theorem zp_other {Y : zp_S} {j F : Nat} {c r : g_St} {Q : g_St → g_St → Prop} (h : zp_V Y j c r) (hk : ¬ (zn_k (zp_t Y j) = 0 ∨ zn_k (zp_t Y j) = 1 ∨ zn_k (zp_t Y j) = 2 ∨ zn_k (zp_t Y j) = 5)) : zp_q Y (od_readLine F Y.1.2.2 c) (mm_fails (1 : Int32) r) Q := by
  have kd := zp_V_kd h
  have k4 := zn_kd_lt kd
  have h8 : c.1 1 8 = nI (zn_k (zp_t Y j)) := h.1.2.2.2.2.2.2.1
  have w : zp_q Y ((ot_wrong (1 : Int32) c).bind fun q => some (q.1 &&& 1, q.2)) (mm_fails (1 : Int32) r) Q := zp_q_and (zp_q_bad (f := 1) h (by omega))
  unfold od_readLine
  rw [h8]
  have ne : ∀ i, i < 10 → zn_k (zp_t Y j) ≠ i → ¬ nI (zn_k (zp_t Y j)) = nI i := fun i hi q => by rw [z_eq (by omega) (by omega)]; exact q
  rw [if_neg (show ¬ nI _ = (0 : Int32) from ne 0 (by omega) (by omega)), if_neg (show ¬ nI _ = (1 : Int32) from ne 1 (by omega) (by omega)), if_neg (show ¬ nI _ = (2 : Int32) from ne 2 (by omega) (by omega)), if_neg (show ¬ nI _ = (5 : Int32) from ne 5 (by omega) (by omega))]
  repeat' split
  all_goals exact w
theorem zp_loop {Y : zp_S} {F : Nat} (hF : 1100 < F) : ∀ (d i j f g : Nat) (P : zp_T) (c r : g_St), Y.2.2.2.2 - j = d → i ≤ j → d < f → d < g → zp_V Y j c r → zp_L Y.1.2.2 P c r → zp_z0 P →
    (∃ c2 r2, od_read_10 F Y.1.2.2 f (nI i) c = od_read_44 F Y.1.2.2 c2 ∧ mm_readsLand_64 F g r = some (0, r2) ∧ zp_E Y c2 r2) ∨
    (∃ P2 j2 c2 r2, od_read_10 F Y.1.2.2 f (nI i) c = od_read_44 F Y.1.2.2 c2 ∧ mm_readsLand_64 F g r = some (nI 1, r2) ∧ zp_V Y j2 c2 r2 ∧ zp_L Y.1.2.2 P2 c2 r2 ∧ zp_z0 P2) := by
  intro d
  induction d using Nat.strongRecOn with
  | ind d ih =>
    intro i j f g P c r hd hij hf hg h hL hz0
    obtain ⟨f, rfl⟩ : ∃ f', f = f' + 1 := ⟨f - 1, by omega⟩
    obtain ⟨g, rfl⟩ : ∃ g', g = g' + 1 := ⟨g - 1, by omega⟩
    have kd := zp_V_kd h
    have k4 := zn_kd_lt kd
    have h8 : c.1 1 8 = nI (zn_k (zp_t Y j)) := h.1.2.2.2.2.2.2.1
    have hat : zn_at (zp_t Y j) r := h.2.1.2.2.2
    have hj := h.1.2.2.1
    have hm := h.1.2.1.2.2.2.2
    have hn := h.1.1.1
    have h6 := hat.2.2.1
    show (∃ c2 r2, od_read_10_b F Y.1.2.2 (od_read_10 F Y.1.2.2 f) (nI i) c = _ ∧ mm_readsLand_64_b F (mm_readsLand_64 F g) r = _ ∧ _) ∨ (∃ P2 j2 c2 r2, od_read_10_b F Y.1.2.2 (od_read_10 F Y.1.2.2 f) (nI i) c = _ ∧ mm_readsLand_64_b F (mm_readsLand_64 F g) r = _ ∧ _)
    unfold od_read_10_b mm_readsLand_64_b
    by_cases e : zn_k (zp_t Y j) = 202
    · right
      have r0 : r.1 0 6 = (0 : Int32) := by rw [h6, e]; rfl
      refine ⟨P, j, c, r, ?_, by rw [if_pos r0]; rfl, h, hL, hz0⟩
      rw [h8, if_pos (show nI _ = (202 : Int32) by rw [e]; rfl)]
      split <;> rfl
    · have nj := zp_n_lt h e
      have jm : j < Y.2.2.2.2 := by
        unfold zp_n zn_nx at nj
        split at nj
        · assumption
        · omega
      have r0 : ¬ r.1 0 6 = (0 : Int32) := by
        rw [h6]
        show ¬ nI _ = nI 0
        unfold zn_rk
        repeat' split
        all_goals first | (rw [z_eq (by omega) (by omega)]; omega) | omega
      rw [if_pos (show nI i < (1000 : Int32) by show nI i < nI 1000; rw [z_lt (by omega) (by omega)]; omega), h8, if_neg (show ¬ nI _ = (202 : Int32) by show ¬ nI _ = nI 202; rw [z_eq (by omega) (by omega)]; exact e), if_neg r0]
      have fin : ∀ y : Option (Int32 × g_St), zp_q Y (od_readLine F Y.1.2.2 c) y (zp_Q Y j) →
          (∃ c2 r2, ((od_readLine F Y.1.2.2 c).bind fun q3 => if q3.1 = 0 then od_read_44 F Y.1.2.2 q3.2 else od_read_10 F Y.1.2.2 f (nI i + 1) q3.2) = od_read_44 F Y.1.2.2 c2 ∧ (y.bind fun q => mm_readsLand_144 F (mm_readsLand_64 F g) q.1 q.2) = some (0, r2) ∧ zp_E Y c2 r2) ∨
          (∃ P2 j2 c2 r2, ((od_readLine F Y.1.2.2 c).bind fun q3 => if q3.1 = 0 then od_read_44 F Y.1.2.2 q3.2 else od_read_10 F Y.1.2.2 f (nI i + 1) q3.2) = od_read_44 F Y.1.2.2 c2 ∧ (y.bind fun q => mm_readsLand_144 F (mm_readsLand_64 F g) q.1 q.2) = some (nI 1, r2) ∧ zp_V Y j2 c2 r2 ∧ zp_L Y.1.2.2 P2 c2 r2 ∧ zp_z0 P2) := by
        intro y ⟨v, c2, r2, q1, q2, q3⟩
        rw [q1, q2, z_sbind, z_sbind]
        unfold mm_readsLand_144
        rcases q3 with ⟨v1, P2, j2, p1, p2, p3, p4⟩ | ⟨v0, p1⟩
        · rw [v1, if_neg zn_p1, if_neg zn_p1, nI_1]
          have hj2 := p2.1.2.2.1
          exact ih (Y.2.2.2.2 - j2) (by omega) (i + 1) j2 f g P2 c2 r2 rfl (by omega) (by omega) (by omega) p2 p3 p4
        · left
          rw [v0, if_pos zn_p0, if_pos zn_p0]
          exact ⟨c2, r2, rfl, rfl, p1⟩
      rw [show mm_isWord r (8740067 : Int64) = _ from zn_isWord (i := 0) hat kd (by omega), z_sbind]
      by_cases e0 : zn_k (zp_t Y j) = 0
      · rw [if_pos e0, if_neg zn_p1]; exact fin _ (zp_rPlace h hL hz0 e0 hF)
      · rw [if_neg e0, if_pos zn_p0, show mm_isWord r (16819 : Int64) = _ from zn_isWord (i := 1) hat kd (by omega), z_sbind]
        by_cases e1 : zn_k (zp_t Y j) = 1
        · rw [if_pos e1, if_neg zn_p1]; exact fin _ (zp_rWay h hL hz0 e1 hF)
        · rw [if_neg e1, if_pos zn_p0, show mm_isWord r (149125 : Int64) = _ from zn_isWord (i := 2) hat kd (by omega), z_sbind]
          by_cases e2 : zn_k (zp_t Y j) = 2
          · rw [if_pos e2, if_neg zn_p1]; exact fin _ (zp_rGood h hL hz0 e2 hF)
          · rw [if_neg e2, if_pos zn_p0, show mm_isWord r (232608281 : Int64) = _ from zn_isWord (i := 5) hat kd (by omega), z_sbind]
            by_cases e5 : zn_k (zp_t Y j) = 5
            · rw [if_pos e5, if_neg zn_p1]; exact fin _ (zp_rPerson h hL hz0 e5 hF)
            · rw [if_neg e5, if_pos zn_p0]; exact fin _ (zp_other h (by omega))
/-- shortest ways: the class -/
def zs_1 (bl m a b : Nat) (c : g_St) : g_St := g_sI c (bl + 5 + a) b (g_min (c.1 (bl + 5 + a) b) (c.1 (bl + 5 + a) m + c.1 (bl + 5 + m) b))
def zs_b (bl m a : Nat) (c : g_St) : Nat → g_St
  | 0 => c
  | n + 1 => zs_1 bl m a n (zs_b bl m a c n)
def zs_a (bl N m : Nat) (c : g_St) : Nat → g_St
  | 0 => c
  | n + 1 => zs_b bl m n (zs_a bl N m c n) N
def zs_m (bl N : Nat) (c : g_St) : Nat → g_St
  | 0 => c
  | n + 1 => zs_a bl N n (zs_m bl N c n) N
def zs_k (bl : Nat) (c c2 : g_St) : Prop := (∀ id, (id < bl + 5 ∨ bl + 10 ≤ id) → c2.1 id = c.1 id) ∧ c2.2 = c.2
theorem zs_k_refl {bl : Nat} {c : g_St} : zs_k bl c c := ⟨fun _ _ => rfl, rfl⟩
theorem zs_k_t {bl : Nat} {a b c : g_St} (h : zs_k bl a b) (h2 : zs_k bl b c) : zs_k bl a c := ⟨fun id q => by rw [h2.1 id q, h.1 id q], by rw [h2.2, h.2]⟩
theorem zs_b_k {bl m a : Nat} {c : g_St} (ha : a < 5) : ∀ n, zs_k bl c (zs_b bl m a c n)
  | 0 => zs_k_refl
  | n + 1 => zs_k_t (zs_b_k ha n) ⟨fun id q => z_sI_f (by omega), rfl⟩
theorem zs_a_k {bl N m : Nat} {c : g_St} : ∀ n, n ≤ 5 → zs_k bl c (zs_a bl N m c n)
  | 0, _ => zs_k_refl
  | n + 1, h => zs_k_t (zs_a_k n (by omega)) (zs_b_k (by omega) N)
theorem zs_m_k {bl N : Nat} {c : g_St} (hN : N ≤ 5) : ∀ n, zs_k bl c (zs_m bl N c n)
  | 0 => zs_k_refl
  | n + 1 => zs_k_t (zs_m_k hN n) (zs_a_k N hN)
theorem zs_C {bl F N : Nat} {c : g_St} (hN : N ≤ 5) (h : c.1 bl 0 = nI N) (hF : 20 < F) : ol_shortenWays F bl c = some (zs_m bl N c N) := by
  unfold ol_shortenWays
  refine z_cnt0 (n := N) (A := fun f i => ol_shortenWays_2 F bl f (nI i) (zs_m bl N c i)) (fun f m hm => ?_) (fun f => ?_) (by omega)
  · have e0 : ∀ n, (zs_m bl N c n).1 bl 0 = nI N := fun n => by rw [(zs_m_k hN n).1 bl (by omega)]; exact h
    show ol_shortenWays_2_b F bl _ (nI m) _ = _
    unfold ol_shortenWays_2_b
    rw [e0, if_pos (show nI m < nI N by rw [z_lt (by omega) (by omega)]; exact hm)]
    refine z_cnt0 (n := N) (A := fun f i => ol_shortenWays_12 F bl (nI m) (ol_shortenWays_2 F bl _) f (nI i) (zs_a bl N m (zs_m bl N c m) i)) (fun f2 a ha => ?_) (fun f2 => ?_) (by omega)
    · have e1 : ∀ n, n ≤ 5 → (zs_a bl N m (zs_m bl N c m) n).1 bl 0 = nI N := fun n hn => by rw [(zs_a_k n hn).1 bl (by omega)]; exact e0 m
      show ol_shortenWays_12_b F bl (nI m) _ _ (nI a) _ = _
      unfold ol_shortenWays_12_b
      rw [e1 a (by omega), if_pos (show nI a < nI N by rw [z_lt (by omega) (by omega)]; exact ha)]
      refine z_cnt0 (n := N) (A := fun f i => ol_shortenWays_22 F bl (nI m) (nI a) _ _ f (nI i) (zs_b bl m a (zs_a bl N m (zs_m bl N c m) a) i)) (fun f3 b hb => ?_) (fun f3 => ?_) (by omega)
      · have e2 : (zs_b bl m a (zs_a bl N m (zs_m bl N c m) a) b).1 bl 0 = nI N := by rw [(zs_b_k (by omega) b).1 bl (by omega)]; exact e1 a (by omega)
        show ol_shortenWays_22_b F bl (nI m) (nI a) _ _ _ (nI b) _ = _
        unfold ol_shortenWays_22_b
        rw [e2, if_pos (show nI b < nI N by rw [z_lt (by omega) (by omega)]; exact hb), z_rr (by omega) (by omega), z_sbind, z_sbind, z_rd (by omega) (by omega), z_sbind, z_sbind, z_rd (by omega) (by omega), z_sbind, z_rr (by omega) (by omega), z_sbind, z_rd (by omega) (by omega), z_sbind, z_wr (by omega) (by omega), z_sbind, nI_1]
        rfl
      · have e2 : (zs_b bl m a (zs_a bl N m (zs_m bl N c m) a) N).1 bl 0 = nI N := by rw [(zs_b_k (by omega) N).1 bl (by omega)]; exact e1 a (by omega)
        show ol_shortenWays_22_b F bl (nI m) (nI a) _ _ _ (nI N) _ = _
        unfold ol_shortenWays_22_b
        rw [e2, if_neg (show ¬ nI N < nI N by rw [z_lt (by omega) (by omega)]; omega), nI_1]
        rfl
    · have e1 : (zs_a bl N m (zs_m bl N c m) N).1 bl 0 = nI N := by rw [(zs_a_k N hN).1 bl (by omega)]; exact e0 m
      show ol_shortenWays_12_b F bl (nI m) _ _ (nI N) _ = _
      unfold ol_shortenWays_12_b
      rw [e1, if_neg (show ¬ nI N < nI N by rw [z_lt (by omega) (by omega)]; omega), nI_1]
      rfl
  · show ol_shortenWays_2_b F bl _ (nI N) _ = _
    unfold ol_shortenWays_2_b
    rw [show (zs_m bl N c N).1 bl 0 = nI N from by rw [(zs_m_k hN N).1 bl (by omega)]; exact h, if_neg (show ¬ nI N < nI N by rw [z_lt (by omega) (by omega)]; omega)]
/-- shortest ways, as numbers -/
def zs_v (m a b : Nat) (w : Nat → Nat → Nat) : Nat → Nat → Nat := fun x y => if x = a ∧ y = b then min (w a b) (w a m + w m b) else w x y
theorem zs_min {a b c : Nat} (ha : a ≤ 999) (hb : b ≤ 999) (hc : c ≤ 999) : g_min (nI a) (nI b + nI c) = nI (min a (b + c)) := by
  rw [nI_add, z_min (by omega) (by omega)]
def zs_wC (bl : Nat) (w : Nat → Nat → Nat) (c : g_St) : Prop := ∀ x y, x < 5 → y < 5 → w x y ≤ 999 ∧ c.1 (bl + 5 + x) y = nI (w x y)
def zs_wR (w : Nat → Nat → Nat) (r : g_St) : Prop := ∀ x y, x < 5 → y < 5 → w x y ≤ 999 ∧ r.1 8 (5 * x + y) = nI (w x y)
theorem zs_1_C {bl m a b : Nat} {w : Nat → Nat → Nat} {c : g_St} (h : zs_wC bl w c) (hm : m < 5) (ha : a < 5) (hb : b < 5) : zs_wC bl (zs_v m a b w) (zs_1 bl m a b c) := by
  intro x y hx hy
  have h1 := h x y hx hy
  have h2 := h a b ha hb
  have h3 := h a m ha hm
  have h4 := h m b hm hb
  unfold zs_v zs_1
  rw [z_sI]
  by_cases e : x = a ∧ y = b
  · rw [if_pos e, if_pos ⟨by rw [e.1], e.2⟩, h2.2, h3.2, h4.2, zs_min h2.1 h3.1 h4.1]
    exact ⟨by have := h2.1; omega, rfl⟩
  · rw [if_neg e, if_neg (fun q => e ⟨by omega, q.2⟩)]; exact h1
def zs_vb (m a : Nat) (w : Nat → Nat → Nat) : Nat → Nat → Nat → Nat
  | 0 => w
  | n + 1 => zs_v m a n (zs_vb m a w n)
def zs_va (N m : Nat) (w : Nat → Nat → Nat) : Nat → Nat → Nat → Nat
  | 0 => w
  | n + 1 => zs_vb m n (zs_va N m w n) N
def zs_vm (N : Nat) (w : Nat → Nat → Nat) : Nat → Nat → Nat → Nat
  | 0 => w
  | n + 1 => zs_va N n (zs_vm N w n) N
theorem zs_b_C {bl m a : Nat} {w : Nat → Nat → Nat} {c : g_St} (h : zs_wC bl w c) (hm : m < 5) (ha : a < 5) : ∀ n, n ≤ 5 → zs_wC bl (zs_vb m a w n) (zs_b bl m a c n)
  | 0, _ => h
  | n + 1, q => zs_1_C (zs_b_C h hm ha n (by omega)) hm ha (by omega)
theorem zs_a_C {bl N m : Nat} {w : Nat → Nat → Nat} {c : g_St} (h : zs_wC bl w c) (hN : N ≤ 5) (hm : m < 5) : ∀ n, n ≤ 5 → zs_wC bl (zs_va N m w n) (zs_a bl N m c n)
  | 0, _ => h
  | n + 1, q => zs_b_C (zs_a_C h hN hm n (by omega)) hm (by omega) N hN
theorem zs_m_C {bl N : Nat} {w : Nat → Nat → Nat} {c : g_St} (h : zs_wC bl w c) (hN : N ≤ 5) : ∀ n, n ≤ 5 → zs_wC bl (zs_vm N w n) (zs_m bl N c n)
  | 0, _ => h
  | n + 1, q => zs_a_C (zs_m_C h hN n (by omega)) hN (by omega) N hN
/-- what is not told changes nothing -/
def zs_I (p : Nat) (w v : Nat → Nat → Nat) : Prop := (∀ x y, x < p → y < p → w x y = v x y) ∧ ∀ x y, x < 5 → y < 5 → w x y ≤ 999 ∧ (p ≤ x ∨ p ≤ y ∨ x = y → w x y = if x = y then 0 else 999)
theorem zs_I_1 {p m a b : Nat} {w v : Nat → Nat → Nat} (h : zs_I p w v) (hp : p ≤ 5) (hm : m < 5) (ha : a < 5) (hb : b < 5) : zs_I p (zs_v m a b w) (if m < p ∧ a < p ∧ b < p then zs_v m a b v else v) := by
  obtain ⟨h1, h2⟩ := h
  have w1 := h2 a b ha hb
  have w2 := h2 a m ha hm
  have w3 := h2 m b hm hb
  refine ⟨fun x y hx hy => ?_, fun x y hx hy => ?_⟩
  · by_cases q : m < p ∧ a < p ∧ b < p
    · rw [if_pos q]
      unfold zs_v
      rw [h1 a b q.2.1 q.2.2, h1 a m q.2.1 q.1, h1 m b q.1 q.2.2, h1 x y hx hy]
    · rw [if_neg q, ← h1 x y hx hy]
      unfold zs_v
      by_cases e : x = a ∧ y = b
      · rw [if_pos e, e.1, e.2]
        have w4 := w2.2
        have w5 := w3.2
        have hm2 : p ≤ m := by omega
        have w4 := w4 (Or.inr (Or.inl hm2))
        have w5 := w5 (Or.inl hm2)
        rw [w4, w5]
        rw [if_neg (by omega), if_neg (by omega)]
        omega
      · rw [if_neg e]
  · have w0 := h2 x y hx hy
    unfold zs_v
    by_cases e : x = a ∧ y = b
    · rw [if_pos e]
      refine ⟨by omega, fun q => ?_⟩
      obtain ⟨rfl, rfl⟩ := e
      have w6 := w1.2 q
      rw [w6]
      by_cases exy : x = y
      · rw [if_pos exy]; omega
      · rw [if_neg exy] at *
        have : 999 ≤ w x m + w m y := by
          by_cases q1 : p ≤ x ∨ p ≤ m ∨ x = m
          · have w7 := w2.2 q1
            by_cases e3 : x = m
            · subst e3; rw [w6]; omega
            · rw [if_neg e3] at w7; omega
          · have q2 : p ≤ y := by omega
            have w8 := w3.2 (Or.inr (Or.inl q2))
            by_cases e3 : m = y
            · omega
            · rw [if_neg e3] at w8; omega
        omega
    · rw [if_neg e]; exact w0
theorem zs_I_b {p m a : Nat} {w v : Nat → Nat → Nat} (h : zs_I p w v) (hp : p ≤ 5) (hm : m < 5) (ha : a < 5) : ∀ n, n ≤ 5 → zs_I p (zs_vb m a w n) (if m < p ∧ a < p then zs_vb m a v (min n p) else v)
  | 0, _ => by
    rw [show min 0 p = 0 by omega]
    show zs_I p w (if m < p ∧ a < p then v else v)
    split <;> exact h
  | n + 1, q => by
    have ih := zs_I_1 (zs_I_b h hp hm ha n (by omega)) hp hm ha (show n < 5 by omega)
    by_cases e : m < p ∧ a < p
    · rw [if_pos e] at ih ⊢
      by_cases e2 : n < p
      · rw [if_pos ⟨e.1, e.2, e2⟩, show min n p = n by omega] at ih
        rw [show min (n + 1) p = n + 1 by omega]; exact ih
      · rw [if_neg (fun q => e2 q.2.2), show min n p = min (n + 1) p by omega] at ih
        exact ih
    · rw [if_neg e] at ih ⊢
      rw [if_neg (fun q => e ⟨q.1, q.2.1⟩)] at ih
      exact ih
theorem zs_I_a {p m : Nat} {w v : Nat → Nat → Nat} (h : zs_I p w v) (hp : p ≤ 5) (hm : m < 5) : ∀ n, n ≤ 5 → zs_I p (zs_va 5 m w n) (if m < p then zs_va p m v (min n p) else v)
  | 0, _ => by
    rw [show min 0 p = 0 by omega]
    show zs_I p w (if m < p then v else v)
    split <;> exact h
  | n + 1, q => by
    have ih := zs_I_b (zs_I_a h hp hm n (by omega)) hp hm (show n < 5 by omega) 5 (Nat.le_refl _)
    rw [show min 5 p = p by omega] at ih
    by_cases e : m < p
    · rw [if_pos e] at ih ⊢
      by_cases e2 : n < p
      · rw [if_pos ⟨e, e2⟩, show min n p = n by omega] at ih
        rw [show min (n + 1) p = n + 1 by omega]; exact ih
      · rw [if_neg (fun q => e2 q.2), show min n p = min (n + 1) p by omega] at ih
        exact ih
    · rw [if_neg e] at ih ⊢
      rw [if_neg (fun q => e q.1)] at ih
      exact ih
theorem zs_I_m {p : Nat} {w v : Nat → Nat → Nat} (h : zs_I p w v) (hp : p ≤ 5) : ∀ n, n ≤ 5 → zs_I p (zs_vm 5 w n) (zs_vm p v (min n p))
  | 0, _ => by rw [show min 0 p = 0 by omega]; exact h
  | n + 1, q => by
    have ih := zs_I_a (zs_I_m h hp n (by omega)) hp (show n < 5 by omega) 5 (Nat.le_refl _)
    rw [show min 5 p = p by omega] at ih
    by_cases e2 : n < p
    · rw [if_pos e2, show min n p = n by omega] at ih
      rw [show min (n + 1) p = n + 1 by omega]; exact ih
    · rw [if_neg e2, show min n p = min (n + 1) p by omega] at ih
      exact ih
