/-! Layer 2: MARK -/
theorem z_sI_no {μ : g_St} {id k : Nat} {v : Int32} (h : μ.1 id k = v) : g_sI μ id k v = μ := by
  apply Prod.ext
  · funext a j; rw [z_sI]
    by_cases e : a = id ∧ j = k
    · rw [if_pos e, e.1, e.2, h]
    · rw [if_neg e]
  · rfl
theorem zk_step0 {α : Type} {μ : g_St} {id n i idx : Nat} {e : Int32} {K : g_St → Option α} (he : e = nI idx) (hx : idx < 1000) (hi : i < n) (hn : n ≤ 40) (hid : id ≠ 48) : ((g_rd μ id n (nI i)).bind fun x => (mm_keeps e x 0 μ).bind fun q => (g_wr q.2 id n (nI i) q.1).bind K) = K (g_sI μ 48 idx (μ.1 id i)) := by
  subst he
  rw [z_rd hi (by omega), z_sbind]
  unfold mm_keeps
  rw [if_pos rfl, z_wr hx (by omega), z_sbind, z_sbind, z_wr hi (by omega), z_sbind, z_sI_no (μ := g_sI μ 48 idx (μ.1 id i)) (z_sI_id hid)]
theorem zk_step1 {α : Type} {μ : g_St} {id n i idx : Nat} {e v2 : Int32} {K : g_St → Option α} (hv : v2 ≠ 0) (he : e = nI idx) (hx : idx < 1000) (hi : i < n) (hn : n ≤ 40) : ((g_rd μ id n (nI i)).bind fun x => (mm_keeps e x v2 μ).bind fun q => (g_wr q.2 id n (nI i) q.1).bind K) = K (g_sI μ id i (μ.1 48 idx)) := by
  subst he
  rw [z_rd hi (by omega), z_sbind]
  unfold mm_keeps
  rw [if_neg hv, z_rd hx (by omega), z_sbind, z_sbind, z_wr hi (by omega), z_sbind]
theorem zk_keep0 {μ : g_St} {k : Nat} {v : Int32} (h : k < 1000) : mm_keeps (nI k) v 0 μ = some (v, g_sI μ 48 k v) := by
  unfold mm_keeps
  rw [if_pos rfl, z_wr h (by omega), z_sbind]
theorem zk_keep1 {μ : g_St} {k : Nat} {v w : Int32} (hw : w ≠ 0) (h : k < 1000) : mm_keeps (nI k) v w μ = some (μ.1 48 k, μ) := by
  unfold mm_keeps
  rw [if_neg hw, z_rd h (by omega), z_sbind]
def zk_S (r : g_St) (b : Nat) (s : g_St) : Prop := (∀ id, id ≠ 48 → s.1 id = r.1 id) ∧ s.2 = r.2 ∧ ∀ j, (j < b ∨ b + 223 ≤ j) → s.1 48 j = r.1 48 j
theorem zk_S_s {r s : g_St} {b k : Nat} {v : Int32} (h : zk_S r b s) (h1 : b ≤ k) (h2 : k < b + 223) : zk_S r b (g_sI s 48 k v) :=
  ⟨fun id q => by rw [z_sI_f q]; exact h.1 id q, h.2.1, fun j q => by rw [z_sI_k (by omega)]; exact h.2.2 j q⟩
def zk_1 (r : g_St) (b i : Nat) (s : g_St) : Prop := s.1 48 b = r.1 0 39 ∧ ∀ t, t < i → s.1 48 (b + 1 + t) = r.1 29 t ∧ s.1 48 (b + 41 + t) = r.1 30 t ∧ s.1 48 (b + 81 + t) = r.1 31 t ∧ s.1 48 (b + 121 + t) = r.1 32 t ∧ s.1 48 (b + 161 + t) = r.1 33 t
def zk_2 (r : g_St) (b i : Nat) (s : g_St) : Prop := ∀ p, p < i → s.1 48 (b + 201 + p) = r.1 34 p ∧ s.1 48 (b + 209 + p) = r.1 35 p
def zk_3 (r : g_St) (b i : Nat) (s : g_St) : Prop := ∀ g, g < i → s.1 48 (b + 217 + g) = r.1 36 g
theorem zk_save {r : g_St} {F m : Nat} (hm : m < 4) (h36 : ∀ g, g < 6 → r.1 36 g = 0 ∨ r.1 36 g = 1) (hF : 50 < F) : z_w (mm_mark_29 F (nI m) 0 r) (fun y => y.1 = 1 ∧ zk_S (g_sI r 47 m 1) (250 * m) y.2 ∧ zk_1 r (250 * m) 40 y.2 ∧ zk_2 r (250 * m) 8 y.2 ∧ zk_3 r (250 * m) 6 y.2) := by
  have h47 : ∀ id, id ≠ 47 → (g_sI r 47 m 1).1 id = r.1 id := fun id q => z_sI_f q
  unfold mm_mark_29
  rw [z_wr (by omega) (by omega), z_sbind, show g_nz (1 : Int32) = 1 from rfl, show ((250 : Int32) * nI m) = nI (250 * m) from by rw [show (250 : Int32) = nI 250 from rfl, z_mul]]
  generalize hb : 250 * m = b
  have hb2 : b + 250 ≤ 1000 := by omega
  generalize hr1 : g_sI r 47 m 1 = r1 at h47 ⊢
  unfold mm_keeps
  rw [if_pos rfl, z_wr (by omega) (by omega), z_sbind, z_sbind, z_sbind, z_sI_no (μ := g_sI r1 48 b (r1.1 0 39)) (z_sI_id (by omega))]
  have hS0 : zk_S r1 b (g_sI r1 48 b (r1.1 0 39)) := zk_S_s ⟨fun _ _ => rfl, rfl, fun _ _ => rfl⟩ (by omega) (by omega)
  refine z_cw (n := 40) (A := fun f i s => mm_mark_59 F 0 (nI b) f (nI i) s) (fun i s => zk_S r1 b s ∧ zk_1 r b i s) ?_ ?_ F 0 _ (by omega) ⟨hS0, by rw [z_sI_same, h47 0 (by omega)], fun t ht => absurd ht (by omega)⟩ (by omega)
  · intro f i s hi ⟨hS, h1⟩ hk
    show z_w (mm_mark_59_b F 0 (nI b) _ (nI i) s) _
    unfold mm_mark_59_b
    rw [if_pos (show nI i < (40 : Int32) from nI_lt (b := 40) hi (by omega))]
    rw [zk_step0 (idx := b + 1 + i) (by rw [show (1 : Int32) = nI 1 from rfl, nI_add, nI_add]) (by omega) hi (by omega) (by omega)]
    rw [zk_step0 (idx := b + 41 + i) (by rw [show (41 : Int32) = nI 41 from rfl, nI_add, nI_add]) (by omega) hi (by omega) (by omega)]
    rw [zk_step0 (idx := b + 81 + i) (by rw [show (81 : Int32) = nI 81 from rfl, nI_add, nI_add]) (by omega) hi (by omega) (by omega)]
    rw [zk_step0 (idx := b + 121 + i) (by rw [show (121 : Int32) = nI 121 from rfl, nI_add, nI_add]) (by omega) hi (by omega) (by omega)]
    rw [zk_step0 (idx := b + 161 + i) (by rw [show (161 : Int32) = nI 161 from rfl, nI_add, nI_add]) (by omega) hi (by omega) (by omega)]
    rw [nI_1]
    simp (disch := omega) only [z_sI_id]
    have e29 : s.1 29 = r.1 29 := by rw [hS.1 29 (by omega), h47 29 (by omega)]
    have e30 : s.1 30 = r.1 30 := by rw [hS.1 30 (by omega), h47 30 (by omega)]
    have e31 : s.1 31 = r.1 31 := by rw [hS.1 31 (by omega), h47 31 (by omega)]
    have e32 : s.1 32 = r.1 32 := by rw [hS.1 32 (by omega), h47 32 (by omega)]
    have e33 : s.1 33 = r.1 33 := by rw [hS.1 33 (by omega), h47 33 (by omega)]
    rw [e29, e30, e31, e32, e33]
    refine hk _ ⟨zk_S_s (zk_S_s (zk_S_s (zk_S_s (zk_S_s hS (by omega) (by omega)) (by omega) (by omega)) (by omega) (by omega)) (by omega) (by omega)) (by omega) (by omega), ?_, fun t ht => ?_⟩
    · simp (disch := omega) only [z_sI_k]; exact h1.1
    · by_cases e : t = i
      · subst e
        simp (disch := omega) only [z_sI_k, z_sI_same]
        exact ⟨trivial, trivial, trivial, trivial, trivial⟩
      · have := h1.2 t (by omega)
        simp (disch := omega) only [z_sI_k]
        exact this
  · intro f s ⟨hS, h1⟩
    show z_w (mm_mark_59_b F 0 (nI b) _ (nI 40) s) _
    unfold mm_mark_59_b
    rw [if_neg (by decide)]
    refine z_cw (n := 8) (A := fun f i s => mm_mark_205 F 0 (nI b) f (nI i) s) (fun i s => zk_S r1 b s ∧ zk_1 r b 40 s ∧ zk_2 r b i s) ?_ ?_ F 0 s (by omega) ⟨hS, h1, fun p hp => absurd hp (by omega)⟩ (by omega)
    · intro f i s hi ⟨hS, h1, h2⟩ hk
      show z_w (mm_mark_205_b F 0 (nI b) _ (nI i) s) _
      unfold mm_mark_205_b
      rw [if_pos (show nI i < (8 : Int32) from nI_lt (b := 8) hi (by omega))]
      rw [zk_step0 (idx := b + 201 + i) (by rw [show (201 : Int32) = nI 201 from rfl, nI_add, nI_add]) (by omega) hi (by omega) (by omega)]
      rw [zk_step0 (idx := b + 209 + i) (by rw [show (209 : Int32) = nI 209 from rfl, nI_add, nI_add]) (by omega) hi (by omega) (by omega)]
      rw [nI_1]
      simp (disch := omega) only [z_sI_id]
      have e34 : s.1 34 = r.1 34 := by rw [hS.1 34 (by omega), h47 34 (by omega)]
      have e35 : s.1 35 = r.1 35 := by rw [hS.1 35 (by omega), h47 35 (by omega)]
      rw [e34, e35]
      refine hk _ ⟨zk_S_s (zk_S_s hS (by omega) (by omega)) (by omega) (by omega), ⟨?_, fun t ht => ?_⟩, fun p hp => ?_⟩
      · simp (disch := omega) only [z_sI_k]; exact h1.1
      · have := h1.2 t ht
        simp (disch := omega) only [z_sI_k]
        exact this
      · by_cases e : p = i
        · subst e
          simp (disch := omega) only [z_sI_k, z_sI_same]
          exact ⟨trivial, trivial⟩
        · have := h2 p (by omega)
          simp (disch := omega) only [z_sI_k]
          exact this
    · intro f s ⟨hS, h1, h2⟩
      show z_w (mm_mark_205_b F 0 (nI b) _ (nI 8) s) _
      unfold mm_mark_205_b
      rw [if_neg (by decide)]
      refine z_cw (n := 6) (A := fun f i s => mm_mark_275 F 0 (nI b) f (nI i) s) (fun i s => zk_S r1 b s ∧ zk_1 r b 40 s ∧ zk_2 r b 8 s ∧ zk_3 r b i s) ?_ ?_ F 0 s (by omega) ⟨hS, h1, h2, fun p hp => absurd hp (by omega)⟩ (by omega)
      · intro f i s hi ⟨hS, h1, h2, h3⟩ hk
        show z_w (mm_mark_275_b F 0 (nI b) _ (nI i) s) _
        unfold mm_mark_275_b mm_mark_312
        have e36 : s.1 36 = r.1 36 := by rw [hS.1 36 (by omega), h47 36 (by omega)]
        have eb : (nI b + (217 : Int32)) + nI i = nI (b + 217 + i) := by rw [show (217 : Int32) = nI 217 from rfl, nI_add, nI_add]
        rw [if_pos (show nI i < (6 : Int32) from nI_lt (b := 6) hi (by omega)), z_rd hi (by omega), z_sbind, eb, e36]
        have fin : zk_S r1 b (g_sI s 48 (b + 217 + i) (r.1 36 i)) ∧ zk_1 r b 40 (g_sI s 48 (b + 217 + i) (r.1 36 i)) ∧ zk_2 r b 8 (g_sI s 48 (b + 217 + i) (r.1 36 i)) ∧ zk_3 r b (i + 1) (g_sI s 48 (b + 217 + i) (r.1 36 i)) := by
          refine ⟨zk_S_s hS (by omega) (by omega), ⟨?_, fun t ht => ?_⟩, fun p hp => ?_, fun g hg => ?_⟩
          · simp (disch := omega) only [z_sI_k]; exact h1.1
          · have := h1.2 t ht
            simp (disch := omega) only [z_sI_k]
            exact this
          · have := h2 p hp
            simp (disch := omega) only [z_sI_k]
            exact this
          · by_cases e : g = i
            · subst e; exact z_sI_same _ _ _ _
            · rw [z_sI_k (by omega)]; exact h3 g (by omega)
        rcases h36 i hi with e | e
        · rw [e] at fin
          rw [e, if_pos rfl, zk_keep0 (by omega), z_sbind, if_neg (show ¬ (0 : Int32) = 1 by decide), z_wr hi (by omega), z_sbind, show g_nz (0 : Int32) = 0 from rfl, z_sI_no (μ := g_sI s 48 (b + 217 + i) 0) (by rw [z_sI_id (by omega), e36, e]), nI_1]
          exact hk _ fin
        · rw [e] at fin
          rw [e, if_neg (by decide), zk_keep0 (by omega), z_sbind, if_pos (show (1 : Int32) = 1 from rfl), z_wr hi (by omega), z_sbind, show g_nz (1 : Int32) = 1 from rfl, z_sI_no (μ := g_sI s 48 (b + 217 + i) 1) (by rw [z_sI_id (by omega), e36, e]), nI_1]
          exact hk _ fin
      · intro f s ⟨hS, h1, h2, h3⟩
        show z_w (mm_mark_275_b F 0 (nI b) _ (nI 6) s) _
        unfold mm_mark_275_b
        rw [if_neg (by decide)]
        exact z_w_some ⟨rfl, hS, h1, h2, h3⟩
