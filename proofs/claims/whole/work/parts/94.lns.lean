/-! Layer 2: a LAND's lines: names, numbers, writes; place and way -/
theorem zn_p0 : nI 0 = (0 : Int32) := rfl
theorem zn_p1 : ¬ nI 1 = (0 : Int32) := by decide
theorem zp_neg0 {x : Nat} (h : x ≠ 0) (hx : x < 100) : ¬ zE x < (0 : Int32) := by
  show ¬ zE x < nI 0
  rw [zE_lt0 (by omega)]; exact h
theorem zp_new {Y : zp_S} {j F a na idx : Nat} {P : zp_T} {c r : g_St} (h : zp_V Y j c r) (hL : zp_L Y.1.2.2 P c r) (hi : idx < na) (hna : na < 10000) (hF : 1100 < F) :
    (∃ c2 r2, od_takeNewName F Y.1.2.2 a na (nI idx) c = some (nI 0, c2) ∧ mm_needsNew F r = some (nI 0, r2) ∧ zp_E Y c2 r2) ∨
    (∃ u, zn_dg u ∧ u.length ≤ 8 ∧ r.2.1 0 7 = iL (ze 27 u : Nat) ∧ mm_needsNew F r = some (nI 1, r) ∧ od_takeNewName F Y.1.2.2 a na (nI idx) c = (ot_advance (g_sL c a idx (iL (ze 32 u : Nat)))).bind fun μ6 => some (nI 1, μ6)) := by
  have k := zp_V_kd h
  have k4 := zn_kd_lt k
  have h8 : c.1 1 8 = nI (zn_k (zp_t Y j)) := h.1.2.2.2.2.2.2.1
  have h9 : c.2.1 1 9 = zn_x (zp_t Y j) := h.1.2.2.2.2.2.2.2
  have ha : zn_at (zp_t Y j) r := h.2.1.2.2.2
  unfold od_takeNewName mm_needsNew
  rw [zn_isName h8 k4, zn_isKept ha k, z_sbind, z_sbind]
  have w1 := zp_wr h 1
  have w3 := zp_wr h 3
  by_cases q : zn_nm (zn_k (zp_t Y j))
  · obtain ⟨u1, u2, u3⟩ := zn_nm_w k q
    have h7 : r.2.1 0 7 = iL (ze 27 (zn_w (zp_t Y j)) : Nat) := ha.2.2.2.1 (by unfold zn_nm at q; unfold zn_isw; omega)
    have hL0 := hL
    obtain ⟨⟨⟨c1, c2, c3⟩, -, b1, b2, b3⟩, ⟨n1, n2, n3⟩, -⟩ := hL
    have l1 := zn_fi_le (p := fun i => decide (P.2.1 i = zn_w (zp_t Y j))) (zl_pl P.1)
    have l2 := zn_fi_le (p := fun i => decide (P.2.2.1 i = zn_w (zp_t Y j))) (zl_gd P.1)
    have l3 := zn_fi_le (p := fun i => decide (P.2.2.2 i = zn_w (zp_t Y j))) (zl_pp P.1)
    have told : ol_isTold F Y.1.2.2 c (iL (ze 32 (zn_w (zp_t Y j)) : Nat)) = some (if zp_fi P.2.1 (zn_w (zp_t Y j)) (zl_pl P.1) = 0 ∧ zp_fi P.2.2.1 (zn_w (zp_t Y j)) (zl_gd P.1) = 0 ∧ zp_fi P.2.2.2 (zn_w (zp_t Y j)) (zl_pp P.1) = 0 then nI 0 else nI 1) := by
      unfold ol_isTold
      rw [c1, c2, c3, zp_idx n1 u1 u2 (by omega) (by omega) (by omega), zp_idx n2 u1 u2 (by omega) (by omega) (by omega), zp_idx n3 u1 u2 (by omega) (by omega) (by omega), z_sbind, z_sbind, z_sbind, show (-1 : Int32) = -nI 1 from rfl]
      unfold zp_fi at *
      simp only [zE_m1 (show zn_fi (fun i => decide (P.2.1 i = zn_w (zp_t Y j))) (zl_pl P.1) < 2147483648 by omega), zE_m1 (show zn_fi (fun i => decide (P.2.2.1 i = zn_w (zp_t Y j))) (zl_gd P.1) < 2147483648 by omega), zE_m1 (show zn_fi (fun i => decide (P.2.2.2 i = zn_w (zp_t Y j))) (zl_pp P.1) < 2147483648 by omega)]
      by_cases e1 : zn_fi (fun i => decide (P.2.1 i = zn_w (zp_t Y j))) (zl_pl P.1) = 0
      · by_cases e2 : zn_fi (fun i => decide (P.2.2.1 i = zn_w (zp_t Y j))) (zl_gd P.1) = 0
        · by_cases e3 : zn_fi (fun i => decide (P.2.2.2 i = zn_w (zp_t Y j))) (zl_pp P.1) = 0
          · rw [if_pos e1, if_pos e2, if_pos e3, if_pos ⟨e1, e2, e3⟩]; rfl
          · rw [if_pos e1, if_pos e2, if_neg e3, if_neg (fun q => e3 q.2.2)]; rfl
        · rw [if_pos e1, if_neg e2, if_neg (fun q => e2 q.2.1)]; rfl
      · rw [if_neg e1, if_neg (fun q => e1 q.1)]; rfl
    have isn := zp_isNew (F := F) (c := c) (r := r) (bl := Y.1.2.2) (P := P) hL0 u1 u2 h7 (by omega)
    rw [if_pos q, if_pos q, if_neg zn_p1, if_pos zn_p0, h9, u3, told, isn, z_sbind, z_sbind]
    by_cases e : zp_fi P.2.1 (zn_w (zp_t Y j)) (zl_pl P.1) = 0 ∧ zp_fi P.2.2.1 (zn_w (zp_t Y j)) (zl_gd P.1) = 0 ∧ zp_fi P.2.2.2 (zn_w (zp_t Y j)) (zl_pp P.1) = 0
    · right
      rw [if_pos e, if_pos e, if_pos zn_p0, if_neg zn_p1, if_neg (show ¬ Int32.ofNat na ≤ nI idx by show ¬ nI na ≤ nI idx; rw [z_le (by omega) (by omega)]; omega), z_wl hi (by omega), z_sbind]
      exact ⟨_, u1, u2, h7, rfl, rfl⟩
    · left
      rw [if_neg e, if_neg e, if_neg zn_p1, if_pos zn_p0]
      unfold od_takeNewName_30
      rw [show ot_wrong (3 : Int32) c = _ from w3.1, show mm_fails (3 : Int32) r = _ from w3.2, z_sbind, z_sbind, if_pos zn_p0]
      refine ⟨_, _, ?_, rfl, zp_bad (f := 3) h (by omega)⟩
      show some (nI 0 &&& (1 : Int32), _) = _
      rw [zn_a0]
  · left
    rw [if_neg q, if_neg q, if_pos zn_p0, if_neg zn_p1, show ot_wrong (1 : Int32) c = _ from w1.1, show mm_fails (1 : Int32) r = _ from w1.2, z_sbind, z_sbind]
    refine ⟨_, _, ?_, ?_, zp_bad (f := 1) h (by omega)⟩
    · show some (nI 0 &&& (1 : Int32), _) = _
      rw [zn_a0]
    · show some (nI 0 &&& (1 : Int32), _) = _
      rw [zn_a0]
/-- a NAME told: what both say of it -/
def zp_told (Y : zp_S) (c r : g_St) (x : Option (Int32 × g_St)) (y : Option (Int32 × g_St)) (z : Option Int32) (cnt tk : Nat) : Prop :=
  (∃ c2 r2, x = some (-1, c2) ∧ y = some (nI 0, r2) ∧ zp_E Y c2 r2) ∨
  (∃ i, i < cnt ∧ z_bit tk i = 1 ∧ x = (ot_wrong (nI 3) c).bind (fun q => some (-1, q.2)) ∧ y = some (nI 1, r) ∧ z = some (nI i)) ∨
  (∃ i, i < cnt ∧ z_bit tk i = 0 ∧ x = (ot_advance c).bind (fun μ => some (nI i, μ)) ∧ y = some (nI 1, r) ∧ z = some (nI i))
theorem zp_told_C {Y : zp_S} {j F a b o na cnt tk : Nat} {N : Nat → List Nat} {c r : g_St} (h : zp_V Y j c r) (hN : zp_N a b o cnt N c r) (hc : cnt ≤ na) (hn : na < 20) (htk : tk < 256) (hF : 1100 < F) {y : Option (Int32 × g_St)} {z : Option Int32}
    (hy1 : ¬ zn_nm (zn_k (zp_t Y j)) → y = mm_fails (nI 1) r) (hy2 : zn_nm (zn_k (zp_t Y j)) → zp_fi N (zn_w (zp_t Y j)) cnt = 0 → y = mm_fails (nI 2) r) (hy3 : zn_nm (zn_k (zp_t Y j)) → zp_fi N (zn_w (zp_t Y j)) cnt ≠ 0 → y = some (nI 1, r) ∧ z = some (zE (zp_fi N (zn_w (zp_t Y j)) cnt))) :
    zp_told Y c r (od_takeTold F a na (nI cnt) (nI tk) c) y z cnt tk := by
  have k := zp_V_kd h
  have k4 := zn_kd_lt k
  have h8 : c.1 1 8 = nI (zn_k (zp_t Y j)) := h.1.2.2.2.2.2.2.1
  have h9 : c.2.1 1 9 = zn_x (zp_t Y j) := h.1.2.2.2.2.2.2.2
  have w1 := zp_wr h 1
  have w2 := zp_wr h 2
  unfold od_takeTold
  rw [zn_isName h8 k4, z_sbind]
  by_cases q : zn_nm (zn_k (zp_t Y j))
  · obtain ⟨u1, u2, u3⟩ := zn_nm_w k q
    have l1 := zn_fi_le (p := fun i => decide (N i = zn_w (zp_t Y j))) cnt
    rw [if_pos q, if_neg zn_p1, h9, u3, zp_idx hN u1 u2 hc (by omega) (by omega), z_sbind]
    unfold od_takeTold_20 od_takeTold_41
    by_cases e : zp_fi N (zn_w (zp_t Y j)) cnt = 0
    · left
      rw [e, if_pos (show zE 0 = (-1 : Int32) from rfl), zn_isName h8 k4, z_sbind, if_pos q, if_neg zn_p1, show ot_wrong (2 : Int32) c = _ from w2.1, z_sbind, hy2 q e, w2.2]
      exact ⟨_, _, rfl, rfl, zp_bad (f := 2) h (by omega)⟩
    · right
      obtain ⟨i, hi⟩ : ∃ i, zp_fi N (zn_w (zp_t Y j)) cnt = i + 1 := ⟨_, (Nat.succ_pred_eq_of_ne_zero e).symm⟩
      have hic := (zn_fi_s hi).1
      have y3 := hy3 q e
      rw [hi, zE_s] at y3
      rw [hi, zE_s, if_neg (show ¬ nI i = (-1 : Int32) by rw [show (-1 : Int32) = -nI 1 from rfl, z_eqm1 (by omega)]; exact id)]
      have eb : ((nI tk >>> (nI i &&& 31)) &&& (1 : Int32)) = nI (z_bit tk i) := by
        simp (disch := omega) only [↓reduceIte, nI_lit, z_sbind, z_rd, z_rl, z_rr, z_wr, z_wl, nI_add, z_mul, z_lt, z_le, z_eq, z_ltm1, z_m1lt, z_eqm1, z_m1eq, z_lem1, z_m1le, if_true, if_false, ite_true, ite_false, z_and, z_or, z_xor, z_n31, z_shr, z_shl1, z_bit_and, z_andn]
      rw [eb]
      have bl := z_bit_lt tk i
      by_cases eb2 : z_bit tk i = 1
      · left
        rw [if_pos (by rw [eb2]; rfl)]
        exact ⟨i, hic, eb2, rfl, y3⟩
      · right
        rw [if_neg (show ¬ nI (z_bit tk i) = (1 : Int32) by show ¬ nI (z_bit tk i) = nI 1; rw [z_eq (by omega) (by omega)]; exact eb2)]
        exact ⟨i, hic, by omega, rfl, y3⟩
  · left
    rw [if_neg q, if_pos zn_p0]
    unfold od_takeTold_20 od_takeTold_41
    rw [if_pos (show (-1 : Int32) = -1 from rfl), zn_isName h8 k4, z_sbind, if_neg q, if_pos zn_p0, show ot_wrong (1 : Int32) c = _ from w1.1, z_sbind, hy1 q, w1.2]
    exact ⟨_, _, rfl, rfl, zp_bad (f := 1) h (by omega)⟩
theorem zp_tPlace {Y : zp_S} {j F tk : Nat} {P : zp_T} {c r : g_St} (h : zp_V Y j c r) (hL : zp_L Y.1.2.2 P c r) (htk : tk < 256) (hF : 1100 < F) : zp_told Y c r (od_takeTold F (Y.1.2.2 + 1) 5 (nI (zl_pl P.1)) (nI tk) c) (mm_needsPlace F r) (mm_placeOf F r) (zl_pl P.1) tk := by
  have k := zp_V_kd h
  have ha : zn_at (zp_t Y j) r := h.2.1.2.2.2
  have l1 := zn_fi_le (p := fun i => decide (P.2.1 i = zn_w (zp_t Y j))) (zl_pl P.1)
  have b1 := hL.1.2.2.1
  refine zp_told_C h hL.2.1.1 b1 (by omega) htk hF (fun q => ?_) (fun q e => ?_) (fun q e => ?_)
  · unfold mm_needsPlace
    rw [zn_isKept ha k, z_sbind, if_neg q, if_neg zn_p1, show mm_fails (1 : Int32) r = _ from (zp_wr h 1).2, z_sbind, (zp_wr h 1).2]
    show some (nI 0 &&& (1 : Int32), _) = _
    rw [zn_a0]
  · obtain ⟨u1, u2, u3⟩ := zn_nm_w k q
    have h7 : r.2.1 0 7 = iL (ze 27 (zn_w (zp_t Y j)) : Nat) := ha.2.2.2.1 (by unfold zn_nm at q; unfold zn_isw; omega)
    unfold mm_needsPlace
    rw [zn_isKept ha k, z_sbind, if_pos q, if_pos zn_p0, zp_placeOf hL u1 u2 h7 (by omega), z_sbind, e, if_pos (show zE 0 < (0 : Int32) by decide), show mm_fails (2 : Int32) r = _ from (zp_wr h 2).2, z_sbind, if_pos zn_p0, (zp_wr h 2).2]; rfl
  · obtain ⟨u1, u2, u3⟩ := zn_nm_w k q
    have h7 : r.2.1 0 7 = iL (ze 27 (zn_w (zp_t Y j)) : Nat) := ha.2.2.2.1 (by unfold zn_nm at q; unfold zn_isw; omega)
    unfold mm_needsPlace
    have e' := e
    unfold zp_fi at e'
    rw [zn_isKept ha k, z_sbind, if_pos q, if_pos zn_p0, zp_placeOf hL u1 u2 h7 (by omega), z_sbind, if_neg (zp_neg0 e (by unfold zp_fi; omega))]
    exact ⟨rfl, rfl⟩
theorem zp_tGood {Y : zp_S} {j F tk : Nat} {P : zp_T} {c r : g_St} (h : zp_V Y j c r) (hL : zp_L Y.1.2.2 P c r) (htk : tk < 256) (hF : 1100 < F) : zp_told Y c r (od_takeTold F (Y.1.2.2 + 2) 6 (nI (zl_gd P.1)) (nI tk) c) (mm_needsGood F r) (mm_goodOf F r) (zl_gd P.1) tk := by
  have k := zp_V_kd h
  have ha : zn_at (zp_t Y j) r := h.2.1.2.2.2
  have l1 := zn_fi_le (p := fun i => decide (P.2.2.1 i = zn_w (zp_t Y j))) (zl_gd P.1)
  have b1 := hL.1.2.2.2.1
  refine zp_told_C h hL.2.1.2.1 b1 (by omega) htk hF (fun q => ?_) (fun q e => ?_) (fun q e => ?_)
  · unfold mm_needsGood
    rw [zn_isKept ha k, z_sbind, if_neg q, if_neg zn_p1, show mm_fails (1 : Int32) r = _ from (zp_wr h 1).2, z_sbind, (zp_wr h 1).2]
    show some (nI 0 &&& (1 : Int32), _) = _
    rw [zn_a0]
  · obtain ⟨u1, u2, u3⟩ := zn_nm_w k q
    have h7 : r.2.1 0 7 = iL (ze 27 (zn_w (zp_t Y j)) : Nat) := ha.2.2.2.1 (by unfold zn_nm at q; unfold zn_isw; omega)
    unfold mm_needsGood
    rw [zn_isKept ha k, z_sbind, if_pos q, if_pos zn_p0, zp_goodOf hL u1 u2 h7 (by omega), z_sbind, e, if_pos (show zE 0 < (0 : Int32) by decide), show mm_fails (2 : Int32) r = _ from (zp_wr h 2).2, z_sbind, if_pos zn_p0, (zp_wr h 2).2]; rfl
  · obtain ⟨u1, u2, u3⟩ := zn_nm_w k q
    have h7 : r.2.1 0 7 = iL (ze 27 (zn_w (zp_t Y j)) : Nat) := ha.2.2.2.1 (by unfold zn_nm at q; unfold zn_isw; omega)
    unfold mm_needsGood
    have e' := e
    unfold zp_fi at e'
    rw [zn_isKept ha k, z_sbind, if_pos q, if_pos zn_p0, zp_goodOf hL u1 u2 h7 (by omega), z_sbind, if_neg (zp_neg0 e (by unfold zp_fi; omega))]
    exact ⟨rfl, rfl⟩
/-- a NUMBER -/
theorem zp_num {Y : zp_S} {j lo hi : Nat} {c r : g_St} (h : zp_V Y j c r) (hlo : lo < 10000) (hhi : hi < 10000) :
    (∃ c2 r2, ot_takeNumber (nI lo) (nI hi) c = some (-1, c2) ∧ mm_needsNumber (nI lo) (nI hi) r = some (nI 0, r2) ∧ zp_E Y c2 r2) ∨
    (∃ v, lo ≤ v ∧ v ≤ hi ∧ r.1 0 8 = nI v ∧ mm_needsNumber (nI lo) (nI hi) r = some (nI 1, r) ∧ ot_takeNumber (nI lo) (nI hi) c = (ot_advance c).bind fun μ => some (nI v, μ)) := by
  have k := zp_V_kd h
  have ha : zn_at (zp_t Y j) r := h.2.1.2.2.2
  have t1 := zn_takeNumber h.1 hlo hhi
  have t2 := zn_needsNumber ha k hlo hhi
  by_cases q : zn_k (zp_t Y j) = 201 ∧ lo ≤ zn_n (zp_t Y j) ∧ zn_n (zp_t Y j) ≤ hi
  · right; exact ⟨_, q.2.1, q.2.2, (t2.1 q).2, (t2.1 q).1, t1.1 q⟩
  · left
    refine ⟨_, _, t1.2 q, t2.2 q, zp_bad h (f := if zn_k (zp_t Y j) = 201 then 4 else 1) ?_⟩
    split <;> omega
/-- writes -/
theorem z_sI_cg {c c2 : g_St} {id k a : Nat} {v : Int32} (h1 : c2.1 id = c.1 id) (h2 : c2.1 a = c.1 a) : (g_sI c2 id k v).1 a = (g_sI c id k v).1 a := by
  unfold g_sI
  show (if a = id then upd (c2.1 id) k v else c2.1 a) = (if a = id then upd (c.1 id) k v else c.1 a)
  by_cases e : a = id
  · rw [if_pos e, if_pos e, h1]
  · rw [if_neg e, if_neg e, h2]
def zp_KC (bl : Nat) (c c2 : g_St) : Prop := (∀ id, (id < bl ∨ bl + 23 ≤ id) → c2.1 id = c.1 id ∧ c2.2.1 id = c.2.1 id) ∧ c2.2.2 = c.2.2
def zp_KR (r r2 : g_St) : Prop := zp_FR r r2 ∧ r2.1 0 = r.1 0 ∧ r2.2.1 0 = r.2.1 0
theorem zp_KC_I {bl id k : Nat} {v : Int32} {c : g_St} (h : bl ≤ id ∧ id < bl + 23) : zp_KC bl c (g_sI c id k v) := ⟨fun a q => ⟨z_sI_f (by omega), rfl⟩, rfl⟩
theorem zp_KC_L {bl id k : Nat} {v : Int64} {c : g_St} (h : bl ≤ id ∧ id < bl + 23) : zp_KC bl c (g_sL c id k v) := ⟨fun a q => ⟨rfl, zn_sL_f (by omega)⟩, rfl⟩
theorem zp_KC_refl {bl : Nat} {c : g_St} : zp_KC bl c c := ⟨fun _ _ => ⟨rfl, rfl⟩, rfl⟩
theorem zp_KC_t {bl : Nat} {a b c : g_St} (h : zp_KC bl a b) (h2 : zp_KC bl b c) : zp_KC bl a c := ⟨fun id q => ⟨by rw [(h2.1 id q).1, (h.1 id q).1], by rw [(h2.1 id q).2, (h.1 id q).2]⟩, by rw [h2.2, h.2]⟩
theorem zp_FR_refl {r : g_St} : zp_FR r r := ⟨fun _ _ => rfl, ⟨rfl, rfl, rfl⟩, fun _ _ => rfl, fun _ _ => ⟨rfl, rfl⟩, fun _ _ => ⟨rfl, rfl⟩, fun _ _ => rfl, fun _ _ => rfl⟩
theorem zp_FR_t {a b c : g_St} (h : zp_FR a b) (h2 : zp_FR b c) : zp_FR a c :=
  ⟨fun id q => by rw [h2.1 id q, h.1 id q], ⟨by rw [h2.2.1.1, h.2.1.1], by rw [h2.2.1.2.1, h.2.1.2.1], by rw [h2.2.1.2.2, h.2.1.2.2]⟩, fun k q => by rw [h2.2.2.1 k q, h.2.2.1 k q], fun k q => ⟨by rw [(h2.2.2.2.1 k q).1, (h.2.2.2.1 k q).1], by rw [(h2.2.2.2.1 k q).2, (h.2.2.2.1 k q).2]⟩, fun k q => ⟨by rw [(h2.2.2.2.2.1 k q).1, (h.2.2.2.2.1 k q).1], by rw [(h2.2.2.2.2.1 k q).2, (h.2.2.2.2.1 k q).2]⟩, fun k q => by rw [h2.2.2.2.2.2.1 k q, h.2.2.2.2.2.1 k q], fun k q => by rw [h2.2.2.2.2.2.2 k q, h.2.2.2.2.2.2 k q]⟩
theorem zp_KR_refl {r : g_St} : zp_KR r r := ⟨zp_FR_refl, rfl, rfl⟩
theorem zp_KR_t {a b c : g_St} (h : zp_KR a b) (h2 : zp_KR b c) : zp_KR a c := ⟨zp_FR_t h.1 h2.1, by rw [h2.2.1, h.2.1], by rw [h2.2.2, h.2.2]⟩
theorem zp_KR_I {r : g_St} {id k : Nat} {v : Int32} (h : ((id = 2 ∨ id = 3 ∨ id = 4) ∧ k ≠ 0) ∨ (id = 8 ∧ 25 ≤ k) ∨ ((id = 9 ∨ id = 10) ∧ 6 ≤ k) ∨ ((id = 11 ∨ id = 12) ∧ 8 ≤ k) ∨ (id = 13 ∧ 144 ≤ k)) : zp_KR r (g_sI r id k v) := by
  refine ⟨⟨fun a q => z_sI_f (by omega), ⟨?_, ?_, ?_⟩, fun a q => ?_, fun a q => ⟨?_, ?_⟩, fun a q => ⟨?_, ?_⟩, fun a q => ?_, fun a q => ?_⟩, z_sI_f (by omega), rfl⟩
  all_goals (rw [z_sI, if_neg (by omega)])
theorem zp_KR_L {r : g_St} {id k : Nat} {v : Int64} (h : id ≠ 0) : zp_KR r (g_sL r id k v) := ⟨⟨fun _ _ => rfl, ⟨rfl, rfl, rfl⟩, fun _ _ => rfl, fun _ _ => ⟨rfl, rfl⟩, fun _ _ => ⟨rfl, rfl⟩, fun _ _ => rfl, fun _ _ => rfl⟩, rfl, zn_sL_f (by omega)⟩
theorem zp_V_w {Y : zp_S} {j : Nat} {c r c2 r2 : g_St} (h : zp_V Y j c r) (hc : zp_KC Y.1.2.2 c c2) (hr : zp_KR r r2) (hk : ∃ k, k ≤ 5 ∧ c2.1 Y.1.2.2 0 = nI k) : zp_V Y j c2 r2 := by
  obtain ⟨h1, h2, h3, ⟨k, k1, k2, k10⟩, h5, h6⟩ := h
  obtain ⟨j, j1, j2⟩ := hk
  have hb := zp_b7 h3
  refine ⟨zn_C_w h1 (fun id q1 q2 => (hc.1 id (by omega)).1) (fun id q1 q2 => (hc.1 id (by omega)).2), zn_R_w h2 (hr.1.1 1 (by omega)) (fun k q1 q2 => by rw [hr.2.1]) (by rw [hr.2.2]), h3, ⟨j, j1, j2, by rw [(hc.1 1 (by omega)).1]; exact k10⟩, ?_, zp_FR_t h6 hr.1⟩
  refine ⟨fun id q1 q2 => by rw [(hc.1 id q2).1]; exact h5.1 id q1 q2, fun id q1 q2 => by rw [(hc.1 id q2).2]; exact h5.2.1 id q1 q2, by rw [hc.2]; exact h5.2.2.1, by rw [(hc.1 1 (by omega)).1]; exact h5.2.2.2.1, by rw [(hc.1 2 (by omega)).2]; exact h5.2.2.2.2⟩
theorem zp_n_lt {Y : zp_S} {j : Nat} {c r : g_St} (h : zp_V Y j c r) (hk : zn_k (zp_t Y j) ≠ 202) : zp_n Y j = j + 1 := by
  have hj := h.1.2.2.1
  have he := h.1.2.1.2.2.2.1
  unfold zp_n zn_nx
  by_cases e : j < Y.2.2.2.2
  · rw [if_pos e]
  · exfalso
    have : j = Y.2.2.2.2 := by omega
    unfold zp_t at hk
    rw [this, he] at hk
    exact hk rfl
theorem zp_n_ge {Y : zp_S} {j : Nat} : j ≤ zp_n Y j := by unfold zp_n zn_nx; split <;> omega
/-- what a line leaves -/
def zp_Q (Y : zp_S) (j : Nat) (c r : g_St) : Prop := ∃ P2 j2, j < j2 ∧ zp_V Y j2 c r ∧ zp_L Y.1.2.2 P2 c r ∧ zp_z0 P2
def zp_cntq {Y : zp_S} {P : zp_T} {c r : g_St} (hL : zp_L Y.1.2.2 P c r) : ∃ k, k ≤ 5 ∧ c.1 Y.1.2.2 0 = nI k := ⟨_, hL.1.2.2.1, hL.1.1.1⟩
/-- place -/
theorem zp_rPlace {Y : zp_S} {j F : Nat} {P : zp_T} {c r : g_St} (h : zp_V Y j c r) (hL : zp_L Y.1.2.2 P c r) (hz0 : zp_z0 P) (hk : zn_k (zp_t Y j) = 0) (hF : 1100 < F) : zp_q Y (od_readLine F Y.1.2.2 c) (mm_readsPlace F r) (zp_Q Y j) := by
  have hb := zp_b7 h.2.2.1
  have h8 : c.1 1 8 = nI (zn_k (zp_t Y j)) := h.1.2.2.2.2.2.2.1
  have nj := zp_n_lt h (by omega)
  obtain ⟨⟨e1, e2, e3⟩, ⟨e4, e5, e6⟩, b1, b2, b3⟩ := hL.1
  unfold od_readLine mm_readsPlace
  rw [h8, hk, if_pos zn_p0, e1, show (1 : Int32) = nI 1 from rfl, z_rd (by omega) (by omega), z_sbind, e4]
  by_cases q5 : zl_pl P.1 = 5
  · rw [if_neg (show ¬ nI _ < (5 : Int32) by show ¬ nI _ < nI 5; rw [z_lt (by omega) (by omega)]; omega), if_pos (show nI _ = (5 : Int32) by show nI _ = nI 5; rw [z_eq (by omega) (by omega)]; exact q5)]
    exact zp_q_and2 (zp_q_and (zp_q_bad (f := 5) h (by omega)))
  · rw [if_pos (show nI _ < (5 : Int32) by show nI _ < nI 5; rw [z_lt (by omega) (by omega)]; omega), if_neg (show ¬ nI _ = (5 : Int32) by show ¬ nI _ = nI 5; rw [z_eq (by omega) (by omega)]; exact q5)]
    obtain ⟨c1, r1, a1, a2, a3, a4, a5⟩ := zp_adv h hF
    have hL1 := zp_L_k2 hL (by omega) a4 a5
    refine zp_q_and ?_
    unfold od_readPlace
    rw [a1, z_sbind, a2, z_sbind, hL1.1.1.1]
    rcases zp_new (F := F) (a := Y.1.2.2 + 1) (na := 5) (idx := zl_pl P.1) a3 hL1 (by omega) (by omega) hF with ⟨c2, r2, n1, n2, n3⟩ | ⟨u, u1, u2, u3, u4, u5⟩
    · rw [n1, z_sbind, if_pos zn_p0, n2, z_sbind, if_pos zn_p0]
      exact ⟨_, c2, r2, rfl, rfl, Or.inr ⟨rfl, n3⟩⟩
    · rw [u4, u5, z_sbind, if_neg zn_p1, z_rd (by omega) (by omega), z_sbind]
      have e41 : r1.1 2 1 = nI (zl_pl P.1) := hL1.1.2.1.1
      dsimp only
      rw [e41, show (5 : Int32) = nI 5 from rfl, nI_add, z_wl (by omega) (by omega), z_sbind, z_rd (by omega) (by omega), z_sbind, show (g_sL r1 5 (5 + zl_pl P.1) (r1.2.1 0 7)).1 2 1 = nI (zl_pl P.1) from e41, nI_add, z_wr (by omega) (by omega), z_sbind]
      have kc : zp_KC Y.1.2.2 c1 (g_sL c1 (Y.1.2.2 + 1) (zl_pl P.1) (iL (ze 32 u : Nat))) := zp_KC_L (by omega)
      have kr : zp_KR r1 (g_sI (g_sL r1 5 (5 + zl_pl P.1) (r1.2.1 0 7)) 2 1 (nI (zl_pl P.1 + 1))) := zp_KR_t (zp_KR_L (by omega)) (zp_KR_I (by omega))
      have hV2 := zp_V_w a3 kc kr ⟨_, b1, hL1.1.1.1⟩
      obtain ⟨c3, r3, d1, d2, d3, d4, d5⟩ := zp_adv hV2 hF
      rw [d1, d2, z_sbind, z_sbind, z_sbind, z_sbind, if_neg zn_p1]
      have e13 : c3.1 Y.1.2.2 0 = nI (zl_pl P.1) := by rw [d4.1 _ (by omega) (by omega) (by omega)]; exact hL1.1.1.1
      dsimp only
      rw [e13, nI_1]
      -- the new land
      have hL3 : zp_L Y.1.2.2 (((zl_pl P.1 + 1, zl_gd P.1, zl_pp P.1), P.1.2), (fun i => if i = zl_pl P.1 then u else P.2.1 i), P.2.2) (g_sI c3 Y.1.2.2 0 (nI (zl_pl P.1 + 1))) r3 := by
        refine zp_L_k (c := g_sI (g_sL c1 (Y.1.2.2 + 1) (zl_pl P.1) (iL (ze 32 u : Nat))) Y.1.2.2 0 (nI (zl_pl P.1 + 1))) (r := g_sI (g_sL r1 5 (5 + zl_pl P.1) (r1.2.1 0 7)) 2 1 (nI (zl_pl P.1 + 1))) ?_ (by omega) (fun id q => ⟨z_sI_cg (d4.1 _ (by omega) (by omega) (by omega)) (d4.1 _ (by omega) (by omega) (by omega)), d4.2.2.1 id (by omega) (by omega)⟩) (fun id q => ⟨d5.1 id (by omega), d5.2.2.1 id (by omega)⟩)
        obtain ⟨⟨⟨x1, x2, x3⟩, ⟨x4, x5, x6⟩, -⟩, ⟨n1, n2, n3⟩, hw, hg, hp, hz⟩ := hL1
        refine ⟨⟨⟨by rw [z_sI_same]; rfl, by rw [z_sI_k (by omega)]; exact x2, by rw [z_sI_k (by omega)]; exact x3⟩, ⟨by rw [z_sI_same]; rfl, by rw [z_sI_id (by omega)]; exact x5, by rw [z_sI_id (by omega)]; exact x6⟩, by show zl_pl P.1 + 1 ≤ 5; omega, b2, b3⟩, ⟨?_, ?_, ?_⟩, ?_, ?_, ?_, ?_⟩
        · intro i hi
          have hi : i < zl_pl P.1 + 1 := hi
          rw [z_sI_2, z_sI_2, z_sL, z_sL]
          show zn_dg (if i = zl_pl P.1 then u else P.2.1 i) ∧ (if i = zl_pl P.1 then u else P.2.1 i).length ≤ 8 ∧ _ = iL (ze 32 (if i = zl_pl P.1 then u else P.2.1 i) : Nat) ∧ _ = iL (ze 27 (if i = zl_pl P.1 then u else P.2.1 i) : Nat)
          by_cases e : i = zl_pl P.1
          · rw [if_pos e, if_pos ⟨rfl, e⟩, if_pos ⟨rfl, by rw [e]⟩]; exact ⟨u1, u2, rfl, u3⟩
          · rw [if_neg e, if_neg (fun q => e q.2), if_neg (fun q => by omega)]; exact n1 i (by omega)
        · intro i hi; rw [z_sI_2, z_sI_2, zn_sL_f (by omega), zn_sL_f (by omega)]; exact n2 i hi
        · intro i hi; rw [z_sI_2, z_sI_2, zn_sL_f (by omega), zn_sL_f (by omega)]; exact n3 i hi
        · intro x y hx hy
          rw [z_sI_id (by omega), z_sI_id (by omega)]
          refine ⟨(hw x y hx hy).1, (hw x y hx hy).2.1, (hw x y hx hy).2.2.1, fun q => (hw x y hx hy).2.2.2 ?_⟩
          have q : zl_pl P.1 + 1 ≤ x ∨ zl_pl P.1 + 1 ≤ y ∨ x = y := q
          omega
        · intro g hg2; rw [z_sI_id (by omega), z_sI_id (by omega), z_sI_id (by omega), z_sI_id (by omega)]; exact hg g hg2
        · intro p hp2
          rw [z_sI_id (by omega), z_sI_id (by omega), z_sI_id (by omega), z_sI_id (by omega)]
          have := hp p hp2
          refine ⟨⟨?_, this.1.2⟩, this.2.1, fun j hj => ?_⟩
          · have := this.1.1
            show zl_hm P.1 p < zl_pl P.1 + 1; omega
          · rw [z_sI_id (by omega), z_sI_id (by omega)]; exact this.2.2 j hj
        · intro p q1 q2 j hj; rw [z_sI_id (by omega)]; exact hz p q1 q2 j hj
      have hV3 : zp_V Y (zp_n Y (zp_n Y j)) (g_sI c3 Y.1.2.2 0 (nI (zl_pl P.1 + 1))) r3 := zp_V_w d3 (zp_KC_I (by omega)) zp_KR_refl (zp_cntq hL3)
      obtain ⟨v, c4, r4, f1, f2, f3⟩ := zp_q_and2 (zp_q_and (zp_ends hV3 hF))
      refine ⟨v, c4, r4, f1, f2, f3.imp (fun q => ⟨q.1, _, zp_n Y (zp_n Y (zp_n Y j)), ?_, q.2.1, zp_L_k2 hL3 (by omega) q.2.2.1 q.2.2.2, hz0⟩) id⟩
      have g1 := zp_n_ge (Y := Y) (j := zp_n Y j)
      have g2 := zp_n_ge (Y := Y) (j := zp_n Y (zp_n Y j))
      omega
