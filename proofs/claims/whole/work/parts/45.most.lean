/-! Layer 2: subsets in falling order; the MOST of each set; the class finds it -/
def z_sl (s : Nat) : Nat → Nat → List Nat
  | 0, _ => []
  | n + 1, p => if p = 0 then [] else p :: z_sl s n ((p - 1) &&& s)
theorem z_sl_fuel (s : Nat) : ∀ (n m p : Nat), p ≤ n → p ≤ m → z_sl s n p = z_sl s m p
  | 0, 0, _, _, _ => rfl
  | 0, m + 1, p, h, _ => by have : p = 0 := by omega
                            subst this; rfl
  | n + 1, 0, p, _, h => by have : p = 0 := by omega
                            subst this; rfl
  | n + 1, m + 1, p, h1, h2 => by
    by_cases h : p = 0
    · subst h; rfl
    · show (if p = 0 then [] else p :: z_sl s n ((p - 1) &&& s)) = (if p = 0 then [] else p :: z_sl s m ((p - 1) &&& s))
      rw [if_neg h, if_neg h]
      have hle : (p - 1) &&& s ≤ p - 1 := Nat.and_le_left
      rw [z_sl_fuel s n m _ (by omega) (by omega)]
def z_ss (s p : Nat) : List Nat := z_sl s p p
theorem z_ss_0 (s : Nat) : z_ss s 0 = [] := rfl
theorem z_ss_s {s p : Nat} (h : p ≠ 0) : z_ss s p = p :: z_ss s ((p - 1) &&& s) := by
  obtain ⟨q, rfl⟩ : ∃ q, p = q + 1 := ⟨p - 1, by omega⟩
  have hle : (q + 1 - 1) &&& s ≤ q + 1 - 1 := Nat.and_le_left
  show (if q + 1 = 0 then [] else (q + 1) :: z_sl s q ((q + 1 - 1) &&& s)) = _
  rw [if_neg h]
  unfold z_ss
  rw [z_sl_fuel s q _ _ (by omega) (Nat.le_refl _)]
def z_in (a b : Nat) : Prop := a &&& b = a
theorem z_in_and {a b : Nat} : z_in (a &&& b) b := by unfold z_in; rw [Nat.and_assoc, Nat.and_self]
theorem z_in_trans {a b c : Nat} (h : z_in a b) (h2 : z_in b c) : z_in a c := by unfold z_in at *; rw [← h, Nat.and_assoc, h2]
theorem z_in_le {a b : Nat} (h : z_in a b) : a ≤ b := by unfold z_in at h; rw [← h]; exact Nat.and_le_right
theorem z_in_self (a : Nat) : z_in a a := Nat.and_self a
theorem z_in_tb {a b : Nat} : z_in a b ↔ ∀ i, a.testBit i = true → b.testBit i = true := by
  unfold z_in
  constructor
  · intro h i hi
    rw [← h, Nat.testBit_and, Bool.and_eq_true] at hi; exact hi.2
  · intro h
    apply Nat.eq_of_testBit_eq
    intro i
    rw [Nat.testBit_and]
    cases e : a.testBit i with
    | false => rfl
    | true => rw [h i e]; rfl
theorem z_in_or {a b c : Nat} (h : z_in a c) (h2 : z_in b c) : z_in (a ||| b) c := by
  rw [z_in_tb] at *
  intro i hi
  rw [Nat.testBit_or, Bool.or_eq_true] at hi
  exact hi.elim (h i) (h2 i)
theorem z_in_xor {a b : Nat} (h : z_in a b) : z_in (b ^^^ a) b := by
  rw [z_in_tb] at *
  intro i hi
  rw [Nat.testBit_xor] at hi
  cases e : b.testBit i with
  | true => rfl
  | false => cases e2 : a.testBit i with
             | true => rw [h i e2] at e; cases e
             | false => rw [e, e2] at hi; exact hi
theorem z_xor_lt {a b : Nat} (h : z_in a b) (h0 : a ≠ 0) : b ^^^ a < b := by
  have h1 := z_in_le (z_in_xor h)
  refine Nat.lt_of_le_of_ne h1 (fun e => h0 ?_)
  have h2 : b ^^^ (b ^^^ a) = b ^^^ b := by rw [e]
  rw [← Nat.xor_assoc, Nat.xor_self, Nat.zero_xor] at h2; exact h2
theorem z_lw_in0 : ∀ s, s < 256 → s ≠ 0 → z_lw s &&& s = z_lw s ∧ z_lw s ≠ 0 ∧ z_lw s < 256 := by decide +kernel
theorem z_lw_in {s : Nat} (h : s < 256) (h0 : s ≠ 0) : z_in (z_lw s) s := (z_lw_in0 s h h0).1
/-- a better round: worth more, or the same with fewer rounds, or with fewer people -/
abbrev zm_T : Type := Nat × Nat × Nat
def zm_bt (c : zm_T) (w r n : Nat) : Prop := c.1 < w ∨ (w = c.1 ∧ (r < c.2.1 ∨ (r = c.2.1 ∧ n < c.2.2)))
def zm_dec (c : zm_T) (w r n : Nat) : Bool := decide (c.1 < w) || (decide (w = c.1) && (decide (r < c.2.1) || (decide (r = c.2.1) && decide (n < c.2.2))))
theorem zm_dec_iff {c : zm_T} {w r n : Nat} : zm_dec c w r n = true ↔ zm_bt c w r n := by
  unfold zm_dec zm_bt
  simp only [Bool.or_eq_true, Bool.and_eq_true, decide_eq_true_eq]
def zm_off (b : Nat → Nat) (t : Nat → zm_T) (set : Nat) (c : zm_T) (part : Nat) : zm_T :=
  if b part = 0 then c else if zm_dec c ((t (set ^^^ part)).1 + (b part - 1)) ((t (set ^^^ part)).2.1 + 1) ((t (set ^^^ part)).2.2 + z_pc part) = true then ((t (set ^^^ part)).1 + (b part - 1), (t (set ^^^ part)).2.1 + 1, (t (set ^^^ part)).2.2 + z_pc part) else c
def zm_set (b : Nat → Nat) (t : Nat → zm_T) (set : Nat) : zm_T := ((z_ss (set ^^^ z_lw set) (set ^^^ z_lw set)).map (fun p => p ||| z_lw set)).foldl (zm_off b t set) (t (set ^^^ z_lw set))
def zm_f (b : Nat → Nat) : Nat → Nat → zm_T
  | 0 => fun _ => (0, 0, 0)
  | n + 1 => fun s => if s = n then (if n = 0 then (0, 0, 0) else zm_set b (zm_f b n) n) else zm_f b n s
theorem zm_f_up {b : Nat → Nat} {s n : Nat} (h : s < n) : ∀ {m : Nat}, n ≤ m → zm_f b m s = zm_f b n s
  | 0, h2 => by omega
  | m + 1, h2 => by
    by_cases e : n = m + 1
    · rw [e]
    · show (if s = m then _ else zm_f b m s) = _
      rw [if_neg (by omega), zm_f_up h (m := m) (by omega)]
theorem zm_f_at {b : Nat → Nat} {s : Nat} (h0 : s ≠ 0) : zm_f b (s + 1) s = zm_set b (zm_f b s) s := by
  show (if s = s then _ else _) = _
  rw [if_pos rfl, if_neg h0]
theorem zm_f_0 {b : Nat → Nat} : ∀ n, zm_f b n 0 = (0, 0, 0)
  | 0 => rfl
  | n + 1 => by
    show (if 0 = n then (if n = 0 then (0, 0, 0) else _) else zm_f b n 0) = _
    by_cases e : 0 = n
    · rw [if_pos e, if_pos e.symm]
    · rw [if_neg e]; exact zm_f_0 n
/-- bounds -/
def zm_le (t : zm_T) (s : Nat) : Prop := t.1 ≤ 100000 * s ∧ t.2.1 ≤ s ∧ t.2.2 ≤ 8 * s
theorem zm_off_le {b : Nat → Nat} {t : Nat → zm_T} {set part : Nat} {c : zm_T} (hb : ∀ s, s < 256 → b s < 100000) (hs : set < 256) (ht : ∀ s, s < set → zm_le (t s) s) (hc : zm_le c set) (hp : z_in part set) (hp0 : part ≠ 0) : zm_le (zm_off b t set c part) set := by
  unfold zm_off
  split
  · exact hc
  · split
    · have h1 := z_xor_lt hp hp0
      have h2 := ht _ h1
      have h3 := hb part (by have := z_in_le hp; omega)
      have h4 := z_pc_le part
      unfold zm_le at *
      refine ⟨?_, ?_, ?_⟩
      · show _ + _ ≤ _; omega
      · show _ + _ ≤ _; omega
      · show _ + _ ≤ _; omega
    · exact hc
theorem zm_fold_le {b : Nat → Nat} {t : Nat → zm_T} {set : Nat} (hb : ∀ s, s < 256 → b s < 100000) (hs : set < 256) (ht : ∀ s, s < set → zm_le (t s) s) : ∀ (l : List Nat) (c : zm_T), (∀ p ∈ l, z_in p set ∧ p ≠ 0) → zm_le c set → zm_le (l.foldl (zm_off b t set) c) set
  | [], _, _, hc => hc
  | p :: l, c, hl, hc => by
    rw [List.foldl_cons]
    exact zm_fold_le hb hs ht l _ (fun q hq => hl q (List.mem_cons_of_mem _ hq)) (zm_off_le hb hs ht hc (hl p List.mem_cons_self).1 (hl p List.mem_cons_self).2)
theorem z_ss_mem (s : Nat) : ∀ (n p q : Nat), p ≤ n → z_in p s → q ∈ z_ss s p → z_in q s ∧ q ≠ 0 := by
  intro n
  induction n with
  | zero => intro p q h1 _ h2; have : p = 0 := by omega
            subst this; cases h2
  | succ n ih =>
    intro p q h1 h2 h3
    by_cases h : p = 0
    · subst h; cases h3
    · rw [z_ss_s h] at h3
      rcases List.mem_cons.mp h3 with rfl | h4
      · exact ⟨h2, h⟩
      · have hle : (p - 1) &&& s ≤ p - 1 := Nat.and_le_left
        exact ih _ q (by omega) z_in_and h4
theorem zm_parts {set q : Nat} (hs : set < 256) (h0 : set ≠ 0) (h : q ∈ (z_ss (set ^^^ z_lw set) (set ^^^ z_lw set)).map (fun p => p ||| z_lw set)) : z_in q set ∧ q ≠ 0 := by
  rw [List.mem_map] at h
  obtain ⟨p, h1, rfl⟩ := h
  have h2 := z_ss_mem _ _ _ _ (Nat.le_refl _) (z_in_self _) h1
  refine ⟨z_in_or (z_in_trans h2.1 (z_in_xor (z_lw_in hs h0))) (z_lw_in hs h0), fun e => ?_⟩
  have : p ≤ p ||| z_lw set := Nat.left_le_or
  omega
theorem zm_f_le {b : Nat → Nat} (hb : ∀ s, s < 256 → b s < 100000) : ∀ (n s : Nat), n ≤ 256 → zm_le (zm_f b n s) s
  | 0, s, _ => ⟨Nat.zero_le _, Nat.zero_le _, Nat.zero_le _⟩
  | n + 1, s, h => by
    have ih := zm_f_le hb n
    show zm_le (if s = n then (if n = 0 then (0, 0, 0) else zm_set b (zm_f b n) n) else zm_f b n s) s
    by_cases e : s = n
    · rw [if_pos e]
      by_cases e0 : n = 0
      · rw [if_pos e0]; exact ⟨Nat.zero_le _, Nat.zero_le _, Nat.zero_le _⟩
      · rw [if_neg e0, e]
        have h1 := ih (n ^^^ z_lw n) (by omega)
        have h2 := z_xor_lt (z_lw_in (by omega) e0) (z_lw_in0 n (by omega) e0).2.1
        exact zm_fold_le hb (by omega) (fun q _ => ih q (by omega)) _ _ (fun q hq => zm_parts (by omega) e0 hq) ⟨by have := h1.1; omega, by have := h1.2.1; omega, by have := h1.2.2; omega⟩
    · rw [if_neg e]; exact ih s (by omega)
/-- only what lies in a set counts for it -/
theorem zm_fold_congr {b b' : Nat → Nat} {t t' : Nat → zm_T} {set : Nat} : ∀ (l : List Nat) (c : zm_T), (∀ p ∈ l, b p = b' p ∧ t (set ^^^ p) = t' (set ^^^ p)) → l.foldl (zm_off b t set) c = l.foldl (zm_off b' t' set) c
  | [], _, _ => rfl
  | p :: l, c, h => by
    rw [List.foldl_cons, List.foldl_cons]
    have e : zm_off b t set c p = zm_off b' t' set c p := by
      unfold zm_off; rw [(h p List.mem_cons_self).1, (h p List.mem_cons_self).2]
    rw [e]
    exact zm_fold_congr l _ (fun q hq => h q (List.mem_cons_of_mem _ hq))
theorem zm_f_congr {b b' : Nat → Nat} {A : Nat} (h : ∀ p, p < 256 → z_in p A → b p = b' p) : ∀ (n s : Nat), n ≤ 256 → z_in s A → zm_f b n s = zm_f b' n s
  | 0, _, _, _ => rfl
  | n + 1, s, h1, h2 => by
    show (if s = n then (if n = 0 then (0, 0, 0) else zm_set b (zm_f b n) n) else zm_f b n s) = (if s = n then (if n = 0 then (0, 0, 0) else zm_set b' (zm_f b' n) n) else zm_f b' n s)
    by_cases e : s = n
    · rw [if_pos e, if_pos e]
      by_cases e0 : n = 0
      · rw [if_pos e0, if_pos e0]
      · rw [if_neg e0, if_neg e0]
        subst e
        unfold zm_set
        rw [zm_f_congr h s _ (by omega) (z_in_trans (z_in_xor (z_lw_in (by omega) e0)) h2)]
        refine zm_fold_congr _ _ (fun p hp => ?_)
        have hq := zm_parts (by omega) e0 hp
        exact ⟨h p (by have := z_in_le hq.1; omega) (z_in_trans hq.1 h2), zm_f_congr h s _ (by omega) (z_in_trans (z_in_xor hq.1) h2)⟩
    · rw [if_neg e, if_neg e]; exact zm_f_congr h n s (by omega) h2
theorem zm_f_none {b : Nat → Nat} {A : Nat} (h : ∀ p, p < 256 → z_in p A → b p = 0) : ∀ (n s : Nat), n ≤ 256 → z_in s A → zm_f b n s = (0, 0, 0)
  | 0, _, _, _ => rfl
  | n + 1, s, h1, h2 => by
    show (if s = n then (if n = 0 then (0, 0, 0) else zm_set b (zm_f b n) n) else zm_f b n s) = _
    by_cases e : s = n
    · rw [if_pos e]
      by_cases e0 : n = 0
      · rw [if_pos e0]
      · rw [if_neg e0]
        subst e
        unfold zm_set
        rw [zm_f_none h s _ (by omega) (z_in_trans (z_in_xor (z_lw_in (by omega) e0)) h2)]
        have key : ∀ (l : List Nat), (∀ p ∈ l, z_in p s ∧ p ≠ 0) → l.foldl (zm_off b (zm_f b s) s) (0, 0, 0) = (0, 0, 0) := by
          intro l
          induction l with
          | nil => intro _; rfl
          | cons p l ih =>
            intro hl
            have hq := hl p List.mem_cons_self
            rw [List.foldl_cons]
            have e2 : zm_off b (zm_f b s) s (0, 0, 0) p = (0, 0, 0) := by unfold zm_off; rw [if_pos (h p (by have := z_in_le hq.1; omega) (z_in_trans hq.1 h2))]
            rw [e2]; exact ih (fun q hq => hl q (List.mem_cons_of_mem _ hq))
        exact key _ (fun p hp => zm_parts (by omega) e0 hp)
    · rw [if_neg e]; exact zm_f_none h n s (by omega) h2
/-- the class's rows of MOSTs at base br -/
def zm_C (br : Nat) (T : Nat → zm_T) (s : Nat) (c : g_St) : Prop := c.1 (br + 7) s = nI (T s).1 ∧ c.1 (br + 8) s = nI (T s).2.1 ∧ c.1 (br + 9) s = nI (T s).2.2
def zm_w3 (br id : Nat) : Prop := id ≠ br + 7 ∧ id ≠ br + 8 ∧ id ≠ br + 9
def zm_put (br : Nat) (c : g_St) (s : Nat) (t : zm_T) : g_St := g_sI (g_sI (g_sI c (br + 7) s (nI t.1)) (br + 8) s (nI t.2.1)) (br + 9) s (nI t.2.2)
theorem zm_put_f {br s : Nat} {c : g_St} {t : zm_T} : z_f (zm_w3 br) c (zm_put br c s t) :=
  z_f_trans (z_f_trans (z_f_sI (P := zm_w3 br) (fun q => q.1 rfl)) (z_f_sI (P := zm_w3 br) (fun q => q.2.1 rfl)) (R := zm_w3 br) (fun _ q => q) (fun _ q => q)) (z_f_sI (P := zm_w3 br) (fun q => q.2.2 rfl)) (fun _ q => q) (fun _ q => q)
theorem zm_put_o {br s j id : Nat} {c : g_St} {t : zm_T} (h : j ≠ s) : (zm_put br c s t).1 id j = c.1 id j := by
  unfold zm_put; rw [z_sI_k h, z_sI_k h, z_sI_k h]
theorem zm_put_s {br s : Nat} {c : g_St} {t : zm_T} : (zm_put br c s t).1 (br + 7) s = nI t.1 ∧ (zm_put br c s t).1 (br + 8) s = nI t.2.1 ∧ (zm_put br c s t).1 (br + 9) s = nI t.2.2 := by
  unfold zm_put
  refine ⟨?_, ?_, ?_⟩
  · rw [z_sI_id (by omega), z_sI_id (by omega), z_sI_same]
  · rw [z_sI_id (by omega), z_sI_same]
  · rw [z_sI_same]
theorem zm_offer {br set part : Nat} {c : g_St} {b : Nat → Nat} {t : Nat → zm_T} {cur : zm_T} (hB : zb_B br b c) (hs : set < 256) (hp : z_in part set) (hp0 : part ≠ 0) (hb0 : b part ≠ 0) (ht : zm_C br t (set ^^^ part) c) (hl : zm_le (t (set ^^^ part)) 256) (hc : c.1 (br + 7) set = nI cur.1 ∧ c.1 (br + 8) set = nI cur.2.1 ∧ c.1 (br + 9) set = nI cur.2.2) (hcl : zm_le cur 256) :
    og_offerRound br (nI set) (nI part) c = some (if zm_dec cur ((t (set ^^^ part)).1 + (b part - 1)) ((t (set ^^^ part)).2.1 + 1) ((t (set ^^^ part)).2.2 + z_pc part) = true then zm_put br c set ((t (set ^^^ part)).1 + (b part - 1), (t (set ^^^ part)).2.1 + 1, (t (set ^^^ part)).2.2 + z_pc part) else c) := by
  have hpl := z_in_le hp
  have hx := z_xor_lt hp hp0
  have hb := hB part (by omega)
  have e1 := zE_pos hb0
  unfold zm_le at hl hcl
  have h4 := z_pc_le part
  unfold og_offerRound og_offerRound_76 og_offerRound_80
  rw [z_rd (by omega) (by omega), z_sbind, hb.1, e1, z_xor, z_rd (by omega) (by omega), z_sbind, ht.1, z_rd (by omega) (by omega), z_sbind, ht.2.1, z_bc (by omega), z_sbind, z_rd (by omega) (by omega), z_sbind, ht.2.2, show (1 : Int32) = nI 1 from rfl, nI_add, nI_add, nI_add, Nat.add_comm 1, Nat.add_comm (z_pc part), Nat.add_comm (b part - 1)]
  have hw : (t (set ^^^ part)).1 + (b part - 1) < 2147483648 := by omega
  have hr : (t (set ^^^ part)).2.1 + 1 < 2147483648 := by omega
  have hn : (t (set ^^^ part)).2.2 + z_pc part < 2147483648 := by omega
  generalize (t (set ^^^ part)).1 + (b part - 1) = w at *
  generalize (t (set ^^^ part)).2.1 + 1 = r at *
  generalize (t (set ^^^ part)).2.2 + z_pc part = n at *
  have P108 : og_offerRound_108 br (nI set) (nI w) (nI r) (nI n) c = some (zm_put br c set (w, r, n)) := by
    unfold og_offerRound_108 zm_put
    simp (disch := omega) only [↓reduceIte, nI_lit, z_sbind, z_rd, z_rl, z_rr, z_wr, z_wl, nI_add, z_mul, z_lt, z_le, z_eq, z_ltm1, z_m1lt, z_eqm1, z_m1eq, z_lem1, z_m1le, if_true, if_false, ite_true, ite_false]
  have k : ∀ o : Nat, o < 2 → og_offerRound_81 br (nI set) (nI w) (nI r) (nI n) (nI o) c = some (if cur.1 < w ∨ (w = cur.1 ∧ o = 1) then zm_put br c set (w, r, n) else c) := by
    intro o ho
    unfold og_offerRound_81
    simp (disch := omega) only [↓reduceIte, nI_lit, z_sbind, z_rd, z_rl, z_rr, z_wr, z_wl, nI_add, z_mul, z_lt, z_le, z_eq, z_ltm1, z_m1lt, z_eqm1, z_m1eq, z_lem1, z_m1le, if_true, if_false, ite_true, ite_false, hc.1, P108]
    by_cases h1 : w ≤ cur.1
    · rw [if_pos h1]
      by_cases h2 : w = cur.1
      · rw [if_pos h2]
        rcases (by omega : o = 0 ∨ o = 1) with rfl | rfl
        · rw [if_pos rfl, if_neg (by omega)]
        · rw [if_neg (by omega), if_pos (by omega)]
      · rw [if_neg h2, if_neg (by omega)]
    · rw [if_neg h1, if_pos (by omega)]
  have k0 := k 0 (by omega)
  have k1 := k 1 (by omega)
  simp (disch := omega) only [nI_lit, z_rd, z_sbind, hc.2.1, hc.2.2, z_le, z_lt, z_eq, k0, k1]
  have D : (zm_dec cur w r n = true) = zm_bt cur w r n := propext zm_dec_iff
  have D2 : (if zm_dec cur w r n = true then zm_put br c set (w, r, n) else c) = if cur.1 < w ∨ (w = cur.1 ∧ (r < cur.2.1 ∨ (r = cur.2.1 ∧ n < cur.2.2))) then zm_put br c set (w, r, n) else c := by
    by_cases h : zm_bt cur w r n
    · rw [if_pos (zm_dec_iff.mpr h)]; unfold zm_bt at h; rw [if_pos h]
    · rw [if_neg (fun q => h (zm_dec_iff.mp q))]; unfold zm_bt at h; rw [if_neg h]
  rw [D2]
  by_cases h3 : cur.2.1 ≤ r
  · rw [if_pos h3]
    by_cases h4 : r = cur.2.1
    · rw [if_pos h4]
      by_cases h5 : n < cur.2.2
      · rw [if_pos h5]; congr 1
        by_cases h6 : cur.1 < w ∨ w = cur.1
        · rw [if_pos (h6.imp id (fun h => ⟨h, trivial⟩)), if_pos (by omega)]
        · rw [if_neg (fun q => h6 (q.imp id And.left)), if_neg (by omega)]
      · rw [if_neg h5]; congr 1
        by_cases h6 : cur.1 < w
        · rw [if_pos (by omega), if_pos (by omega)]
        · rw [if_neg (by omega), if_neg (by omega)]
    · rw [if_neg h4]; congr 1
      by_cases h6 : cur.1 < w
      · rw [if_pos (by omega), if_pos (by omega)]
      · rw [if_neg (by omega), if_neg (by omega)]
  · rw [if_neg h3]; congr 1
    by_cases h6 : cur.1 < w ∨ w = cur.1
    · rw [if_pos (h6.imp id (fun h => ⟨h, trivial⟩)), if_pos (by omega)]
    · rw [if_neg (fun q => h6 (q.imp id And.left)), if_neg (by omega)]
