/-! Layer 2, base: numbers, the judgement of a shallow function's answer, loops -/
def z_w {α : Type} (x : Option α) (Q : α → Prop) : Prop := ∃ a, x = some a ∧ Q a
theorem z_w_some {α : Type} {a : α} {Q : α → Prop} (h : Q a) : z_w (some a) Q := ⟨a, rfl, h⟩
theorem z_w_some_iff {α : Type} {a : α} {Q : α → Prop} : z_w (some a) Q = Q a := by
  apply propext; constructor
  · intro ⟨b, hb, hq⟩; cases hb; exact hq
  · exact z_w_some
theorem z_w_bind {α β : Type} {x : Option α} {f : α → Option β} {Q : β → Prop} (h : z_w x (fun a => z_w (f a) Q)) : z_w (x.bind f) Q := by
  obtain ⟨a, ha, b, hb, hq⟩ := h
  exact ⟨b, by rw [ha]; exact hb, hq⟩
theorem z_w_mono {α : Type} {x : Option α} {Q R : α → Prop} (h : z_w x Q) (hq : ∀ a, Q a → R a) : z_w x R := by
  obtain ⟨a, ha, hb⟩ := h
  exact ⟨a, ha, hq a hb⟩
theorem z_w_eq {α : Type} {x : Option α} {a : α} {Q : α → Prop} (h : x = some a) (hq : Q a) : z_w x Q := ⟨a, h, hq⟩
/-- a call, then the rest -/
theorem z_w_call {α β : Type} {x : Option α} {f : α → Option β} {Q : β → Prop} {P : α → Prop} (h : z_w x P) (k : ∀ a, P a → z_w (f a) Q) : z_w (x.bind f) Q :=
  z_w_bind (z_w_mono h k)
theorem z_sbind {α β : Type} (a : α) (f : α → Option β) : (some a).bind f = f a := rfl
/-- a loop: a measure falls, an invariant holds -/
theorem z_mw {σ α : Type} {A : Nat → σ → Option α} {Q : α → Prop} (I : σ → Prop) (m : σ → Nat)
    (hs : ∀ f s, I s → (∀ s', I s' → m s' < m s → z_w (A f s') Q) → z_w (A (f + 1) s) Q) : ∀ (f : Nat) (s : σ), I s → m s < f → z_w (A f s) Q := by
  intro f
  induction f with
  | zero => intro s _ h; exact absurd h (Nat.not_lt_zero _)
  | succ f ih =>
    intro s hp hm
    exact hs f s hp (fun s' hp' hm' => ih s' hp' (by omega))
/-- a loop that counts up to n -/
theorem z_cw {σ α : Type} {A : Nat → Nat → σ → Option α} {n : Nat} {Q : α → Prop} (I : Nat → σ → Prop)
    (hs : ∀ f i s, i < n → I i s → (∀ s', I (i + 1) s' → z_w (A f (i + 1) s') Q) → z_w (A (f + 1) i s) Q)
    (he : ∀ f s, I n s → z_w (A (f + 1) n s) Q) : ∀ (f i : Nat) (s : σ), i ≤ n → I i s → n - i < f → z_w (A f i s) Q := by
  intro f
  induction f with
  | zero => intro i s _ _ h; exact absurd h (Nat.not_lt_zero _)
  | succ f ih =>
    intro i s hi hI hm
    by_cases hn : i < n
    · exact hs f i s hn hI (fun s' hI' => ih (i + 1) s' (by omega) hI' (by omega))
    · have e : i = n := by omega
      subst e; exact he f s hI
/-- the numbers -/
theorem nI_lit (n : Nat) : (no_index (OfNat.ofNat n) : Int32) = nI (no_index (OfNat.ofNat n)) := Eq.trans rfl rfl
theorem z_lt {a b : Nat} (ha : a < 2147483648) (hb : b < 2147483648) : (nI a < nI b) = (a < b) := propext (nI_ltI ha hb)
theorem z_le {a b : Nat} (ha : a < 2147483648) (hb : b < 2147483648) : (nI a ≤ nI b) = (a ≤ b) := propext (nI_leI ha hb)
theorem z_eq {a b : Nat} (ha : a < 2147483648) (hb : b < 2147483648) : (nI a = nI b) = (a = b) := propext (nI_eq ha hb)
theorem z_10 : (nI 1 = nI 0) = False := by rw [z_eq (by omega) (by omega)]; simp
theorem z_01 : (nI 0 = nI 1) = False := by rw [z_eq (by omega) (by omega)]; simp
theorem z_mul (a b : Nat) : nI a * nI b = nI (a * b) := (Int32.ofNat_mul a b).symm
theorem z_sub {a b : Nat} (h : b ≤ a) : nI a - nI b = nI (a - b) := (Int32.ofNat_sub a b h).symm
theorem z_m1 : (-nI 1 : Int32) = -1 := rfl
theorem z_ltm1 {a : Nat} (ha : a < 2147483648) : (nI a < -nI 1) = False := by
  apply propext; constructor
  · intro h; rw [Int32.lt_iff_toInt_lt, nI_toInt ha] at h; rw [show (-nI 1 : Int32).toInt = -1 from rfl] at h; omega
  · exact False.elim
theorem z_m1lt {a : Nat} (ha : a < 2147483648) : (-nI 1 < nI a) = True := by
  apply propext; constructor
  · intro _; trivial
  · intro _; rw [Int32.lt_iff_toInt_lt, nI_toInt ha, show (-nI 1 : Int32).toInt = -1 from rfl]; omega
theorem z_eqm1 {a : Nat} (ha : a < 2147483648) : (nI a = -nI 1) = False := by
  apply propext; constructor
  · intro h; have := congrArg Int32.toInt h; rw [nI_toInt ha, show (-nI 1 : Int32).toInt = -1 from rfl] at this; omega
  · exact False.elim
theorem z_m1eq {a : Nat} (ha : a < 2147483648) : (-nI 1 = nI a) = False := by
  rw [eq_comm (a := (-nI 1 : Int32))]; exact z_eqm1 ha
theorem z_lem1 {a : Nat} (ha : a < 2147483648) : (nI a ≤ -nI 1) = False := by
  apply propext; constructor
  · intro h; rw [Int32.le_iff_toInt_le, nI_toInt ha, show (-nI 1 : Int32).toInt = -1 from rfl] at h; omega
  · exact False.elim
theorem z_m1le {a : Nat} (ha : a < 2147483648) : (-nI 1 ≤ nI a) = True := by
  apply propext; constructor
  · intro _; trivial
  · intro _; rw [Int32.le_iff_toInt_le, nI_toInt ha, show (-nI 1 : Int32).toInt = -1 from rfl]; omega
theorem z_out {i n : Nat} (h : i < n) (hn : n ≤ 2147483647) : g_out (nI i) n = False := by
  apply propext; constructor
  · intro h2; exact nI_in h (by omega) h2
  · exact False.elim
theorem z_cl {a : Nat} (h : a < 2147483648) : (nI a).toNatClampNeg = a := nI_clamp h
theorem z_rd {μ : g_St} {id n i : Nat} (h : i < n) (hn : n ≤ 2147483647) : g_rd μ id n (nI i) = some (μ.1 id i) := by
  unfold g_rd; rw [if_neg (fun q => (by rw [z_out h hn] at q; exact q)), z_cl (by omega)]
theorem z_rl {μ : g_St} {id n i : Nat} (h : i < n) (hn : n ≤ 2147483647) : g_rl μ id n (nI i) = some (μ.2.1 id i) := by
  unfold g_rl; rw [if_neg (fun q => (by rw [z_out h hn] at q; exact q)), z_cl (by omega)]
theorem z_rr {rf : Nat → Nat} {n i : Nat} (h : i < n) (hn : n ≤ 2147483647) : g_rr rf n (nI i) = some (rf i) := by
  unfold g_rr; rw [if_neg (fun q => (by rw [z_out h hn] at q; exact q)), z_cl (by omega)]
theorem z_wr {μ : g_St} {id n i : Nat} {v : Int32} (h : i < n) (hn : n ≤ 2147483647) : g_wr μ id n (nI i) v = some (g_sI μ id i v) := by
  unfold g_wr; rw [if_neg (fun q => (by rw [z_out h hn] at q; exact q)), z_cl (by omega)]
theorem z_wl {μ : g_St} {id n i : Nat} {v : Int64} (h : i < n) (hn : n ≤ 2147483647) : g_wl μ id n (nI i) v = some (g_sL μ id i v) := by
  unfold g_wl; rw [if_neg (fun q => (by rw [z_out h hn] at q; exact q)), z_cl (by omega)]
/-- what a write shows -/
theorem z_sI (μ : g_St) (id k : Nat) (v : Int32) (a j : Nat) : (g_sI μ id k v).1 a j = if a = id ∧ j = k then v else μ.1 a j := by
  unfold g_sI upd
  by_cases h : a = id
  · subst h; by_cases h2 : j = k
    · simp [h2]
    · simp [h2]
  · simp [h]
theorem z_sI_same (μ : g_St) (id k : Nat) (v : Int32) : (g_sI μ id k v).1 id k = v := by rw [z_sI]; simp
theorem z_sI_id {μ : g_St} {id k : Nat} {v : Int32} {a j : Nat} (h : a ≠ id) : (g_sI μ id k v).1 a j = μ.1 a j := by rw [z_sI]; simp [h]
theorem z_sI_k {μ : g_St} {id k : Nat} {v : Int32} {a j : Nat} (h : j ≠ k) : (g_sI μ id k v).1 a j = μ.1 a j := by rw [z_sI]; simp [h]
theorem z_sI_f {μ : g_St} {id k : Nat} {v : Int32} {a : Nat} (h : a ≠ id) : (g_sI μ id k v).1 a = μ.1 a := by funext j; exact z_sI_id h
theorem z_sI_2 (μ : g_St) (id k : Nat) (v : Int32) : (g_sI μ id k v).2 = μ.2 := rfl
theorem z_sL_1 (μ : g_St) (id k : Nat) (v : Int64) : (g_sL μ id k v).1 = μ.1 := rfl
theorem z_sL_22 (μ : g_St) (id k : Nat) (v : Int64) : (g_sL μ id k v).2.2 = μ.2.2 := rfl
theorem z_sL (μ : g_St) (id k : Nat) (v : Int64) (a j : Nat) : (g_sL μ id k v).2.1 a j = if a = id ∧ j = k then v else μ.2.1 a j := by
  unfold g_sL vp_updL
  by_cases h : a = id
  · subst h; by_cases h2 : j = k
    · simp [h2]
    · simp [h2]
  · simp [h]
theorem z_sQ_1 (μ : g_St) (k id : Nat) : (g_sQ μ k id).1 = μ.1 := rfl
theorem z_sQ_21 (μ : g_St) (k id : Nat) : (g_sQ μ k id).2.1 = μ.2.1 := rfl
/-- what is kept -/
def z_f (P : Nat → Prop) (μ μ' : g_St) : Prop := (∀ id, P id → μ'.1 id = μ.1 id) ∧ μ'.2 = μ.2
theorem z_f_refl {P : Nat → Prop} {μ : g_St} : z_f P μ μ := ⟨fun _ _ => rfl, rfl⟩
theorem z_f_trans {P Q R : Nat → Prop} {μ μ' μ'' : g_St} (h : z_f P μ μ') (h2 : z_f Q μ' μ'') (hp : ∀ id, R id → P id) (hq : ∀ id, R id → Q id) : z_f R μ μ'' :=
  ⟨fun id h9 => by rw [h2.1 id (hq id h9), h.1 id (hp id h9)], by rw [h2.2, h.2]⟩
theorem z_f_mono {P Q : Nat → Prop} {μ μ' : g_St} (h : z_f P μ μ') (hp : ∀ id, Q id → P id) : z_f Q μ μ' := ⟨fun id h9 => h.1 id (hp id h9), h.2⟩
theorem z_f_sI {P : Nat → Prop} {μ : g_St} {id k : Nat} {v : Int32} (h : ¬ P id) : z_f P μ (g_sI μ id k v) :=
  ⟨fun a ha => z_sI_f (fun e => h (e ▸ ha)), rfl⟩
/-- bits -/
theorem z_n31 {i : Nat} (h : i < 32) : i &&& 31 = i := by
  have e : ∀ n, n < 32 → n &&& 31 = n := by decide
  exact e i h
theorem z_shr32 : ∀ i, i < 32 → ((nI i : Int32).toBitVec.smod 32).toNat = i := by decide +kernel
theorem z_shr {a i : Nat} (ha : a < 2147483648) (hi : i < 32) : nI a >>> nI i = nI (a >>> i) := by
  rw [pk_shrN ha _ i (z_shr32 i hi), Nat.shiftRight_eq_div_pow]
theorem z_shl {a i : Nat} (hi : i < 32) (h : a * 2 ^ i < 4294967296) : nI a <<< nI i = nI (a <<< i) := by
  rw [pk_shlN _ i (z_shr32 i hi) h, Nat.shiftLeft_eq]
theorem z_and (a b : Nat) : nI a &&& nI b = nI (a &&& b) := by
  apply Int32.toBitVec_inj.1; apply BitVec.eq_of_toNat_eq
  simp [nI, Int32.toBitVec_and, Int32.toBitVec_ofNat', BitVec.toNat_and, BitVec.toNat_ofNat, Nat.and_mod_two_pow]
theorem z_or (a b : Nat) : nI a ||| nI b = nI (a ||| b) := by
  apply Int32.toBitVec_inj.1; apply BitVec.eq_of_toNat_eq
  simp [nI, Int32.toBitVec_or, Int32.toBitVec_ofNat', BitVec.toNat_or, BitVec.toNat_ofNat, Nat.or_mod_two_pow]
theorem z_xor (a b : Nat) : nI a ^^^ nI b = nI (a ^^^ b) := by
  apply Int32.toBitVec_inj.1; apply BitVec.eq_of_toNat_eq
  simp [nI, Int32.toBitVec_xor, Int32.toBitVec_ofNat', BitVec.toNat_xor, BitVec.toNat_ofNat, Nat.xor_mod_two_pow]
def z_bit (a i : Nat) : Nat := (a >>> i) % 2
theorem z_bit_and {a i : Nat} : (a >>> i) &&& 1 = z_bit a i := Nat.and_one_is_mod _
theorem z_bit_lt (a i : Nat) : z_bit a i < 2 := Nat.mod_lt _ (by omega)
theorem z_bit_tb (a i : Nat) : z_bit a i = (a.testBit i).toNat := by
  unfold z_bit Nat.testBit
  rw [Nat.one_and_eq_mod_two]
  have : a >>> i % 2 < 2 := Nat.mod_lt _ (by omega)
  rcases (by omega : a >>> i % 2 = 0 ∨ a >>> i % 2 = 1) with h | h <;> simp [h]
theorem z_bit_one {a i : Nat} : (z_bit a i = 1) = (a.testBit i = true) := by rw [z_bit_tb]; cases a.testBit i <;> simp
theorem z_bit_zero {a i : Nat} : (z_bit a i = 0) = (a.testBit i = false) := by rw [z_bit_tb]; cases a.testBit i <;> simp
theorem z_shl1 {i : Nat} (hi : i < 31) : nI 1 <<< nI i = nI (2 ^ i) := by
  have h : (2 : Nat) ^ i ≤ 2 ^ 30 := Nat.pow_le_pow_right (by omega) (by omega)
  rw [z_shl (by omega) (by omega), Nat.one_shiftLeft]
/-- loops that count, their state at each turn known -/
theorem z_cnt {α : Type} {A : Nat → Nat → Option α} {n : Nat} {X : Option α} (I : Nat → Prop)
    (hs : ∀ f i, i < n → I i → A (f + 1) i = X ∨ (I (i + 1) ∧ A (f + 1) i = A f (i + 1))) (he : ∀ f, I n → A (f + 1) n = X) :
    ∀ (f i : Nat), i ≤ n → I i → n - i < f → A f i = X := by
  intro f
  induction f with
  | zero => intro i _ _ h; exact absurd h (Nat.not_lt_zero _)
  | succ f ih =>
    intro i hi hI hf
    by_cases hn : i < n
    · rcases hs f i hn hI with h | ⟨h1, h2⟩
      · exact h
      · rw [h2]; exact ih (i + 1) hn h1 (by omega)
    · have e : i = n := by omega
      subst e; exact he f hI
theorem z_cnt0 {α : Type} {A : Nat → Nat → Option α} {n : Nat} {X : Option α}
    (hs : ∀ f i, i < n → A (f + 1) i = A f (i + 1)) (he : ∀ f, A (f + 1) n = X) {F : Nat} (hF : n < F) : A F 0 = X :=
  z_cnt (fun _ => True) (fun f i hi _ => Or.inr ⟨trivial, hs f i hi⟩) (fun f _ => he f) F 0 (Nat.zero_le _) trivial (by omega)
theorem z_cntFrom {α : Type} {A : Nat → Nat → Option α} {n : Nat} {X : Option α} (i0 : Nat) (h0 : i0 ≤ n)
    (hs : ∀ f i, i0 ≤ i → i < n → A (f + 1) i = A f (i + 1)) (he : ∀ f, A (f + 1) n = X) {F : Nat} (hF : n < F) : A F i0 = X :=
  z_cnt (fun i => i0 ≤ i) (fun f i hi h => Or.inr ⟨by omega, hs f i h hi⟩) (fun f _ => he f) F i0 h0 (Nat.le_refl _) (by omega)
/-- sums and unions over the numbers below n -/
def z_sum (f : Nat → Nat) : Nat → Nat
  | 0 => 0
  | n + 1 => z_sum f n + f n
def z_ors (f : Nat → Nat) : Nat → Nat
  | 0 => 0
  | n + 1 => z_ors f n ||| f n
theorem z_sum_le {f : Nat → Nat} {M : Nat} : ∀ {n : Nat}, (∀ i, i < n → f i ≤ M) → z_sum f n ≤ n * M
  | 0, _ => by simp [z_sum]
  | n + 1, h => by
    have h1 := z_sum_le (n := n) (fun i hi => h i (by omega))
    have h2 := h n (by omega)
    simp only [z_sum, Nat.add_mul, Nat.one_mul]; omega
theorem z_sum_congr {f g : Nat → Nat} : ∀ {n : Nat}, (∀ i, i < n → f i = g i) → z_sum f n = z_sum g n
  | 0, _ => rfl
  | n + 1, h => by simp only [z_sum]; rw [z_sum_congr (n := n) (fun i hi => h i (by omega)), h n (by omega)]
theorem z_ors_congr {f g : Nat → Nat} : ∀ {n : Nat}, (∀ i, i < n → f i = g i) → z_ors f n = z_ors g n
  | 0, _ => rfl
  | n + 1, h => by simp only [z_ors]; rw [z_ors_congr (n := n) (fun i hi => h i (by omega)), h n (by omega)]
theorem z_ors_lt {f : Nat → Nat} {k : Nat} : ∀ {n : Nat}, (∀ i, i < n → f i < 2 ^ k) → z_ors f n < 2 ^ k
  | 0, _ => Nat.two_pow_pos k
  | n + 1, h => by simp only [z_ors]; exact Nat.or_lt_two_pow (z_ors_lt (n := n) (fun i hi => h i (by omega))) (h n (by omega))
/-- a row is filled -/
def z_fl (μ : g_St) (id m : Nat) (v : Int32) : g_St := (fun a j => if a = id ∧ j < m then v else μ.1 a j, μ.2)
theorem z_fl_0 (μ : g_St) (id : Nat) (v : Int32) : z_fl μ id 0 v = μ := by
  unfold z_fl; simp
theorem z_fl_s (μ : g_St) (id m : Nat) (v : Int32) : g_sI (z_fl μ id m v) id m v = z_fl μ id (m + 1) v := by
  apply Prod.ext
  · funext a j; rw [z_sI]; unfold z_fl
    by_cases h : a = id
    · subst h
      by_cases h2 : j = m
      · subst h2; simp
      · have e : (j < m + 1) = (j < m) := propext (by omega)
        simp [h2, e]
    · simp [h]
  · rfl
theorem z_fl_f {P : Nat → Prop} {μ : g_St} {id m : Nat} {v : Int32} (h : ¬ P id) : z_f P μ (z_fl μ id m v) :=
  ⟨fun a ha => by funext j; show (if a = id ∧ j < m then v else μ.1 a j) = μ.1 a j; rw [if_neg]; intro q; exact h (q.1 ▸ ha), rfl⟩
theorem z_fill {F a n : Nat} {v : Int32} (μ : g_St) (hn : n ≤ 2147483647) (hF : n < F) : jj_fill F a n v μ = some (z_fl μ a n v) := by
  unfold jj_fill
  have h := z_cnt0 (n := n) (X := some (z_fl μ a n v)) (A := fun f i => jj_fill_5 F a n v (Int32.ofNat n) f (nI i) (z_fl μ a i v)) (F := F) (fun f i hi => ?_) (fun f => ?_) hF
  · simp only [z_fl_0] at h; exact h
  · show jj_fill_5_b F a n v (Int32.ofNat n) _ (nI i) _ = _
    unfold jj_fill_5_b
    simp (disch := omega) only [show Int32.ofNat n = nI n from rfl, ↓reduceIte, nI_lit, z_sbind, z_rd, z_rl, z_rr, z_wr, z_wl, nI_add, z_mul, z_lt, z_le, z_eq, z_ltm1, z_m1lt, z_eqm1, z_m1eq, z_lem1, z_m1le, if_true, if_false, ite_true, ite_false, hi, z_fl_s]
  · show jj_fill_5_b F a n v (Int32.ofNat n) _ (nI n) _ = _
    unfold jj_fill_5_b
    simp (disch := omega) only [show Int32.ofNat n = nI n from rfl, ↓reduceIte, nI_lit, z_sbind, z_rd, z_rl, z_rr, z_wr, z_wl, nI_add, z_mul, z_lt, z_le, z_eq, z_ltm1, z_m1lt, z_eqm1, z_m1eq, z_lem1, z_m1le, if_true, if_false, ite_true, ite_false, Nat.lt_irrefl]
/-- complements, the lowest bit, how many bits -/
theorem z_andn (a b : Nat) : nI a &&& (nI b ^^^ (-nI 1)) = nI (a ^^^ (a &&& b)) := by
  apply Int32.toBitVec_inj.1
  have e : (-nI 1 : Int32).toBitVec = BitVec.allOnes 32 := rfl
  rw [Int32.toBitVec_and, Int32.toBitVec_xor, e]
  apply BitVec.eq_of_getLsbD_eq
  intro i hi
  simp only [nI, Int32.toBitVec_ofNat', BitVec.getLsbD_and, BitVec.getLsbD_xor, BitVec.getLsbD_ofNat, BitVec.getLsbD_allOnes, hi, decide_true, Bool.true_and, Nat.testBit_xor, Nat.testBit_and]
  cases a.testBit i <;> cases b.testBit i <;> rfl
theorem z_sub_iff {a b : Nat} : (a ^^^ (a &&& b) = 0) = (a &&& b = a) := by
  apply propext
  constructor
  · intro h
    apply Nat.eq_of_testBit_eq
    intro i
    have h2 := congrArg (fun x => x.testBit i) h
    simp only [Nat.testBit_xor, Nat.testBit_and, Nat.zero_testBit] at h2
    rw [Nat.testBit_and]
    revert h2
    cases a.testBit i <;> cases b.testBit i <;> simp
  · intro h; rw [h, Nat.xor_self]
def z_lw (a : Nat) : Nat := a &&& (256 - a)
theorem z_low : ∀ a, a < 256 → nI a &&& (-nI a) = nI (z_lw a) := by decide +kernel
def z_pc (a : Nat) : Nat := z_sum (fun i => z_bit a i) 8
theorem z_bc0 : ∀ a, a < 256 → jj_bitCount (fun _ _ => 0, fun _ _ => 0, fun _ => 0) (nI a) = some (nI (z_pc a)) := by decide +kernel
theorem z_bc {μ : g_St} {a : Nat} (h : a < 256) : jj_bitCount μ (nI a) = some (nI (z_pc a)) := z_bc0 a h
theorem z_pc_le (a : Nat) : z_pc a ≤ 8 := by
  have := z_sum_le (f := fun i => z_bit a i) (M := 1) (n := 8) (fun i _ => by have := z_bit_lt a i; show z_bit a i ≤ 1; omega)
  unfold z_pc; omega
theorem z_bits {μ : g_St} {a F : Nat} (h : a < 2147483648) (hF : 10 < F) : mm_bits F μ (nI a) = some (nI (z_pc a)) := by
  unfold mm_bits
  refine z_cnt0 (n := 8) (A := fun f i => mm_bits_4 F μ (nI a) f (nI (z_sum (fun i => z_bit a i) i)) (nI i)) (fun f i hi => ?_) (fun f => ?_) (by omega)
  · show mm_bits_4_b F μ (nI a) _ _ (nI i) = _
    unfold mm_bits_4_b
    simp (disch := omega) only [↓reduceIte, nI_lit, z_sbind, z_rd, z_rl, z_rr, z_wr, z_wl, nI_add, z_mul, z_lt, z_le, z_eq, z_ltm1, z_m1lt, z_eqm1, z_m1eq, z_lem1, z_m1le, if_true, if_false, ite_true, ite_false, z_and, z_or, z_xor, z_n31, z_shr, z_shl1, z_bit_and, z_andn, hi, z_sum]
  · show mm_bits_4_b F μ (nI a) _ _ (nI 8) = _
    unfold mm_bits_4_b
    simp (disch := omega) only [↓reduceIte, nI_lit, z_sbind, z_rd, z_rl, z_rr, z_wr, z_wl, nI_add, z_mul, z_lt, z_le, z_eq, z_ltm1, z_m1lt, z_eqm1, z_m1eq, z_lem1, z_m1le, if_true, if_false, ite_true, ite_false, Nat.lt_irrefl, z_pc]
/-- a number or NONE: 0 is NONE, k + 1 is k -/
def zE (k : Nat) : Int32 := nI k - nI 1
theorem zE_0 : zE 0 = -nI 1 := rfl
theorem zE_s (k : Nat) : zE (k + 1) = nI k := by unfold zE; rw [z_sub (by omega)]; rfl
theorem zE_pos {k : Nat} (h : k ≠ 0) : zE k = nI (k - 1) := by obtain ⟨j, rfl⟩ : ∃ j, k = j + 1 := ⟨k - 1, by omega⟩; rw [zE_s]; rfl
theorem zE_inj {a b : Nat} (ha : a < 2147483648) (hb : b < 2147483648) : (zE a = zE b) = (a = b) := by
  apply propext; constructor
  · intro h
    cases a with
    | zero =>
      cases b with
      | zero => rfl
      | succ b => rw [zE_0, zE_s, z_m1eq (by omega)] at h; exact h.elim
    | succ a =>
      cases b with
      | zero => rw [zE_0, zE_s, z_eqm1 (by omega)] at h; exact h.elim
      | succ b => rw [zE_s, zE_s, z_eq (by omega) (by omega)] at h; rw [h]
  · intro h; rw [h]
theorem zE_lt {a b : Nat} (ha : a < 2147483648) (hb : b < 2147483648) : (zE a < zE b) = (a < b) := by
  cases a with
  | zero =>
    cases b with
    | zero => apply propext; constructor
              · intro h; exact absurd h (by decide)
              · intro h; exact absurd h (by omega)
    | succ b => rw [zE_0, zE_s, z_m1lt (by omega)]; simp
  | succ a =>
    cases b with
    | zero => rw [zE_0, zE_s, z_ltm1 (by omega)]; simp
    | succ b => rw [zE_s, zE_s, z_lt (by omega) (by omega)]; simp
theorem zE_m1 {a : Nat} (ha : a < 2147483648) : (zE a = -nI 1) = (a = 0) := by rw [← zE_0, zE_inj ha (by omega)]
theorem zE_n {a b : Nat} (ha : a < 2147483648) (hb : b < 2147483647) : (zE a = nI b) = (a = b + 1) := by rw [← zE_s, zE_inj ha (by omega)]
theorem zE_lt0 {a : Nat} (ha : a < 2147483648) : (zE a < nI 0) = (a = 0) := by rw [← zE_s 0, zE_lt ha (by omega)]; exact propext (by omega)
theorem zE_le0 {a : Nat} (ha : a < 2147483648) : (nI 0 ≤ zE a) = (a ≠ 0) := by
  cases a with
  | zero => apply propext; constructor
            · intro h; exact absurd h (by decide)
            · intro h; exact absurd rfl h
  | succ a => rw [zE_s, z_le (by omega) (by omega)]; simp
theorem zE_max {a b : Nat} (ha : a < 2147483648) (hb : b < 2147483648) : g_max (zE a) (zE b) = zE (max a b) := by
  unfold g_max
  simp only [zE_lt ha hb]
  split
  · rw [Nat.max_eq_right (by omega)]
  · rw [Nat.max_eq_left (by omega)]
theorem z_max {a b : Nat} (ha : a < 2147483648) (hb : b < 2147483648) : g_max (nI a) (nI b) = nI (max a b) := by
  unfold g_max
  simp only [z_lt ha hb]
  split
  · rw [Nat.max_eq_right (by omega)]
  · rw [Nat.max_eq_left (by omega)]
theorem z_min {a b : Nat} (ha : a < 2147483648) (hb : b < 2147483648) : g_min (nI a) (nI b) = nI (min a b) := by
  unfold g_min
  simp only [z_lt hb ha]
  split
  · rw [Nat.min_eq_right (by omega)]
  · rw [Nat.min_eq_left (by omega)]
theorem z_sum_add (f g : Nat → Nat) : ∀ n, z_sum (fun i => f i + g i) n = z_sum f n + z_sum g n
  | 0 => rfl
  | n + 1 => by simp only [z_sum]; rw [z_sum_add f g n]; omega
theorem z_sum_zero {f : Nat → Nat} : ∀ {n : Nat}, (∀ i, i < n → f i = 0) → z_sum f n = 0
  | 0, _ => rfl
  | n + 1, h => by simp only [z_sum]; rw [z_sum_zero (n := n) (fun i hi => h i (by omega)), h n (by omega)]
theorem z_sum_swap (f : Nat → Nat → Nat) (m : Nat) : ∀ n, z_sum (fun i => z_sum (fun j => f i j) m) n = z_sum (fun j => z_sum (fun i => f i j) n) m
  | 0 => by simp only [z_sum]; exact (z_sum_zero (fun _ _ => rfl)).symm
  | n + 1 => by simp only [z_sum]; rw [z_sum_swap f m n, z_sum_add]
theorem z_sum_ext {f : Nat → Nat} {m : Nat} : ∀ {n : Nat}, m ≤ n → (∀ i, m ≤ i → i < n → f i = 0) → z_sum f n = z_sum f m
  | 0, h, _ => by have : m = 0 := by omega
                  subst this; rfl
  | n + 1, h, h0 => by
    by_cases e : m = n + 1
    · rw [e]
    · simp only [z_sum]; rw [z_sum_ext (n := n) (by omega) (fun i h1 h2 => h0 i h1 (by omega)), h0 n (by omega) (by omega)]; rfl
theorem z_sum_one {n k : Nat} (hk : k < n) : z_sum (fun i => if k = i then 1 else 0) n = 1 := by
  have h : ∀ m, z_sum (fun i => if k = i then 1 else 0) m = if k < m then 1 else 0 := by
    intro m
    induction m with
    | zero => rfl
    | succ m ih =>
      simp only [z_sum]; rw [ih]
      by_cases h1 : k < m
      · rw [if_pos h1, if_neg (by omega), if_pos (by omega)]
      · rw [if_neg h1]
        by_cases h2 : k = m
        · rw [if_pos h2, if_pos (by omega)]
        · rw [if_neg h2, if_neg (by omega)]
  rw [h n, if_pos hk]
/-- a row as a table -/
def z_ta (μ : g_St) (id m : Nat) (f : Nat → Int32) : g_St := (fun a j => if a = id ∧ j < m then f j else μ.1 a j, μ.2)
theorem z_ta_s {μ : g_St} {id m k : Nat} {f : Nat → Int32} {v : Int32} (hk : k < m) : g_sI (z_ta μ id m f) id k v = z_ta μ id m (fun j => if j = k then v else f j) := by
  apply Prod.ext
  · funext a j; rw [z_sI]; unfold z_ta
    by_cases h : a = id
    · subst h
      by_cases h2 : j = k
      · subst h2; simp [hk]
      · simp [h2]
    · simp [h]
  · rfl
theorem z_ta_g {μ : g_St} {id m k : Nat} {f : Nat → Int32} (hk : k < m) : (z_ta μ id m f).1 id k = f k := by unfold z_ta; simp [hk]
theorem z_ta_o {μ : g_St} {id m a : Nat} {f : Nat → Int32} (h : a ≠ id) : (z_ta μ id m f).1 a = μ.1 a := by funext j; unfold z_ta; simp [h]
theorem z_ta_2 {μ : g_St} {id m : Nat} {f : Nat → Int32} : (z_ta μ id m f).2 = μ.2 := rfl
theorem z_ta_f {P : Nat → Prop} {μ : g_St} {id m : Nat} {f : Nat → Int32} (h : ¬ P id) : z_f P μ (z_ta μ id m f) :=
  ⟨fun a ha => z_ta_o (fun e => h (e ▸ ha)), rfl⟩
theorem z_fl_ta (μ : g_St) (id m : Nat) (v : Int32) : z_fl μ id m v = z_ta μ id m (fun _ => v) := rfl
theorem z_ta_c {μ : g_St} {id m : Nat} {f g : Nat → Int32} (h : ∀ j, j < m → f j = g j) : z_ta μ id m f = z_ta μ id m g := by
  apply Prod.ext
  · funext a j; unfold z_ta
    show (if a = id ∧ j < m then f j else μ.1 a j) = (if a = id ∧ j < m then g j else μ.1 a j)
    by_cases hq : a = id ∧ j < m
    · rw [if_pos hq, if_pos hq, h j hq.2]
    · rw [if_neg hq, if_neg hq]
  · rfl
