theorem pk_us {f : Nat → Int32} {k : Nat} {x : Int32} : upd f k x k = x := if_pos rfl
theorem pk_un {f : Nat → Int32} {k j : Nat} {x : Int32} (h : j ≠ k) : upd f k x j = f j := if_neg h
theorem pk_sub {a b : Nat} (h : b ≤ a) : nI a - nI b = nI (a - b) := by
  obtain ⟨c, rfl⟩ : ∃ c, a = c + b := ⟨a - b, by omega⟩
  rw [← nI_add, Int32.add_sub_cancel, Nat.add_sub_cancel]
theorem pk_mul (a b : Nat) : nI a * nI b = nI (a * b) := (Int32.ofNat_mul a b).symm
theorem pk_div {a d : Nat} (ha : a < 2 ^ 31) (h0 : 0 < d) (hd : d < 2 ^ 31) : nI a / nI d = nI (a / d) := by
  apply Int32.toInt_inj.mp
  rw [lg_idiv_nonneg (by rw [nI_toInt ha]; omega) (by rw [nI_toInt hd]; omega), nI_toInt ha, nI_toInt hd, nI_toInt (Nat.lt_of_le_of_lt (Nat.div_le_self a d) ha)]
  first | rfl | exact (Int.natCast_ediv _ _).symm
theorem pk_sub_toInt {a b : Nat} (ha : a < 2 ^ 30) (hb : b < 2 ^ 30) : (nI a - nI b).toInt = (a : Int) - b := by
  rw [Int32.toInt_sub, nI_toInt (by omega), nI_toInt (by omega)]
  exact Int.bmod_eq_of_le (by omega) (by omega)
theorem pk_ix (x : Int32) {n : Nat} (hn : n < 2 ^ 31) : x < 0 ∨ nI n ≤ x ∨ ∃ j : Nat, j < n ∧ x = nI j := by
  by_cases h : x < 0
  · exact Or.inl h
  · obtain ⟨j, hj, rfl⟩ := nI_of h
    by_cases h2 : j < n
    · exact Or.inr (Or.inr ⟨j, h2, rfl⟩)
    · exact Or.inr (Or.inl (nI_le (by omega) hj))
theorem pk_le {x y : Int32} {A B : Prop} (a b : Nat) (f : a ≤ b → A) (g : b < a → B) (hx : x = nI a := by rfl) (hy : y = nI b := by rfl) (ha : a < 2 ^ 31 := by omega) (hb : b < 2 ^ 31 := by omega) : (x ≤ y → A) ∧ (¬ x ≤ y → B) := by
  subst hx hy
  rw [nI_leI ha hb]
  exact ⟨f, fun z => g (by omega)⟩
theorem pk_lt {x y : Int32} {A B : Prop} (a b : Nat) (f : a < b → A) (g : b ≤ a → B) (hx : x = nI a := by rfl) (hy : y = nI b := by rfl) (ha : a < 2 ^ 31 := by omega) (hb : b < 2 ^ 31 := by omega) : (x < y → A) ∧ (¬ x < y → B) := by
  subst hx hy
  rw [nI_ltI ha hb]
  exact ⟨f, fun z => g (by omega)⟩
theorem pk_eq {x y : Int32} {A B : Prop} (a b : Nat) (f : a = b → A) (g : a ≠ b → B) (hx : x = nI a := by rfl) (hy : y = nI b := by rfl) (ha : a < 2 ^ 31 := by omega) (hb : b < 2 ^ 31 := by omega) : (x = y → A) ∧ (¬ x = y → B) := by
  subst hx hy
  rw [nI_eq ha hb]
  exact ⟨f, g⟩
theorem pk_in {x : Int32} (n N : Nat) (h : n < N) (hx : x = nI n := by rfl) (hN : N < 2 ^ 31 := by omega) : vp_in x N := by
  subst hx
  exact vp_in_nI h hN
theorem pk_cl {x : Int32} (n : Nat) (hx : x = nI n := by rfl) (h : n < 2 ^ 31 := by omega) : x.toNatClampNeg = n := by
  subst hx
  exact nI_clamp h
theorem pk_loop {σ : Type} (W : Nat → Nat → σ → Prop) (I : Nat → σ → Prop) (e i0 : Nat) (s : σ) (hi : i0 ≤ e) (h0 : I i0 s) (hx : ∀ n s, I e s → W (n + 1) e s)
    (hs : ∀ n i s, i < e → I i s → (∀ s', I (i + 1) s' → W n (i + 1) s') → W (n + 1) i s) : ∃ n, W n i0 s :=
  ⟨e + 1, loop_i W I e hx hs (e + 1) i0 s hi (by omega) h0⟩
theorem pk_least (P : Nat → Prop) (h : ∃ k, P k) : ∃ k, P k ∧ ∀ j, j < k → ¬ P j := by
  obtain ⟨k, hk⟩ := h
  induction k using Nat.strongRecOn with
  | ind k ih =>
    by_cases e : ∃ j, j < k ∧ P j
    · obtain ⟨j, hj, pj⟩ := e
      exact ih j hj pj
    · exact ⟨k, hk, fun j hj pj => e ⟨j, hj, pj⟩⟩
def bt (x : Int32) (i : Nat) : Bool := x.toBitVec.getLsbD i
theorem b_ext {x y : Int32} (h : ∀ i, i < 32 → bt x i = bt y i) : x = y := Int32.toBitVec_inj.mp (BitVec.eq_of_getLsbD_eq (fun i hi => h i hi))
theorem b_or (x y : Int32) (i : Nat) : bt (x ||| y) i = (bt x i || bt y i) := by unfold bt; rw [Int32.toBitVec_or, BitVec.getLsbD_or]
theorem b_and (x y : Int32) (i : Nat) : bt (x &&& y) i = (bt x i && bt y i) := by unfold bt; rw [Int32.toBitVec_and, BitVec.getLsbD_and]
theorem b_xor (x y : Int32) (i : Nat) : bt (x ^^^ y) i = (bt x i ^^ bt y i) := by unfold bt; rw [Int32.toBitVec_xor, BitVec.getLsbD_xor]
theorem b_m1 : ∀ i, i < 32 → bt (-1) i = true := by decide +kernel
theorem b_0 (i : Nat) : bt 0 i = false := BitVec.getLsbD_zero
theorem s_l : ∀ n, n < 32 → ((nI n &&& 31).toBitVec.smod 32).toNat = n := by decide +kernel
theorem b_shl (n : Nat) (hn : n < 32) (x : Int32) {i : Nat} (hi : i < 32) : bt (x <<< (nI n &&& 31)) i = (decide (n ≤ i) && bt x (i - n)) := by
  unfold bt
  rw [Int32.toBitVec_shiftLeft]
  show (x.toBitVec <<< ((nI n &&& 31).toBitVec.smod 32).toNat).getLsbD i = _
  rw [s_l n hn, BitVec.getLsbD_shiftLeft]
  rcases Nat.lt_or_ge i n with h | h
  · simp [h, Nat.not_le.mpr h]
  · simp [hi, h, Nat.not_lt.mpr h]
/-! own base rows -/
def rt_v (a : Nat → Int32) (j : Nat) : Nat := (a j).toNatClampNeg
def rt_ok (a : Nat → Int32) (n M : Nat) : Prop := ∀ j, j < n → a j = nI (rt_v a j) ∧ rt_v a j ≤ M
theorem rt_v_of {a : Nat → Int32} {j v : Nat} (h : a j = nI v) (hv : v < 2 ^ 31) : rt_v a j = v := by
  unfold rt_v; rw [h]; exact nI_clamp hv
theorem rt_okI {a : Nat → Int32} {n M : Nat} (hM : M < 2 ^ 31) (h : ∀ j, j < n → ∃ v, v ≤ M ∧ a j = nI v) : rt_ok a n M := by
  intro j hj
  obtain ⟨v, hv, e⟩ := h j hj
  have := rt_v_of e (by omega)
  rw [this]; exact ⟨e, hv⟩
theorem rt_vu {a : Nat → Int32} {k v : Nat} (hv : v < 2 ^ 31) (j : Nat) : rt_v (upd a k (nI v)) j = if j = k then v else rt_v a j := by
  unfold rt_v upd
  by_cases h : j = k
  · rw [if_pos h, if_pos h]; exact nI_clamp hv
  · rw [if_neg h, if_neg h]
theorem rt_oku {a : Nat → Int32} {n M k v : Nat} (h : rt_ok a n M) (hv : v ≤ M) (hM : M < 2 ^ 31) : rt_ok (upd a k (nI v)) n M := by
  intro j hj
  rw [rt_vu (by omega)]
  unfold upd
  by_cases e : j = k
  · rw [if_pos e, if_pos e]; exact ⟨rfl, hv⟩
  · rw [if_neg e, if_neg e]; exact h j hj
theorem rt_okM {a : Nat → Int32} {n m M : Nat} (h : rt_ok a n m) (hM : m ≤ M) : rt_ok a n M := fun j hj => ⟨(h j hj).1, Nat.le_trans (h j hj).2 hM⟩
theorem rt_ix (a b : Nat) : nI a * 12 + nI b = nI (a * 12 + b) := by
  show nI a * nI 12 + nI b = _
  rw [pk_mul, nI_add]
theorem rt_iy (a b : Nat) : 12 * nI a + nI b = nI (a * 12 + b) := by
  show nI 12 * nI a + nI b = _
  rw [pk_mul, nI_add, Nat.mul_comm]
theorem rt_cx {a b : Nat} (ha : a < 12) (hb : b < 12) : (nI a * 12 + nI b).toNatClampNeg = a * 12 + b := by
  rw [rt_ix]; exact nI_clamp (by omega)
theorem rt_cy {a b : Nat} (ha : a < 12) (hb : b < 12) : (12 * nI a + nI b).toNatClampNeg = a * 12 + b := by
  rw [rt_iy]; exact nI_clamp (by omega)
theorem rt_inx {a b : Nat} (ha : a < 12) (hb : b < 12) : vp_in (nI a * 12 + nI b) 144 := by
  rw [rt_ix]; exact vp_in_nI (by omega) (by omega)
theorem rt_iny {a b : Nat} (ha : a < 12) (hb : b < 12) : vp_in (12 * nI a + nI b) 144 := by
  rw [rt_iy]; exact vp_in_nI (by omega) (by omega)
def rt_t (a : Nat → Int32) (s t : Nat) : Nat := rt_v a (s * 12 + t)
theorem rt_tu {a : Nat → Int32} {s t v : Nat} (hv : v < 2 ^ 31) (ht : t < 12) (x y : Nat) (hy : y < 12) : rt_t (upd a (s * 12 + t) (nI v)) x y = if x = s ∧ y = t then v else rt_t a x y := by
  unfold rt_t
  rw [rt_vu hv]
  by_cases h : x * 12 + y = s * 12 + t
  · rw [if_pos h, if_pos (by omega)]
  · rw [if_neg h, if_neg (by omega)]
theorem rt_tok {a : Nat → Int32} {M s t : Nat} (h : rt_ok a 144 M) (hs : s < 12) (ht : t < 12) : a (s * 12 + t) = nI (rt_t a s t) ∧ rt_t a s t ≤ M := h _ (by omega)
/-! bits -/
def rt_b (x : Int32) (k : Nat) : Prop := ¬ (x &&& ((1 : Int32) <<< (nI k &&& 31))) = 0
theorem rt_b1 : ∀ j, j < 32 → bt 1 j = decide (j = 0) := by decide +kernel
theorem rt_bm {k i : Nat} (hk : k < 32) (hi : i < 32) : bt ((1 : Int32) <<< (nI k &&& 31)) i = decide (i = k) := by
  rw [b_shl k hk 1 hi]
  by_cases h : k ≤ i
  · rw [rt_b1 _ (by omega)]
    by_cases e : i = k
    · subst e; simp
    · simp [e, h]; omega
  · have : ¬ i = k := by omega
    simp [h, this]
theorem rt_b_bt {x : Int32} {k : Nat} (hk : k < 32) : rt_b x k ↔ bt x k = true := by
  unfold rt_b
  constructor
  · intro h
    by_cases z : bt x k = true
    · exact z
    · exfalso; apply h
      apply b_ext
      intro i hi
      rw [b_and, rt_bm hk hi, b_0]
      by_cases e : i = k
      · subst e; simp at z; simp [z]
      · simp [e]
  · intro h z
    have : bt (x &&& ((1 : Int32) <<< (nI k &&& 31))) k = false := by rw [z]; exact b_0 k
    rw [b_and, rt_bm hk hk, h] at this
    simp at this
theorem rt_b_or {x : Int32} {k j : Nat} (hk : k < 32) (hj : j < 32) : rt_b (x ||| ((1 : Int32) <<< (nI j &&& 31))) k ↔ rt_b x k ∨ k = j := by
  rw [rt_b_bt hk, rt_b_bt hk, b_or, rt_bm hj hk]; simp
theorem rt_b_clr {x : Int32} {k j : Nat} (hk : k < 32) (hj : j < 32) : rt_b (x &&& (((1 : Int32) <<< (nI j &&& 31)) ^^^ (-1))) k ↔ rt_b x k ∧ k ≠ j := by
  rw [rt_b_bt hk, rt_b_bt hk, b_and, b_xor, rt_bm hj hk, b_m1 k hk]; simp
theorem rt_b_ext {x y : Int32} (h : ∀ k, k < 32 → (rt_b x k ↔ rt_b y k)) : x = y := by
  apply b_ext
  intro i hi
  have := h i hi
  rw [rt_b_bt hi, rt_b_bt hi] at this
  exact Bool.eq_iff_iff.mpr this
theorem rt_b_0 {k : Nat} (hk : k < 32) : ¬ rt_b 0 k := by
  rw [rt_b_bt hk, b_0]; simp
/-! counting -/
def rt_c (P : Nat → Bool) : Nat → Nat
  | 0 => 0
  | n + 1 => rt_c P n + (if P n = true then 1 else 0)
theorem rt_c_le (P : Nat → Bool) : ∀ n, rt_c P n ≤ n := by
  intro n
  induction n with
  | zero => exact Nat.le_refl _
  | succ n ih => unfold rt_c; split <;> omega
theorem rt_c_mono {P Q : Nat → Bool} : ∀ n, (∀ j, j < n → P j = true → Q j = true) → rt_c P n ≤ rt_c Q n := by
  intro n
  induction n with
  | zero => intro _; exact Nat.le_refl _
  | succ n ih =>
    intro h
    have h1 := ih (fun j hj => h j (by omega))
    have h2 := h n (by omega)
    unfold rt_c
    by_cases p : P n = true
    · rw [if_pos p, if_pos (h2 p)]; omega
    · rw [if_neg p]; omega
theorem rt_c_lt {P Q : Nat → Bool} (k : Nat) (hP : ¬ P k = true) (hQ : Q k = true) : ∀ n, k < n → (∀ j, j < n → P j = true → Q j = true) → rt_c P n < rt_c Q n := by
  intro n
  induction n with
  | zero => intro h; omega
  | succ n ih =>
    intro hk h
    unfold rt_c
    by_cases e : k = n
    · subst e
      have := rt_c_mono k (fun j hj => h j (by omega))
      rw [if_neg hP, if_pos hQ]; omega
    · have h1 := ih (by omega) (fun j hj => h j (by omega))
      have h2 := h n (by omega)
      by_cases p : P n = true
      · rw [if_pos p, if_pos (h2 p)]; omega
      · rw [if_neg p]; omega
theorem rt_c_all {P : Nat → Bool} {n : Nat} (h : n ≤ rt_c P n) : ∀ j, j < n → P j = true := by
  intro j hj
  by_cases p : P j = true
  · exact p
  · have h1 := rt_c_lt (P := P) (Q := fun _ => true) j p rfl n hj (fun _ _ _ => rfl)
    have h2 := rt_c_le (fun _ => true) n
    omega
