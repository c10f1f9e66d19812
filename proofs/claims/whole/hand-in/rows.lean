section
theorem pk_us {f : Nat → Int32} {k : Nat} {x : Int32} : upd f k x k = x := if_pos rfl
theorem pk_un {f : Nat → Int32} {k j : Nat} {x : Int32} (h : j ≠ k) : upd f k x j = f j := if_neg h
theorem pk_sub {a b : Nat} (h : b ≤ a) : nI a - nI b = nI (a - b) := by
  obtain ⟨c, rfl⟩ : ∃ c, a = c + b := ⟨a - b, by omega⟩
  rw [← nI_add, Int32.add_sub_cancel, Nat.add_sub_cancel]
theorem pk_mul (a b : Nat) : nI a * nI b = nI (a * b) := (Int32.ofNat_mul a b).symm
theorem pk_div {a d : Nat} (ha : a < 2 ^ 31) (h0 : 0 < d) (hd : d < 2 ^ 31) : nI a / nI d = nI (a / d) := by
  apply Int32.toInt_inj.mp
  rw [lg_idiv_nonneg (by rw [nI_toInt ha]; omega) (by rw [nI_toInt hd]; omega), nI_toInt ha, nI_toInt hd, nI_toInt (Nat.lt_of_le_of_lt (Nat.div_le_self a d) ha)]
  first | rfl | exact (Int.natCast_ediv _ _).symm
theorem pk_sub_toInt {a b : Nat} (ha : a < 2 ^ 30) (hb : b < 2 ^ 30) : (nI a - nI b).toInt = (a : Int) - b := by
  rw [Int32.toInt_sub, nI_toInt (by omega), nI_toInt (by omega)]
  exact Int.bmod_eq_of_le (by omega) (by omega)
theorem pk_ix (x : Int32) {n : Nat} (hn : n < 2 ^ 31) : x < 0 ∨ nI n ≤ x ∨ ∃ j : Nat, j < n ∧ x = nI j := by
  by_cases h : x < 0
  · exact Or.inl h
  · obtain ⟨j, hj, rfl⟩ := nI_of h
    by_cases h2 : j < n
    · exact Or.inr (Or.inr ⟨j, h2, rfl⟩)
    · exact Or.inr (Or.inl (nI_le (by omega) hj))
theorem pk_le {x y : Int32} {A B : Prop} (a b : Nat) (f : a ≤ b → A) (g : b < a → B) (hx : x = nI a := by rfl) (hy : y = nI b := by rfl) (ha : a < 2 ^ 31 := by omega) (hb : b < 2 ^ 31 := by omega) : (x ≤ y → A) ∧ (¬ x ≤ y → B) := by
  subst hx hy
  rw [nI_leI ha hb]
  exact ⟨f, fun z => g (by omega)⟩
theorem pk_lt {x y : Int32} {A B : Prop} (a b : Nat) (f : a < b → A) (g : b ≤ a → B) (hx : x = nI a := by rfl) (hy : y = nI b := by rfl) (ha : a < 2 ^ 31 := by omega) (hb : b < 2 ^ 31 := by omega) : (x < y → A) ∧ (¬ x < y → B) := by
  subst hx hy
  rw [nI_ltI ha hb]
  exact ⟨f, fun z => g (by omega)⟩
theorem pk_eq {x y : Int32} {A B : Prop} (a b : Nat) (f : a = b → A) (g : a ≠ b → B) (hx : x = nI a := by rfl) (hy : y = nI b := by rfl) (ha : a < 2 ^ 31 := by omega) (hb : b < 2 ^ 31 := by omega) : (x = y → A) ∧ (¬ x = y → B) := by
  subst hx hy
  rw [nI_eq ha hb]
  exact ⟨f, g⟩
theorem pk_in {x : Int32} (n N : Nat) (h : n < N) (hx : x = nI n := by rfl) (hN : N < 2 ^ 31 := by omega) : vp_in x N := by
  subst hx
  exact vp_in_nI h hN
theorem pk_cl {x : Int32} (n : Nat) (hx : x = nI n := by rfl) (h : n < 2 ^ 31 := by omega) : x.toNatClampNeg = n := by
  subst hx
  exact nI_clamp h
theorem pk_loop {σ : Type} (W : Nat → Nat → σ → Prop) (I : Nat → σ → Prop) (e i0 : Nat) (s : σ) (hi : i0 ≤ e) (h0 : I i0 s) (hx : ∀ n s, I e s → W (n + 1) e s)
    (hs : ∀ n i s, i < e → I i s → (∀ s', I (i + 1) s' → W n (i + 1) s') → W (n + 1) i s) : ∃ n, W n i0 s :=
  ⟨e + 1, loop_i W I e hx hs (e + 1) i0 s hi (by omega) h0⟩
theorem pk_least (P : Nat → Prop) (h : ∃ k, P k) : ∃ k, P k ∧ ∀ j, j < k → ¬ P j := by
  obtain ⟨k, hk⟩ := h
  induction k using Nat.strongRecOn with
  | ind k ih =>
    by_cases e : ∃ j, j < k ∧ P j
    · obtain ⟨j, hj, pj⟩ := e
      exact ih j hj pj
    · exact ⟨k, hk, fun j hj pj => e ⟨j, hj, pj⟩⟩
def bt (x : Int32) (i : Nat) : Bool := x.toBitVec.getLsbD i
theorem b_ext {x y : Int32} (h : ∀ i, i < 32 → bt x i = bt y i) : x = y := Int32.toBitVec_inj.mp (BitVec.eq_of_getLsbD_eq (fun i hi => h i hi))
theorem b_or (x y : Int32) (i : Nat) : bt (x ||| y) i = (bt x i || bt y i) := by unfold bt; rw [Int32.toBitVec_or, BitVec.getLsbD_or]
theorem b_and (x y : Int32) (i : Nat) : bt (x &&& y) i = (bt x i && bt y i) := by unfold bt; rw [Int32.toBitVec_and, BitVec.getLsbD_and]
theorem b_xor (x y : Int32) (i : Nat) : bt (x ^^^ y) i = (bt x i ^^ bt y i) := by unfold bt; rw [Int32.toBitVec_xor, BitVec.getLsbD_xor]
theorem b_m1 : ∀ i, i < 32 → bt (-1) i = true := by decide +kernel
theorem b_0 (i : Nat) : bt 0 i = false := BitVec.getLsbD_zero
theorem s_l : ∀ n, n < 32 → ((nI n &&& 31).toBitVec.smod 32).toNat = n := by decide +kernel
theorem b_shl (n : Nat) (hn : n < 32) (x : Int32) {i : Nat} (hi : i < 32) : bt (x <<< (nI n &&& 31)) i = (decide (n ≤ i) && bt x (i - n)) := by
  unfold bt
  rw [Int32.toBitVec_shiftLeft]
  show (x.toBitVec <<< ((nI n &&& 31).toBitVec.smod 32).toNat).getLsbD i = _
  rw [s_l n hn, BitVec.getLsbD_shiftLeft]
  rcases Nat.lt_or_ge i n with h | h
  · simp [h, Nat.not_le.mpr h]
  · simp [hi, h, Nat.not_lt.mpr h]
/-! own base rows -/
def rt_v (a : Nat → Int32) (j : Nat) : Nat := (a j).toNatClampNeg
def rt_ok (a : Nat → Int32) (n M : Nat) : Prop := ∀ j, j < n → a j = nI (rt_v a j) ∧ rt_v a j ≤ M
theorem rt_v_of {a : Nat → Int32} {j v : Nat} (h : a j = nI v) (hv : v < 2 ^ 31) : rt_v a j = v := by
  unfold rt_v; rw [h]; exact nI_clamp hv
theorem rt_okI {a : Nat → Int32} {n M : Nat} (hM : M < 2 ^ 31) (h : ∀ j, j < n → ∃ v, v ≤ M ∧ a j = nI v) : rt_ok a n M := by
  intro j hj
  obtain ⟨v, hv, e⟩ := h j hj
  have := rt_v_of e (by omega)
  rw [this]; exact ⟨e, hv⟩
theorem rt_vu {a : Nat → Int32} {k v : Nat} (hv : v < 2 ^ 31) (j : Nat) : rt_v (upd a k (nI v)) j = if j = k then v else rt_v a j := by
  unfold rt_v upd
  by_cases h : j = k
  · rw [if_pos h, if_pos h]; exact nI_clamp hv
  · rw [if_neg h, if_neg h]
theorem rt_oku {a : Nat → Int32} {n M k v : Nat} (h : rt_ok a n M) (hv : v ≤ M) (hM : M < 2 ^ 31) : rt_ok (upd a k (nI v)) n M := by
  intro j hj
  rw [rt_vu (by omega)]
  unfold upd
  by_cases e : j = k
  · rw [if_pos e, if_pos e]; exact ⟨rfl, hv⟩
  · rw [if_neg e, if_neg e]; exact h j hj
theorem rt_okM {a : Nat → Int32} {n m M : Nat} (h : rt_ok a n m) (hM : m ≤ M) : rt_ok a n M := fun j hj => ⟨(h j hj).1, Nat.le_trans (h j hj).2 hM⟩
theorem rt_ix (a b : Nat) : nI a * 12 + nI b = nI (a * 12 + b) := by
  show nI a * nI 12 + nI b = _
  rw [pk_mul, nI_add]
theorem rt_iy (a b : Nat) : 12 * nI a + nI b = nI (a * 12 + b) := by
  show nI 12 * nI a + nI b = _
  rw [pk_mul, nI_add, Nat.mul_comm]
theorem rt_cx {a b : Nat} (ha : a < 12) (hb : b < 12) : (nI a * 12 + nI b).toNatClampNeg = a * 12 + b := by
  rw [rt_ix]; exact nI_clamp (by omega)
theorem rt_cy {a b : Nat} (ha : a < 12) (hb : b < 12) : (12 * nI a + nI b).toNatClampNeg = a * 12 + b := by
  rw [rt_iy]; exact nI_clamp (by omega)
theorem rt_inx {a b : Nat} (ha : a < 12) (hb : b < 12) : vp_in (nI a * 12 + nI b) 144 := by
  rw [rt_ix]; exact vp_in_nI (by omega) (by omega)
theorem rt_iny {a b : Nat} (ha : a < 12) (hb : b < 12) : vp_in (12 * nI a + nI b) 144 := by
  rw [rt_iy]; exact vp_in_nI (by omega) (by omega)
def rt_t (a : Nat → Int32) (s t : Nat) : Nat := rt_v a (s * 12 + t)
theorem rt_tu {a : Nat → Int32} {s t v : Nat} (hv : v < 2 ^ 31) (ht : t < 12) (x y : Nat) (hy : y < 12) : rt_t (upd a (s * 12 + t) (nI v)) x y = if x = s ∧ y = t then v else rt_t a x y := by
  unfold rt_t
  rw [rt_vu hv]
  by_cases h : x * 12 + y = s * 12 + t
  · rw [if_pos h, if_pos (by omega)]
  · rw [if_neg h, if_neg (by omega)]
theorem rt_tok {a : Nat → Int32} {M s t : Nat} (h : rt_ok a 144 M) (hs : s < 12) (ht : t < 12) : a (s * 12 + t) = nI (rt_t a s t) ∧ rt_t a s t ≤ M := h _ (by omega)
/-! bits -/
def rt_b (x : Int32) (k : Nat) : Prop := ¬ (x &&& ((1 : Int32) <<< (nI k &&& 31))) = 0
theorem rt_b1 : ∀ j, j < 32 → bt 1 j = decide (j = 0) := by decide +kernel
theorem rt_bm {k i : Nat} (hk : k < 32) (hi : i < 32) : bt ((1 : Int32) <<< (nI k &&& 31)) i = decide (i = k) := by
  rw [b_shl k hk 1 hi]
  by_cases h : k ≤ i
  · rw [rt_b1 _ (by omega)]
    by_cases e : i = k
    · subst e; simp
    · simp [e, h]; omega
  · have : ¬ i = k := by omega
    simp [h, this]
theorem rt_b_bt {x : Int32} {k : Nat} (hk : k < 32) : rt_b x k ↔ bt x k = true := by
  unfold rt_b
  constructor
  · intro h
    by_cases z : bt x k = true
    · exact z
    · exfalso; apply h
      apply b_ext
      intro i hi
      rw [b_and, rt_bm hk hi, b_0]
      by_cases e : i = k
      · subst e; simp at z; simp [z]
      · simp [e]
  · intro h z
    have : bt (x &&& ((1 : Int32) <<< (nI k &&& 31))) k = false := by rw [z]; exact b_0 k
    rw [b_and, rt_bm hk hk, h] at this
    simp at this
theorem rt_b_or {x : Int32} {k j : Nat} (hk : k < 32) (hj : j < 32) : rt_b (x ||| ((1 : Int32) <<< (nI j &&& 31))) k ↔ rt_b x k ∨ k = j := by
  rw [rt_b_bt hk, rt_b_bt hk, b_or, rt_bm hj hk]; simp
theorem rt_b_clr {x : Int32} {k j : Nat} (hk : k < 32) (hj : j < 32) : rt_b (x &&& (((1 : Int32) <<< (nI j &&& 31)) ^^^ (-1))) k ↔ rt_b x k ∧ k ≠ j := by
  rw [rt_b_bt hk, rt_b_bt hk, b_and, b_xor, rt_bm hj hk, b_m1 k hk]; simp
theorem rt_b_ext {x y : Int32} (h : ∀ k, k < 32 → (rt_b x k ↔ rt_b y k)) : x = y := by
  apply b_ext
  intro i hi
  have := h i hi
  rw [rt_b_bt hi, rt_b_bt hi] at this
  exact Bool.eq_iff_iff.mpr this
theorem rt_b_0 {k : Nat} (hk : k < 32) : ¬ rt_b 0 k := by
  rw [rt_b_bt hk, b_0]; simp
/-! counting -/
def rt_c (P : Nat → Bool) : Nat → Nat
  | 0 => 0
  | n + 1 => rt_c P n + (if P n = true then 1 else 0)
theorem rt_c_le (P : Nat → Bool) : ∀ n, rt_c P n ≤ n := by
  intro n
  induction n with
  | zero => exact Nat.le_refl _
  | succ n ih => unfold rt_c; split <;> omega
theorem rt_c_mono {P Q : Nat → Bool} : ∀ n, (∀ j, j < n → P j = true → Q j = true) → rt_c P n ≤ rt_c Q n := by
  intro n
  induction n with
  | zero => intro _; exact Nat.le_refl _
  | succ n ih =>
    intro h
    have h1 := ih (fun j hj => h j (by omega))
    have h2 := h n (by omega)
    unfold rt_c
    by_cases p : P n = true
    · rw [if_pos p, if_pos (h2 p)]; omega
    · rw [if_neg p]; omega
theorem rt_c_lt {P Q : Nat → Bool} (k : Nat) (hP : ¬ P k = true) (hQ : Q k = true) : ∀ n, k < n → (∀ j, j < n → P j = true → Q j = true) → rt_c P n < rt_c Q n := by
  intro n
  induction n with
  | zero => intro h; omega
  | succ n ih =>
    intro hk h
    unfold rt_c
    by_cases e : k = n
    · subst e
      have := rt_c_mono k (fun j hj => h j (by omega))
      rw [if_neg hP, if_pos hQ]; omega
    · have h1 := ih (by omega) (fun j hj => h j (by omega))
      have h2 := h n (by omega)
      by_cases p : P n = true
      · rw [if_pos p, if_pos (h2 p)]; omega
      · rw [if_neg p]; omega
theorem rt_c_all {P : Nat → Bool} {n : Nat} (h : n ≤ rt_c P n) : ∀ j, j < n → P j = true := by
  intro j hj
  by_cases p : P j = true
  · exact p
  · have h1 := rt_c_lt (P := P) (Q := fun _ => true) j p rfl n hj (fun _ _ _ => rfl)
    have h2 := rt_c_le (fun _ => true) n
    omega
end
section
/-! the net as a relation e a b l, distances by their local properties -/
def rt_net (e : Nat → Nat → Nat → Prop) : Prop := ∀ a b l, e a b l → a < 12 ∧ b < 12 ∧ 1 ≤ l
def rt_SS (e : Nat → Nat → Nat → Prop) (s : Nat) (d : Nat → Nat) : Prop :=
  d s = 0 ∧ (∀ t, t < 12 → d t ≤ 1000000) ∧ (∀ a b l, e a b l → d b ≤ d a + l) ∧
  (∀ t, t < 12 → t ≠ s → d t = 1000000 ∨ ∃ a l, e a t l ∧ d t = d a + l)
theorem rt_SS_le {e : Nat → Nat → Nat → Prop} {s : Nat} {d d' : Nat → Nat} (N : rt_net e) (h : rt_SS e s d) (h' : rt_SS e s d') : ∀ n t, t < 12 → d' t ≤ n → d t ≤ d' t := by
  intro n
  induction n with
  | zero =>
    intro t ht hn
    by_cases hs : t = s
    · subst hs; rw [h.1]; omega
    · rcases h'.2.2.2 t ht hs with q | ⟨a, l, q, r⟩
      · omega
      · have := (N a t l q).2.2
        omega
  | succ n ih =>
    intro t ht hn
    by_cases hs : t = s
    · subst hs; rw [h.1]; omega
    · rcases h'.2.2.2 t ht hs with q | ⟨a, l, q, r⟩
      · have := h.2.1 t ht
        omega
      · have hl := N a t l q
        have h1 := ih a hl.1 (by omega)
        have h2 := h.2.2.1 a t l q
        omega
theorem rt_SS_eq {e : Nat → Nat → Nat → Prop} {s : Nat} {d d' : Nat → Nat} (N : rt_net e) (h : rt_SS e s d) (h' : rt_SS e s d') (t : Nat) (ht : t < 12) : d t = d' t :=
  Nat.le_antisymm (rt_SS_le N h h' _ t ht (Nat.le_refl _)) (rt_SS_le N h' h _ t ht (Nat.le_refl _))
def rt_AP (e : Nat → Nat → Nat → Prop) (D : Nat → Nat → Nat) : Prop := ∀ s, s < 12 → rt_SS e s (D s)
theorem rt_el {e : Nat → Nat → Nat → Prop} {D : Nat → Nat → Nat} (N : rt_net e) (h : rt_AP e D) {a b l : Nat} (q : e a b l) : D a b ≤ l := by
  have h1 := h a (N a b l q).1
  have h2 := h1.2.2.1 a b l q
  have h3 := h1.1
  omega
theorem rt_tri' {e : Nat → Nat → Nat → Prop} {D : Nat → Nat → Nat} (N : rt_net e) (h : rt_AP e D) : ∀ n s p t, s < 12 → p < 12 → t < 12 → D p t ≤ n → D s t ≤ D s p + D p t := by
  intro n
  induction n with
  | zero =>
    intro s p t hs hp ht hn
    by_cases c : t = p
    · subst c; omega
    · rcases (h p hp).2.2.2 t ht c with q | ⟨a, l, q, r⟩
      · omega
      · have := (N a t l q).2.2
        omega
  | succ n ih =>
    intro s p t hs hp ht hn
    by_cases c : t = p
    · subst c; omega
    · rcases (h p hp).2.2.2 t ht c with q | ⟨a, l, q, r⟩
      · have := (h s hs).2.1 t ht
        omega
      · have hl := N a t l q
        have h1 := ih s p a hs hp hl.1 (by omega)
        have h2 := (h s hs).2.2.1 a t l q
        omega
theorem rt_tri {e : Nat → Nat → Nat → Prop} {D : Nat → Nat → Nat} (N : rt_net e) (h : rt_AP e D) {s p t : Nat} (hs : s < 12) (hp : p < 12) (ht : t < 12) : D s t ≤ D s p + D p t :=
  rt_tri' N h _ s p t hs hp ht (Nat.le_refl _)
theorem rt_first' {e : Nat → Nat → Nat → Prop} {D : Nat → Nat → Nat} (N : rt_net e) (h : rt_AP e D) : ∀ n s t, s < 12 → t < 12 → s ≠ t → D s t ≤ n → D s t = 1000000 ∨ ∃ b l, e s b l ∧ D s t = l + D b t := by
  intro n
  induction n with
  | zero =>
    intro s t hs ht c hn
    rcases (h s hs).2.2.2 t ht (fun z => c z.symm) with q | ⟨a, l, q, r⟩
    · exact Or.inl q
    · have := (N a t l q).2.2
      omega
  | succ n ih =>
    intro s t hs ht c hn
    rcases (h s hs).2.2.2 t ht (fun z => c z.symm) with q | ⟨a, l, q, r⟩
    · exact Or.inl q
    · have hl := N a t l q
      by_cases z : s = a
      · subst z
        refine Or.inr ⟨t, l, q, ?_⟩
        have h1 := (h s hs).1
        have h2 := (h t ht).1
        omega
      · rcases ih s a hs hl.1 z (by omega) with w | ⟨b, l', w, r'⟩
        · have := (h s hs).2.1 t ht
          omega
        · refine Or.inr ⟨b, l', w, ?_⟩
          have hb := N s b l' w
          have h1 := rt_el N h w
          have h2 := rt_tri N h hs hb.2.1 ht
          have h3 := (h b hb.2.1).2.2.1 a t l q
          omega
theorem rt_first {e : Nat → Nat → Nat → Prop} {D : Nat → Nat → Nat} (N : rt_net e) (h : rt_AP e D) {s t : Nat} (hs : s < 12) (ht : t < 12) (c : s ≠ t) : D s t = 1000000 ∨ ∃ b l, e s b l ∧ D s t = l + D b t :=
  rt_first' N h _ s t hs ht c (Nat.le_refl _)
def rt_rev (e : Nat → Nat → Nat → Prop) : Nat → Nat → Nat → Prop := fun a b l => e b a l
def rt_tr (D : Nat → Nat → Nat) : Nat → Nat → Nat := fun s t => D t s
theorem rt_rev_net {e : Nat → Nat → Nat → Prop} (N : rt_net e) : rt_net (rt_rev e) := fun a b l q => ⟨(N b a l q).2.1, (N b a l q).1, (N b a l q).2.2⟩
theorem rt_rev_AP {e : Nat → Nat → Nat → Prop} {D : Nat → Nat → Nat} (N : rt_net e) (h : rt_AP e D) : rt_AP (rt_rev e) (rt_tr D) := by
  intro s hs
  refine ⟨(h s hs).1, fun t ht => (h t ht).2.1 s hs, ?_, ?_⟩
  · intro a b l q
    have q' : e b a l := q
    have hn := N b a l q'
    have h1 := rt_el N h q'
    have h2 := rt_tri N h hn.1 hn.2.1 hs
    show D b s ≤ D a s + l
    omega
  · intro t ht c
    rcases rt_first N h ht hs c with w | ⟨b, l, w, r⟩
    · exact Or.inl w
    · refine Or.inr ⟨b, l, w, ?_⟩
      show D t s = D b s + l
      omega
/-! Floyd and Warshall -/
def rt_FW (e : Nat → Nat → Nat → Prop) (p : Nat) (T : Nat → Nat → Nat) : Prop :=
  (∀ a, a < 12 → T a a = 0) ∧
  (∀ a b, a < 12 → b < 12 → T a b ≤ 1000000) ∧
  (∀ a b l, e a b l → T a b ≤ l) ∧
  (∀ a b, a < 12 → b < 12 → a ≠ b → 1 ≤ T a b) ∧
  (∀ a b, a < 12 → b < 12 → a ≠ b → T a b = 1000000 ∨ (∃ l, e a b l ∧ l ≤ T a b) ∨ ∃ q, q < 12 ∧ q ≠ a ∧ q ≠ b ∧ T a q + T q b ≤ T a b) ∧
  (∀ q a b, q < p → a < 12 → b < 12 → T a b ≤ T a q + T q b) ∧
  (∀ a b, a < 12 → b < 12 → T a b < 1000000 → T a b ≤ 30 * 2 ^ p)
theorem rt_FW_step {e : Nat → Nat → Nat → Prop} (N : rt_net e) {p : Nat} {T T' : Nat → Nat → Nat} (hp : p < 12) (h : rt_FW e p T) (h' : ∀ a b, a < 12 → b < 12 → T' a b = min (T a b) (T a p + T p b)) : rt_FW e (p + 1) T' := by
  obtain ⟨h1, h2, h3, h4, h5, h6, h7⟩ := h
  have hpp := h1 p hp
  have hcol : ∀ a, a < 12 → T' a p = T a p := fun a ha => by rw [h' a p ha hp]; omega
  have hrow : ∀ b, b < 12 → T' p b = T p b := fun b hb => by rw [h' p b hp hb]; omega
  have hle : ∀ a b, a < 12 → b < 12 → T' a b ≤ T a b := fun a b ha hb => by rw [h' a b ha hb]; omega
  refine ⟨?_, ?_, ?_, ?_, ?_, ?_, ?_⟩
  · intro a ha
    have := hle a a ha ha
    have := h1 a ha
    omega
  · intro a b ha hb
    have := hle a b ha hb
    have := h2 a b ha hb
    omega
  · intro a b l q
    have hn := N a b l q
    have := hle a b hn.1 hn.2.1
    have := h3 a b l q
    omega
  · intro a b ha hb c
    have w := h4 a b ha hb c
    by_cases c1 : a = p
    · subst c1; rw [hrow b hb]; exact w
    · have := h4 a p ha hp c1
      rw [h' a b ha hb]; omega
  · intro a b ha hb c
    have e1 := h' a b ha hb
    by_cases c0 : T' a b = T a b
    · rw [c0]
      rcases h5 a b ha hb c with w | ⟨l, w, r⟩ | ⟨q, hq, w1, w2, r⟩
      · exact Or.inl w
      · exact Or.inr (Or.inl ⟨l, w, r⟩)
      · refine Or.inr (Or.inr ⟨q, hq, w1, w2, ?_⟩)
        have := hle a q ha hq
        have := hle q b hq hb
        omega
    · have e2 : T' a b = T a p + T p b := by omega
      refine Or.inr (Or.inr ⟨p, hp, ?_, ?_, ?_⟩)
      · intro z; subst z; rw [hrow b hb] at c0; exact c0 rfl
      · intro z; subst z; rw [hcol a ha] at c0; exact c0 rfl
      · rw [hcol a ha, hrow b hb]; omega
  · intro q a b hq ha hb
    have e1 := h' a b ha hb
    by_cases c : q = p
    · subst c; rw [hcol a ha, hrow b hb]; omega
    · have hq' : q < 12 := by omega
      have e2 := h' a q ha hq'
      have e3 := h' q b hq' hb
      have g1 := h6 q a b (by omega) ha hb
      have g2 := h6 q p b (by omega) hp hb
      have g3 := h6 q a p (by omega) ha hp
      omega
  · intro a b ha hb w
    have e1 := h' a b ha hb
    have g1 := h7 a b ha hb
    have g2 := h7 a p ha hp
    have g3 := h7 p b hp hb
    rw [Nat.pow_succ]
    generalize 2 ^ p = m at *
    omega
theorem rt_FW_last {e : Nat → Nat → Nat → Prop} {T : Nat → Nat → Nat} (h : rt_FW e 12 T) : ∀ n a b, a < 12 → b < 12 → a ≠ b → T a b ≤ n → T a b = 1000000 ∨ ∃ c l, c < 12 ∧ e c b l ∧ T a c + l ≤ T a b := by
  obtain ⟨h1, h2, h3, h4, h5, h6, h7⟩ := h
  intro n
  induction n with
  | zero =>
    intro a b ha hb c hn
    have := h4 a b ha hb c
    omega
  | succ n ih =>
    intro a b ha hb c hn
    rcases h5 a b ha hb c with w | ⟨l, w, r⟩ | ⟨q, hq, w1, w2, r⟩
    · exact Or.inl w
    · refine Or.inr ⟨a, l, ha, w, ?_⟩
      have := h1 a ha
      omega
    · have g1 := h4 a q ha hq (fun z => w1 z.symm)
      rcases ih q b hq hb w2 (by omega) with v | ⟨x, l, hx, v, r'⟩
      · have := h2 a b ha hb
        omega
      · refine Or.inr ⟨x, l, hx, v, ?_⟩
        have := h6 q a x hq ha hx
        omega
theorem rt_FW_end {e : Nat → Nat → Nat → Prop} (N : rt_net e) {T : Nat → Nat → Nat} (h : rt_FW e 12 T) : rt_AP e T := by
  have hr : ∀ a b l s, s < 12 → e a b l → T s b ≤ T s a + l := by
    intro a b l s hs q
    have hn := N a b l q
    have g1 := h.2.2.2.2.2.1 a s b hn.1 hs hn.2.1
    have g2 := h.2.2.1 a b l q
    omega
  intro s hs
  refine ⟨h.1 s hs, fun t ht => h.2.1 s t hs ht, fun a b l q => hr a b l s hs q, ?_⟩
  intro t ht c
  rcases rt_FW_last h _ s t hs ht (fun z => c z.symm) (Nat.le_refl _) with w | ⟨x, l, hx, w, r⟩
  · exact Or.inl w
  · refine Or.inr ⟨x, l, w, ?_⟩
    have := hr x t l s hs w
    omega
/-! climb -/
def rt_CL (e : Nat → Nat → Nat → Prop) (D : Nat → Nat → Nat) (p : Nat) (T : Nat → Nat → Nat) : Prop :=
  (∀ a, a < 12 → T a a = 0) ∧
  (∀ a b, a < 12 → b < 12 → T a b ≤ 1000000) ∧
  (∀ a b l, e a b l → T a b ≤ l) ∧
  (∀ a b, a < 12 → b < 12 → a ≠ b → T a b = 1000000 ∨ (∃ l, e a b l ∧ l ≤ T a b) ∨ ∃ q, q < a ∧ q < b ∧ T a q + T q b ≤ T a b) ∧
  (∀ q a b, q < p → a < 12 → b < 12 → q < a → q < b → T a b ≤ T a q + T q b) ∧
  (∀ a b, a < 12 → b < 12 → D a b ≤ T a b)
theorem rt_CL_step {e : Nat → Nat → Nat → Prop} {D : Nat → Nat → Nat} (N : rt_net e) (hD : rt_AP e D) {p : Nat} {T T' : Nat → Nat → Nat} (hp : p < 12) (h : rt_CL e D p T) (h' : ∀ a b, a < 12 → b < 12 → T' a b = if p + 1 ≤ a ∧ p + 1 ≤ b then min (T a b) (T a p + T p b) else T a b) : rt_CL e D (p + 1) T' := by
  obtain ⟨h1, h2, h3, h5, h6, h7⟩ := h
  have hle : ∀ a b, a < 12 → b < 12 → T' a b ≤ T a b := fun a b ha hb => by
    rw [h' a b ha hb]; split <;> omega
  have hsame : ∀ a b, a < 12 → b < 12 → (a ≤ p ∨ b ≤ p) → T' a b = T a b := fun a b ha hb c => by
    rw [h' a b ha hb, if_neg (by omega)]
  refine ⟨?_, ?_, ?_, ?_, ?_, ?_⟩
  · intro a ha
    have := hle a a ha ha
    have := h1 a ha
    omega
  · intro a b ha hb
    have := hle a b ha hb
    have := h2 a b ha hb
    omega
  · intro a b l q
    have hn := N a b l q
    have := hle a b hn.1 hn.2.1
    have := h3 a b l q
    omega
  · intro a b ha hb c
    by_cases c0 : T' a b = T a b
    · rw [c0]
      rcases h5 a b ha hb c with w | ⟨l, w, r⟩ | ⟨q, w1, w2, r⟩
      · exact Or.inl w
      · exact Or.inr (Or.inl ⟨l, w, r⟩)
      · refine Or.inr (Or.inr ⟨q, w1, w2, ?_⟩)
        have := hle a q ha (by omega)
        have := hle q b (by omega) hb
        omega
    · have e1 := h' a b ha hb
      by_cases c1 : p + 1 ≤ a ∧ p + 1 ≤ b
      · rw [if_pos c1] at e1
        refine Or.inr (Or.inr ⟨p, by omega, by omega, ?_⟩)
        rw [hsame a p ha hp (by omega), hsame p b hp hb (by omega)]
        omega
      · rw [if_neg c1] at e1
        exact absurd e1 c0
  · intro q a b hq ha hb hqa hqb
    by_cases c : q = p
    · subst c
      rw [hsame a q ha hp (by omega), hsame q b hp hb (by omega), h' a b ha hb, if_pos (by omega)]
      omega
    · rw [hsame a q ha (by omega) (by omega), hsame q b (by omega) hb (by omega)]
      have := hle a b ha hb
      have := h6 q a b (by omega) ha hb hqa hqb
      omega
  · intro a b ha hb
    have g1 := h7 a b ha hb
    have g2 := h7 a p ha hp
    have g3 := h7 p b hp hb
    have g4 := rt_tri N hD ha hp hb
    rw [h' a b ha hb]
    split <;> omega
/-- a climb of n steps from s to x of length v -/
def rt_UR (C : Nat → Nat → Nat) : Nat → Nat → Nat → Nat → Prop
  | 0 => fun s x v => s = x ∧ v = 0
  | n + 1 => fun s x v => ∃ m w, s < m ∧ m < 12 ∧ rt_UR C n m x w ∧ v = C s m + w
theorem rt_UR_top {C : Nat → Nat → Nat} : ∀ n s x v, s < 12 → rt_UR C n s x v → x < 12 := by
  intro n
  induction n with
  | zero => intro s x v hs h; have := h.1; omega
  | succ n ih => intro s x v hs h; obtain ⟨m, w, h1, h2, h3, h4⟩ := h; exact ih m x w h2 h3
theorem rt_UR_le {C : Nat → Nat → Nat} {A : Nat → Nat} (hA : ∀ p h, p < h → h < 12 → A h ≤ A p + C p h) : ∀ n s x v, s < 12 → rt_UR C n s x v → A x ≤ A s + v := by
  intro n
  induction n with
  | zero => intro s x v hs h; obtain ⟨h1, h2⟩ := h; subst h1; omega
  | succ n ih =>
    intro s x v hs h
    obtain ⟨m, w, h1, h2, h3, h4⟩ := h
    have g1 := ih m x w h2 h3
    have g2 := hA s m h1 h2
    omega
theorem rt_UR_step {e : Nat → Nat → Nat → Prop} {D : Nat → Nat → Nat} {C : Nat → Nat → Nat} (hC : rt_CL e D 12 C) {Bt : Nat → Nat} (hB : ∀ p h, p < h → h < 12 → Bt h ≤ C h p + Bt p) : ∀ n u top v s, s < 12 → u < 12 → rt_UR C n u top v → ∃ n' top' v', rt_UR C n' s top' v' ∧ v' + Bt top' ≤ C s u + v + Bt top := by
  obtain ⟨h1, h2, h3, h5, h6, h7⟩ := hC
  intro n
  induction n with
  | zero =>
    intro u top v s hs hu h
    obtain ⟨q1, q2⟩ := h
    subst q1; subst q2
    rcases Nat.lt_trichotomy s u with c | c | c
    · exact ⟨1, u, C s u, ⟨u, 0, c, hu, ⟨rfl, rfl⟩, rfl⟩, by omega⟩
    · subst c; exact ⟨0, s, 0, ⟨rfl, rfl⟩, by omega⟩
    · refine ⟨0, s, 0, ⟨rfl, rfl⟩, ?_⟩
      have := hB u s c hs
      omega
  | succ n ih =>
    intro u top v s hs hu h
    rcases Nat.lt_trichotomy s u with c | c | c
    · exact ⟨n + 2, top, C s u + v, ⟨u, v, c, hu, h, rfl⟩, by omega⟩
    · subst c; exact ⟨n + 1, top, v, h, by omega⟩
    · obtain ⟨m, w, g1, g2, g3, g4⟩ := h
      obtain ⟨n', top', v', k1, k2⟩ := ih m top w s hs g2 g3
      refine ⟨n', top', v', k1, ?_⟩
      have := h6 u s m hu hs g2 c g1
      omega
theorem rt_UR_all {e : Nat → Nat → Nat → Prop} {D : Nat → Nat → Nat} (N : rt_net e) (hD : rt_AP e D) {C : Nat → Nat → Nat} (hC : rt_CL e D 12 C) {t : Nat} (ht : t < 12) {Bt : Nat → Nat} (hB0 : Bt t = 0) (hB : ∀ p h, p < h → h < 12 → Bt h ≤ C h p + Bt p) : ∀ k s, s < 12 → D s t ≤ k → D s t < 1000000 → ∃ n top v, rt_UR C n s top v ∧ v + Bt top ≤ D s t := by
  intro k
  induction k with
  | zero =>
    intro s hs hk hf
    by_cases c : s = t
    · subst c; exact ⟨0, s, 0, ⟨rfl, rfl⟩, by omega⟩
    · rcases rt_first N hD hs ht c with w | ⟨b, l, w, r⟩
      · omega
      · have := (N s b l w).2.2
        omega
  | succ k ih =>
    intro s hs hk hf
    by_cases c : s = t
    · subst c; exact ⟨0, s, 0, ⟨rfl, rfl⟩, by omega⟩
    · rcases rt_first N hD hs ht c with w | ⟨b, l, w, r⟩
      · omega
      · have hn := N s b l w
        obtain ⟨n, top, v, g1, g2⟩ := ih b hn.2.1 (by omega) (by omega)
        obtain ⟨n', top', v', k1, k2⟩ := rt_UR_step hC hB n b top v s hs hn.2.1 g1
        refine ⟨n', top', v', k1, ?_⟩
        have := hC.2.2.1 s b l w
        omega
/-- what the climbing question finds -/
theorem rt_climb {e : Nat → Nat → Nat → Prop} {D : Nat → Nat → Nat} (N : rt_net e) (hD : rt_AP e D) {C : Nat → Nat → Nat} (hC : rt_CL e D 12 C) {s t : Nat} (hs : s < 12) (ht : t < 12) {A Bt : Nat → Nat} {r : Nat}
    (hA0 : A s = 0) (hA : ∀ p h, p < h → h < 12 → A h ≤ A p + C p h) (hAD : ∀ x, x < 12 → D s x ≤ A x)
    (hB0 : Bt t = 0) (hB : ∀ p h, p < h → h < 12 → Bt h ≤ C h p + Bt p) (hBD : ∀ x, x < 12 → D x t ≤ Bt x)
    (hr1 : r ≤ 1000000) (hr2 : ∀ x, x < 12 → r ≤ A x + Bt x) (hr3 : r = 1000000 ∨ ∃ x, x < 12 ∧ r = A x + Bt x) : r = D s t := by
  have hf := (hD s hs).2.1 t ht
  apply Nat.le_antisymm
  · by_cases c : D s t < 1000000
    · obtain ⟨n, top, v, g1, g2⟩ := rt_UR_all N hD hC ht hB0 hB _ s hs (Nat.le_refl _) c
      have g3 := rt_UR_top n s top v hs g1
      have g4 := rt_UR_le hA n s top v hs g1
      have g5 := hr2 top g3
      omega
    · omega
  · rcases hr3 with w | ⟨x, hx, w⟩
    · omega
    · have g1 := rt_tri N hD hs hx ht
      have g2 := hAD x hx
      have g3 := hBD x hx
      omega
end
section
/-! the searches, over numbers alone -/
def rt_GO (e : Nat → Nat → Nat → Prop) (p : Nat) (d d' : Nat → Nat) : Prop :=
  (∀ x, x < 12 → d' x ≤ d x) ∧ (∀ b l, e p b l → d' b ≤ d p + l) ∧ (∀ x, x < 12 → d' x = d x ∨ ∃ l, e p x l ∧ d' x = d p + l)
def rt_DJ (e : Nat → Nat → Nat → Prop) (s : Nat) (d : Nat → Nat) (st : Nat → Bool) (r : Nat) : Prop :=
  d s = 0 ∧ (∀ x, x < 12 → d x ≤ 1000000) ∧
  (∀ x, x < 12 → x ≠ s → d x = 1000000 ∨ ∃ a l, e a x l ∧ d x = d a + l ∧ st a = true) ∧
  (∀ p b l, st p = true → e p b l → d b ≤ d p + l) ∧
  (∀ p q, p < 12 → q < 12 → st p = true → st q = false → d p ≤ d q) ∧
  r ≤ rt_c st 12
theorem rt_DJ_init {e : Nat → Nat → Nat → Prop} {s : Nat} {d : Nat → Nat} {st : Nat → Bool} (N : rt_net e) (hs : s < 12) (h0 : d s = 0) (h1 : ∀ x, x < 12 → x ≠ s → d x = 1000000) (h2 : ∀ x, x < 12 → st x = false) : rt_DJ e s d st 0 := by
  refine ⟨h0, ?_, fun x hx c => Or.inl (h1 x hx c), ?_, ?_, Nat.zero_le _⟩
  · intro x hx
    by_cases c : x = s
    · subst c; omega
    · have := h1 x hx c; omega
  · intro p b l hp q
    rw [h2 p (N p b l q).1] at hp
    exact absurd hp (by decide)
  · intro p q hp hq h
    rw [h2 p hp] at h
    exact absurd h (by decide)
theorem rt_st_cnt {st st' : Nat → Bool} {p r : Nat} (hp : p < 12) (h0 : st p = false) (h1 : st' p = true) (h2 : ∀ j, j < 12 → j ≠ p → st' j = st j) (hr : r ≤ rt_c st 12) : r + 1 ≤ rt_c st' 12 := by
  have := rt_c_lt (P := st) (Q := st') p (by rw [h0]; decide) h1 12 hp (fun j hj q => by
    by_cases c : j = p
    · subst c; exact h1
    · rw [h2 j hj c]; exact q)
  omega
theorem rt_st_cases {st st' : Nat → Bool} {p : Nat} (h2 : ∀ j, j < 12 → j ≠ p → st' j = st j) {q : Nat} (hq : q < 12) (h : st' q = true) : q = p ∨ st q = true := by
  by_cases c : q = p
  · exact Or.inl c
  · rw [h2 q hq c] at h; exact Or.inr h
theorem rt_st_open {st st' : Nat → Bool} {p : Nat} (h1 : st' p = true) (h2 : ∀ j, j < 12 → j ≠ p → st' j = st j) {q : Nat} (hq : q < 12) (h : st' q = false) : q ≠ p ∧ st q = false := by
  by_cases c : q = p
  · subst c; rw [h1] at h; exact absurd h (by decide)
  · rw [h2 q hq c] at h; exact ⟨c, h⟩
theorem rt_DJ_step {e : Nat → Nat → Nat → Prop} {s p r : Nat} {d d' : Nat → Nat} {st st' : Nat → Bool} (N : rt_net e) (h : rt_DJ e s d st r) (hs : s < 12) (hp : p < 12) (h0 : st p = false) (hm : ∀ q, q < 12 → st q = false → d p ≤ d q) (hg : rt_GO e p d d') (h1 : st' p = true) (h2 : ∀ j, j < 12 → j ≠ p → st' j = st j) : rt_DJ e s d' st' (r + 1) := by
  obtain ⟨i1, i2, i3, i4, i5, i6⟩ := h
  obtain ⟨g1, g2, g3⟩ := hg
  have key : ∀ q, q < 12 → st' q = true → d' q = d q := by
    intro q hq hst
    rcases g3 q hq with w | ⟨l, w, z⟩
    · exact w
    · have hl := (N p q l w).2.2
      have hle := g1 q hq
      rcases rt_st_cases h2 hq hst with c | c
      · subst c; omega
      · have := i5 q p hq hp c h0
        omega
  refine ⟨?_, ?_, ?_, ?_, ?_, rt_st_cnt hp h0 h1 h2 i6⟩
  · have := g1 s hs
    omega
  · intro x hx
    have := g1 x hx
    have := i2 x hx
    omega
  · intro x hx c
    rcases g3 x hx with w | ⟨l, w, z⟩
    · rw [w]
      rcases i3 x hx c with q | ⟨a, l, q, z, v⟩
      · exact Or.inl q
      · have ha := (N a x l q).1
        have va : st' a = true := by
          by_cases ca : a = p
          · subst ca; exact h1
          · rw [h2 a ha ca]; exact v
        refine Or.inr ⟨a, l, q, ?_, va⟩
        rw [key a ha va]; exact z
    · refine Or.inr ⟨p, l, w, ?_, h1⟩
      rw [key p hp h1]; exact z
  · intro q b l hst w
    have hn := N q b l w
    rw [key q hn.1 hst]
    rcases rt_st_cases h2 hn.1 hst with c | c
    · subst c; exact g2 b l w
    · have := i4 q b l c w
      have := g1 b hn.2.1
      omega
  · intro a q ha hq hsa hoq
    obtain ⟨c, ho⟩ := rt_st_open h1 h2 hq hoq
    rw [key a ha hsa]
    have hpq := hm q hq ho
    have hap : d a ≤ d p := by
      rcases rt_st_cases h2 ha hsa with c' | c'
      · subst c'; exact Nat.le_refl _
      · exact i5 a p ha hp c' h0
    rcases g3 q hq with w | ⟨l, w, z⟩ <;> omega
theorem rt_DJ_end {e : Nat → Nat → Nat → Prop} {s r : Nat} {d : Nat → Nat} {st : Nat → Bool} (N : rt_net e) (h : rt_DJ e s d st r) (hx : r = 12 ∨ ∀ q, q < 12 → st q = false → 1000000 ≤ d q) : rt_SS e s d := by
  obtain ⟨i1, i2, i3, i4, i5, i6⟩ := h
  refine ⟨i1, i2, ?_, ?_⟩
  · intro a b l w
    have hn := N a b l w
    by_cases c : st a = true
    · exact i4 a b l c w
    · have c' : st a = false := by simpa using c
      rcases hx with z | z
      · subst z
        exact absurd (rt_c_all i6 a hn.1) c
      · have := z a hn.1 c'
        have := i2 b hn.2.1
        omega
  · intro t ht c
    rcases i3 t ht c with q | ⟨a, l, q, z, v⟩
    · exact Or.inl q
    · exact Or.inr ⟨a, l, q, z⟩
/-! the search led by marks -/
def rt_pi (D : Nat → Nat → Nat) (t p : Nat) : Nat → Nat
  | 0 => 0
  | i + 1 => max (max (rt_pi D t p i) (D p (i * 4) - D t (i * 4))) (D (i * 4) t - D (i * 4) p)
theorem rt_pi_con {e : Nat → Nat → Nat → Prop} {D : Nat → Nat → Nat} (N : rt_net e) (h : rt_AP e D) {t a b l : Nat} (w : e a b l) : ∀ i, i ≤ 3 → rt_pi D t a i ≤ l + rt_pi D t b i := by
  have hn := N a b l w
  intro i
  induction i with
  | zero => intro _; exact Nat.zero_le _
  | succ i ih =>
    intro hi
    have h0 := ih (by omega)
    have hm : i * 4 < 12 := by omega
    have h1 := (h (i * 4) hm).2.2.1 a b l w
    have h2 := rt_tri N h hn.1 hn.2.1 hm
    have h3 := rt_el N h w
    show max (max (rt_pi D t a i) (D a (i * 4) - D t (i * 4))) (D (i * 4) t - D (i * 4) a) ≤ l + max (max (rt_pi D t b i) (D b (i * 4) - D t (i * 4))) (D (i * 4) t - D (i * 4) b)
    omega
theorem rt_pi_adm {e : Nat → Nat → Nat → Prop} {D : Nat → Nat → Nat} (N : rt_net e) (h : rt_AP e D) {t a : Nat} (ht : t < 12) (ha : a < 12) : ∀ i, i ≤ 3 → rt_pi D t a i ≤ D a t := by
  intro i
  induction i with
  | zero => intro _; exact Nat.zero_le _
  | succ i ih =>
    intro hi
    have h0 := ih (by omega)
    have hm : i * 4 < 12 := by omega
    have h1 := rt_tri N h ha ht hm
    have h2 := rt_tri N h hm ha ht
    show max (max (rt_pi D t a i) (D a (i * 4) - D t (i * 4))) (D (i * 4) t - D (i * 4) a) ≤ D a t
    omega
def rt_AS (e : Nat → Nat → Nat → Prop) (D : Nat → Nat → Nat) (s t : Nat) (f : Nat → Nat) (d : Nat → Nat) (st : Nat → Bool) (r : Nat) : Prop :=
  d s = 0 ∧ (∀ x, x < 12 → d x ≤ 1000000) ∧
  (∀ x, x < 12 → D s x ≤ d x) ∧
  (∀ p b l, st p = true → e p b l → d b ≤ d p + l) ∧
  (∀ p q, p < 12 → q < 12 → st p = true → st q = false → d p + f p ≤ d q + f q) ∧
  r ≤ rt_c st 12 ∧ st t = false
theorem rt_AS_init {e : Nat → Nat → Nat → Prop} {D : Nat → Nat → Nat} {s t : Nat} {f d : Nat → Nat} {st : Nat → Bool} (N : rt_net e) (hD : rt_AP e D) (hs : s < 12) (ht : t < 12) (h0 : d s = 0) (h1 : ∀ x, x < 12 → x ≠ s → d x = 1000000) (h2 : ∀ x, x < 12 → st x = false) : rt_AS e D s t f d st 0 := by
  refine ⟨h0, ?_, ?_, ?_, ?_, Nat.zero_le _, h2 t ht⟩
  · intro x hx
    by_cases c : x = s
    · subst c; omega
    · have := h1 x hx c; omega
  · intro x hx
    by_cases c : x = s
    · subst c; have := (hD x hs).1; omega
    · have := h1 x hx c
      have := (hD s hs).2.1 x hx
      omega
  · intro p b l hp q
    rw [h2 p (N p b l q).1] at hp
    exact absurd hp (by decide)
  · intro p q hp hq h
    rw [h2 p hp] at h
    exact absurd h (by decide)
theorem rt_AS_step {e : Nat → Nat → Nat → Prop} {D : Nat → Nat → Nat} {s t p r : Nat} {f d d' : Nat → Nat} {st st' : Nat → Bool} (N : rt_net e) (hD : rt_AP e D) (hf : ∀ a b l, e a b l → f a ≤ l + f b) (h : rt_AS e D s t f d st r) (hs : s < 12) (ht : t < 12) (hp : p < 12) (hpt : p ≠ t) (h0 : st p = false) (hm : ∀ q, q < 12 → st q = false → d p + f p ≤ d q + f q) (hg : rt_GO e p d d') (h1 : st' p = true) (h2 : ∀ j, j < 12 → j ≠ p → st' j = st j) : rt_AS e D s t f d' st' (r + 1) := by
  obtain ⟨i1, i2, i3, i4, i5, i6, i7⟩ := h
  obtain ⟨g1, g2, g3⟩ := hg
  have key : ∀ q, q < 12 → st' q = true → d' q = d q := by
    intro q hq hst
    rcases g3 q hq with w | ⟨l, w, z⟩
    · exact w
    · have hl := (N p q l w).2.2
      have hle := g1 q hq
      have hc := hf p q l w
      rcases rt_st_cases h2 hq hst with c | c
      · subst c; omega
      · have := i5 q p hq hp c h0
        omega
  refine ⟨?_, ?_, ?_, ?_, ?_, rt_st_cnt hp h0 h1 h2 i6, ?_⟩
  · have := g1 s hs
    omega
  · intro x hx
    have := g1 x hx
    have := i2 x hx
    omega
  · intro x hx
    rcases g3 x hx with w | ⟨l, w, z⟩
    · rw [w]; exact i3 x hx
    · have := (hD s hs).2.2.1 p x l w
      have := i3 p hp
      omega
  · intro q b l hst w
    have hn := N q b l w
    rw [key q hn.1 hst]
    rcases rt_st_cases h2 hn.1 hst with c | c
    · subst c; exact g2 b l w
    · have := i4 q b l c w
      have := g1 b hn.2.1
      omega
  · intro a q ha hq hsa hoq
    obtain ⟨c, ho⟩ := rt_st_open h1 h2 hq hoq
    rw [key a ha hsa]
    have hpq := hm q hq ho
    have hap : d a + f a ≤ d p + f p := by
      rcases rt_st_cases h2 ha hsa with c' | c'
      · subst c'; exact Nat.le_refl _
      · exact i5 a p ha hp c' h0
    rcases g3 q hq with w | ⟨l, w, z⟩
    · omega
    · have := hf p q l w
      omega
  · rw [h2 t ht (fun z => hpt z.symm)]; exact i7
theorem rt_AS_on {e : Nat → Nat → Nat → Prop} {D : Nat → Nat → Nat} {s t r : Nat} {f d : Nat → Nat} {st : Nat → Bool} (N : rt_net e) (hD : rt_AP e D) (hf : ∀ a, a < 12 → f a ≤ D a t) (h : rt_AS e D s t f d st r) (hs : s < 12) (ht : t < 12) (hb : ∀ q, q < 12 → st q = false → D s t < d q + f q) (hfar : D s t < 1000000) : ∀ n y, y < 12 → D s y ≤ n → D s y + D y t = D s t → d y = D s y := by
  obtain ⟨i1, i2, i3, i4, i5, i6, i7⟩ := h
  intro n
  induction n with
  | zero =>
    intro y hy hn hon
    by_cases c : y = s
    · subst c; have := (hD y hs).1; omega
    · rcases (hD s hs).2.2.2 y hy c with w | ⟨a, l, w, z⟩
      · omega
      · have := (N a y l w).2.2
        omega
  | succ n ih =>
    intro y hy hn hon
    by_cases c : y = s
    · subst c; have := (hD y hs).1; omega
    · rcases (hD s hs).2.2.2 y hy c with w | ⟨a, l, w, z⟩
      · omega
      · have hl := N a y l w
        have t1 := rt_tri N hD hs hl.1 ht
        have t2 := rt_tri N hD hl.1 hy ht
        have t3 := rt_el N hD w
        have hda := ih a hl.1 (by omega) (by omega)
        have hst : st a = true := by
          by_cases c2 : st a = true
          · exact c2
          · have c3 : st a = false := by simpa using c2
            have := hb a hl.1 c3
            have := hf a hl.1
            omega
        have := i4 a y l hst w
        have := i3 y hy
        omega
theorem rt_AS_end {e : Nat → Nat → Nat → Prop} {D : Nat → Nat → Nat} {s t r : Nat} {f d : Nat → Nat} {st : Nat → Bool} (N : rt_net e) (hD : rt_AP e D) (hf : ∀ a, a < 12 → f a ≤ D a t) (h : rt_AS e D s t f d st r) (hs : s < 12) (ht : t < 12) (hb : (∀ q, q < 12 → st q = false → 1000000 ≤ d q + f q) ∨ (∀ q, q < 12 → st q = false → d t ≤ d q + f q)) : d t = D s t := by
  have i3 := h.2.2.1 t ht
  have i2 := h.2.1 t ht
  have htt := (hD t ht).1
  by_cases c : d t = D s t
  · exact c
  · exact rt_AS_on N hD hf h hs ht (fun q hq hst => by
      rcases hb with w | w
      · have := w q hq hst; omega
      · have := w q hq hst; omega) (by omega) _ t ht (Nat.le_refl _) (by omega)
/-! labels of hubs -/
def rt_Good (D : Nat → Nat → Nat) (h x : Nat) : Prop := D h x < 1000000 ∧ ∀ i, i < h → D h x < D h i + D i x
theorem rt_cover {e : Nat → Nat → Nat → Prop} {D : Nat → Nat → Nat} (N : rt_net e) (hD : rt_AP e D) {s t : Nat} (hs : s < 12) (ht : t < 12) (hf : D s t < 1000000) : ∃ m, m < 12 ∧ D s m + D m t = D s t ∧ rt_Good D m t ∧ rt_Good (rt_tr D) m s ∧ ∀ i, i < m → D s t < D s i + D i t := by
  obtain ⟨m, h1, h2⟩ := pk_least (fun m => m < 12 ∧ D s m + D m t ≤ D s t) ⟨s, hs, by have := (hD s hs).1; omega⟩
  obtain ⟨hm, h1⟩ := h1
  have t1 := rt_tri N hD hs hm ht
  have h3 : ∀ i, i < m → D s t < D s i + D i t := fun i hi => by
    by_cases c : D s t < D s i + D i t
    · exact c
    · exact absurd ⟨by omega, by omega⟩ (h2 i hi)
  refine ⟨m, hm, by omega, ⟨by omega, fun i hi => ?_⟩, ⟨?_, fun i hi => ?_⟩, h3⟩
  · have := h3 i hi
    have := rt_tri N hD hs hm (show i < 12 by omega)
    omega
  · show D s m < 1000000
    omega
  · show D s m < D i m + D s i
    have := h3 i hi
    have := rt_tri N hD (show i < 12 by omega) hm ht
    omega
/-- labels lab p j of point p with hub j, those below h done -/
def rt_LI (D : Nat → Nat → Nat) (lab : Nat → Nat → Nat) (h : Nat) : Prop := ∀ p j, p < 12 → j < 12 →
  (lab p j = 1000000 ∨ lab p j = D j p) ∧ (j < h → rt_Good D j p → lab p j = D j p) ∧ (h ≤ j → lab p j = 1000000)
/-- labels that serve for the question -/
def rt_LO (D : Nat → Nat → Nat) (lab : Nat → Nat → Nat) (h : Nat) : Prop := ∀ p j, p < 12 → j < 12 →
  (lab p j = 1000000 ∨ lab p j = D j p) ∧ (j < h → rt_Good D j p → lab p j = D j p)
def rt_LB (e : Nat → Nat → Nat → Prop) (D : Nat → Nat → Nat) (h : Nat) (d : Nat → Nat) (st : Nat → Bool) (r : Nat) (lab : Nat → Nat → Nat) : Prop :=
  d h = 0 ∧ (∀ x, x < 12 → d x ≤ 1000000) ∧ (∀ x, x < 12 → D h x ≤ d x) ∧
  (∀ p, p < 12 → st p = true → rt_Good D h p → d p = D h p ∧ (∀ b l, e p b l → d b ≤ d p + l) ∧ lab p h = D h p) ∧
  (∀ p q, p < 12 → q < 12 → st p = true → st q = false → d p ≤ d q) ∧
  r ≤ rt_c st 12 ∧
  (∀ p j, p < 12 → j < 12 → (lab p j = 1000000 ∨ lab p j = D j p) ∧ (j < h → rt_Good D j p → lab p j = D j p) ∧ (h < j → lab p j = 1000000)) ∧
  (∀ p, p < 12 → st p = false → lab p h = 1000000)
theorem rt_LB_init {e : Nat → Nat → Nat → Prop} {D : Nat → Nat → Nat} {h : Nat} {d : Nat → Nat} {st : Nat → Bool} {lab : Nat → Nat → Nat} (hD : rt_AP e D) (hh : h < 12) (h0 : d h = 0) (h1 : ∀ x, x < 12 → x ≠ h → d x = 1000000) (h2 : ∀ x, x < 12 → st x = false) (hl : rt_LI D lab h) : rt_LB e D h d st 0 lab := by
  refine ⟨h0, ?_, ?_, ?_, ?_, Nat.zero_le _, ?_, ?_⟩
  · intro x hx
    by_cases c : x = h
    · subst c; omega
    · have := h1 x hx c; omega
  · intro x hx
    by_cases c : x = h
    · subst c; have := (hD x hh).1; omega
    · have := h1 x hx c
      have := (hD h hh).2.1 x hx
      omega
  · intro p hp hst
    rw [h2 p hp] at hst
    exact absurd hst (by decide)
  · intro p q hp hq hst
    rw [h2 p hp] at hst
    exact absurd hst (by decide)
  · intro p j hp hj
    have w := hl p j hp hj
    exact ⟨w.1, w.2.1, fun z => w.2.2 (by omega)⟩
  · intro p hp _
    exact (hl p h hp hh).2.2 (Nat.le_refl _)
theorem rt_Good_pre {e : Nat → Nat → Nat → Prop} {D : Nat → Nat → Nat} (N : rt_net e) (hD : rt_AP e D) {h a y l : Nat} (hh : h < 12) (w : e a y l) (z : D h y = D h a + l) (g : rt_Good D h y) : rt_Good D h a := by
  have hn := N a y l w
  refine ⟨by have := g.1; omega, fun i hi => ?_⟩
  have g2 := g.2 i hi
  have h3 := (hD i (by omega)).2.2.1 a y l w
  omega
theorem rt_LB_on {e : Nat → Nat → Nat → Prop} {D : Nat → Nat → Nat} {h r : Nat} {d : Nat → Nat} {st : Nat → Bool} {lab : Nat → Nat → Nat} (N : rt_net e) (hD : rt_AP e D) (hh : h < 12) (I : rt_LB e D h d st r lab) {M : Nat} (hM : ∀ z, z < 12 → st z = false → M ≤ d z) : ∀ n y, y < 12 → rt_Good D h y → D h y ≤ n → D h y ≤ M → d y = D h y := by
  obtain ⟨i1, i2, i3, i4, i5, i6, i7, i8⟩ := I
  intro n
  induction n with
  | zero =>
    intro y hy g hn hl
    by_cases c : y = h
    · subst c; have := (hD y hh).1; omega
    · rcases (hD h hh).2.2.2 y hy c with w | ⟨a, l, w, z⟩
      · omega
      · have := (N a y l w).2.2
        omega
  | succ n ih =>
    intro y hy g hn hl
    by_cases c : y = h
    · subst c; have := (hD y hh).1; omega
    · rcases (hD h hh).2.2.2 y hy c with w | ⟨a, l, w, z⟩
      · have := g.1
        omega
      · have hn2 := N a y l w
        have ga := rt_Good_pre N hD hh w z g
        have ea := ih a hn2.1 ga (by omega) (by omega)
        have hst : st a = true := by
          by_cases c2 : st a = true
          · exact c2
          · have c3 : st a = false := by simpa using c2
            have := hM a hn2.1 c3
            omega
        have := (i4 a hn2.1 hst ga).2.1 y l w
        have := i3 y hy
        omega
/-- what the question before a label finds -/
def rt_QU (oh lab : Nat → Nat → Nat) (h p q : Nat) : Prop :=
  q ≤ 1000000 ∧ (∀ j, j < 12 → q ≤ oh h j + lab p j) ∧ (q = 1000000 ∨ ∃ j, j < 12 ∧ q = oh h j + lab p j)
theorem rt_LB_q {e : Nat → Nat → Nat → Prop} {D : Nat → Nat → Nat} {h r p q : Nat} {d : Nat → Nat} {st : Nat → Bool} {lab oh : Nat → Nat → Nat} (N : rt_net e) (hD : rt_AP e D) (hh : h < 12) (hp : p < 12) (I : rt_LB e D h d st r lab) (ho : rt_LO (rt_tr D) oh h) (h0 : st p = false) (hm : ∀ z, z < 12 → st z = false → d p ≤ d z) (hfar : d p < 1000000) (hq : rt_QU oh lab h p q) : (d p < q → rt_Good D h p ∧ d p = D h p) ∧ (q ≤ d p → ¬ rt_Good D h p) := by
  have hon := fun g => rt_LB_on N hD hh I hm _ p hp g (Nat.le_refl _) (I.2.2.1 p hp)
  obtain ⟨i1, i2, i3, i4, i5, i6, i7, i8⟩ := I
  obtain ⟨q1, q2, q3⟩ := hq
  have hlb := i3 p hp
  constructor
  · intro hlt
    have g : rt_Good D h p := by
      refine ⟨by omega, fun i hi => ?_⟩
      by_cases c : D h p < D h i + D i p
      · exact c
      · exfalso
        obtain ⟨m, k1, k2, k3, k4, k5⟩ := rt_cover N hD hh hp (show D h p < 1000000 by omega)
        have hmh : m < h := by
          by_cases c2 : m < h
          · exact c2
          · have := k5 i (by omega)
            omega
        have e1 := (ho h m hh k1).2 hmh k4
        have e2 := (i7 p m hp k1).2.1 hmh k3
        have e3 := q2 m k1
        have e4 : rt_tr D m h = D h m := rfl
        omega
    exact ⟨g, hon g⟩
  · intro hle g
    have e0 := hon g
    rcases q3 with w | ⟨j, hj, w⟩
    · omega
    · have s1 := (ho h j hh hj).1
      have s2 := (i7 p j hp hj).1
      have e4 : rt_tr D j h = D h j := rfl
      rcases Nat.lt_trichotomy j h with c | c | c
      · have := g.2 j c
        have := g.1
        omega
      · subst c
        have := i8 p hp h0
        omega
      · have := (i7 p j hp hj).2.2 c
        omega
theorem rt_LB_skip {e : Nat → Nat → Nat → Prop} {D : Nat → Nat → Nat} {h r p : Nat} {d : Nat → Nat} {st st' : Nat → Bool} {lab : Nat → Nat → Nat} (hp : p < 12) (I : rt_LB e D h d st r lab) (h0 : st p = false) (hm : ∀ z, z < 12 → st z = false → d p ≤ d z) (ng : ¬ rt_Good D h p) (h1 : st' p = true) (h2 : ∀ j, j < 12 → j ≠ p → st' j = st j) : rt_LB e D h d st' (r + 1) lab := by
  obtain ⟨i1, i2, i3, i4, i5, i6, i7, i8⟩ := I
  refine ⟨i1, i2, i3, ?_, ?_, rt_st_cnt hp h0 h1 h2 i6, i7, ?_⟩
  · intro x hx hst g
    rcases rt_st_cases h2 hx hst with c | c
    · subst c; exact absurd g ng
    · exact i4 x hx c g
  · intro a q ha hq hsa hoq
    obtain ⟨c, ho⟩ := rt_st_open h1 h2 hq hoq
    rcases rt_st_cases h2 ha hsa with c' | c'
    · subst c'; exact hm q hq ho
    · exact i5 a q ha hq c' ho
  · intro x hx hox
    exact i8 x hx (rt_st_open h1 h2 hx hox).2
theorem rt_LB_step {e : Nat → Nat → Nat → Prop} {D : Nat → Nat → Nat} {h r p : Nat} {d d' : Nat → Nat} {st st' : Nat → Bool} {lab lab' : Nat → Nat → Nat} (N : rt_net e) (hD : rt_AP e D) (hh : h < 12) (hp : p < 12) (I : rt_LB e D h d st r lab) (h0 : st p = false) (hm : ∀ z, z < 12 → st z = false → d p ≤ d z) (g : rt_Good D h p) (ed : d p = D h p) (h1 : st' p = true) (h2 : ∀ j, j < 12 → j ≠ p → st' j = st j) (hg : rt_GO e p d d')
    (hl1 : lab' p h = d p) (hl2 : ∀ x j, x < 12 → j < 12 → ¬ (x = p ∧ j = h) → lab' x j = lab x j) : rt_LB e D h d' st' (r + 1) lab' := by
  obtain ⟨i1, i2, i3, i4, i5, i6, i7, i8⟩ := I
  obtain ⟨g1, g2, g3⟩ := hg
  have key : ∀ q, q < 12 → st' q = true → d' q = d q := by
    intro q hq hst
    rcases g3 q hq with w | ⟨l, w, z⟩
    · exact w
    · have hl := (N p q l w).2.2
      have hle := g1 q hq
      rcases rt_st_cases h2 hq hst with c | c
      · subst c; omega
      · have := i5 q p hq hp c h0
        omega
  refine ⟨?_, ?_, ?_, ?_, ?_, rt_st_cnt hp h0 h1 h2 i6, ?_, ?_⟩
  · have := g1 h hh
    omega
  · intro x hx
    have := g1 x hx
    have := i2 x hx
    omega
  · intro x hx
    rcases g3 x hx with w | ⟨l, w, z⟩
    · rw [w]; exact i3 x hx
    · have := (hD h hh).2.2.1 p x l w
      omega
  · intro x hx hst gx
    rw [key x hx hst]
    by_cases c : x = p
    · subst c
      exact ⟨ed, g2, by rw [hl1]; exact ed⟩
    · have c' : st x = true := by rw [h2 x hx c] at hst; exact hst
      obtain ⟨k1, k2, k3⟩ := i4 x hx c' gx
      refine ⟨k1, fun b l w => ?_, ?_⟩
      · have := k2 b l w
        have := g1 b (N x b l w).2.1
        omega
      · rw [hl2 x h hx hh (fun z => c z.1)]; exact k3
  · intro a q ha hq hsa hoq
    obtain ⟨c, ho⟩ := rt_st_open h1 h2 hq hoq
    rw [key a ha hsa]
    have hpq := hm q hq ho
    have hap : d a ≤ d p := by
      rcases rt_st_cases h2 ha hsa with c' | c'
      · subst c'; exact Nat.le_refl _
      · exact i5 a p ha hp c' h0
    rcases g3 q hq with w | ⟨l, w, z⟩ <;> omega
  · intro x j hx hj
    by_cases c : x = p ∧ j = h
    · obtain ⟨c1, c2⟩ := c
      subst c1; subst c2
      exact ⟨Or.inr (by rw [hl1]; exact ed), fun z => absurd z (Nat.lt_irrefl _), fun z => absurd z (Nat.lt_irrefl _)⟩
    · rw [hl2 x j hx hj c]; exact i7 x j hx hj
  · intro x hx hox
    obtain ⟨c, ho⟩ := rt_st_open h1 h2 hx hox
    rw [hl2 x h hx hh (fun z => c z.1)]
    exact i8 x hx ho
theorem rt_LB_end {e : Nat → Nat → Nat → Prop} {D : Nat → Nat → Nat} {h r : Nat} {d : Nat → Nat} {st : Nat → Bool} {lab : Nat → Nat → Nat} (N : rt_net e) (hD : rt_AP e D) (hh : h < 12) (I : rt_LB e D h d st r lab) (hx : r = 12 ∨ ∀ q, q < 12 → st q = false → 1000000 ≤ d q) : rt_LI D lab (h + 1) := by
  have hM : ∀ z, z < 12 → st z = false → 1000000 ≤ d z := by
    rcases hx with w | w
    · subst w
      intro z hz hst
      have := rt_c_all I.2.2.2.2.2.1 z hz
      rw [hst] at this
      exact absurd this (by decide)
    · exact w
  have hon := fun y hy g => rt_LB_on N hD hh I hM _ y hy g (Nat.le_refl _) (Nat.le_of_lt g.1)
  obtain ⟨i1, i2, i3, i4, i5, i6, i7, i8⟩ := I
  intro p j hp hj
  refine ⟨(i7 p j hp hj).1, fun c g => ?_, fun c => (i7 p j hp hj).2.2 c⟩
  by_cases c2 : j = h
  · subst c2
    have e1 := hon p hp g
    have hst : st p = true := by
      by_cases c3 : st p = true
      · exact c3
      · have c4 : st p = false := by simpa using c3
        have := hM p hp c4
        have := g.1
        omega
    exact (i4 p hp hst g).2.2
  · exact (i7 p j hp hj).2.1 (by omega) g
theorem rt_LI_LO {D : Nat → Nat → Nat} {lab : Nat → Nat → Nat} {h h' : Nat} (I : rt_LI D lab h') (hh : h ≤ h') : rt_LO D lab h :=
  fun p j hp hj => ⟨(I p j hp hj).1, fun c => (I p j hp hj).2.1 (by omega)⟩
theorem rt_hubs {e : Nat → Nat → Nat → Prop} {D : Nat → Nat → Nat} (N : rt_net e) (hD : rt_AP e D) {th fh : Nat → Nat → Nat} {s t q : Nat} (hs : s < 12) (ht : t < 12) (h1 : rt_LO (rt_tr D) th 12) (h2 : rt_LO D fh 12) (hq : rt_QU th fh s t q) : q = D s t := by
  obtain ⟨q1, q2, q3⟩ := hq
  have hf := (hD s hs).2.1 t ht
  apply Nat.le_antisymm
  · by_cases c : D s t < 1000000
    · obtain ⟨m, k1, k2, k3, k4, k5⟩ := rt_cover N hD hs ht c
      have e1 := (h1 s m hs k1).2 k1 k4
      have e2 := (h2 t m ht k1).2 k1 k3
      have e3 := q2 m k1
      have e4 : rt_tr D m s = D s m := rfl
      omega
    · omega
  · rcases q3 with w | ⟨j, hj, w⟩
    · omega
    · have s1 := (h1 s j hs hj).1
      have s2 := (h2 t j ht hj).1
      have e4 : rt_tr D j s = D s j := rfl
      have := rt_tri N hD hs hj ht
      omega
/-! flags -/
theorem rt_flags {e ef : Nat → Nat → Nat → Prop} {D : Nat → Nat → Nat} (N : rt_net e) (hD : rt_AP e D) {s t : Nat} (hs : s < 12) (ht : t < 12) (h1 : ∀ a b l, ef a b l → e a b l) (h2 : ∀ a b l, e a b l → D a t = l + D b t → ef a b l) {d : Nat → Nat} (h : rt_SS ef s d) : d t = D s t := by
  have lb : ∀ n x, x < 12 → d x ≤ n → D s x ≤ d x := by
    intro n
    induction n with
    | zero =>
      intro x hx hn
      by_cases c : x = s
      · subst c; have := (hD x hs).1; omega
      · rcases h.2.2.2 x hx c with w | ⟨a, l, w, z⟩
        · omega
        · have := (N a x l (h1 a x l w)).2.2
          omega
    | succ n ih =>
      intro x hx hn
      by_cases c : x = s
      · subst c; have := (hD x hs).1; omega
      · rcases h.2.2.2 x hx c with w | ⟨a, l, w, z⟩
        · have := (hD s hs).2.1 x hx
          omega
        · have hn2 := N a x l (h1 a x l w)
          have := ih a hn2.1 (by omega)
          have := (hD s hs).2.2.1 a x l (h1 a x l w)
          omega
  have ub : D s t < 1000000 → ∀ n y, y < 12 → D s y ≤ n → D s y + D y t = D s t → d y ≤ D s y := by
    intro hf n
    induction n with
    | zero =>
      intro y hy hn hon
      by_cases c : y = s
      · subst c; have := h.1; omega
      · rcases (hD s hs).2.2.2 y hy c with w | ⟨a, l, w, z⟩
        · omega
        · have := (N a y l w).2.2
          omega
    | succ n ih =>
      intro y hy hn hon
      by_cases c : y = s
      · subst c; have := h.1; omega
      · rcases (hD s hs).2.2.2 y hy c with w | ⟨a, l, w, z⟩
        · omega
        · have hl := N a y l w
          have t1 := rt_tri N hD hs hl.1 ht
          have t2 := rt_tri N hD hl.1 hy ht
          have t3 := rt_el N hD w
          have h3 := ih a hl.1 (by omega) (by omega)
          have h4 := h.2.2.1 a y l (h2 a y l w (by omega))
          omega
  have l1 := lb _ t ht (Nat.le_refl _)
  have f1 := h.2.1 t ht
  have f2 := (hD t ht).1
  by_cases c : D s t < 1000000
  · have := ub c _ t ht (Nat.le_refl _) (by omega)
    omega
  · omega
/-! signs: the rank of a point on its way to t -/
def rt_rk (D : Nat → Nat → Nat) (t p : Nat) : Nat := rt_c (fun x => decide (D x t < D p t)) 12
theorem rt_rk_lt {D : Nat → Nat → Nat} {t p b : Nat} (hb : b < 12) (h : D b t < D p t) : rt_rk D t b < rt_rk D t p := by
  apply rt_c_lt b
  · simp
  · simp [h]
  · exact hb
  · intro j _ q
    simp at q ⊢
    omega
theorem rt_rk_11 {D : Nat → Nat → Nat} {t p : Nat} (hp : p < 12) : rt_rk D t p < 12 := by
  have h1 := rt_c_lt (P := fun x => decide (D x t < D p t)) (Q := fun _ => true) p (by simp) rfl 12 hp (fun _ _ _ => rfl)
  have h2 := rt_c_le (fun _ => true) 12
  unfold rt_rk
  omega
/-! the reference's rounds -/
def rt_sum (y : Nat → Nat) : Nat → Nat
  | 0 => 0
  | n + 1 => rt_sum y n + y n
theorem rt_sum_le {y z : Nat → Nat} : ∀ n, (∀ j, j < n → y j ≤ z j) → rt_sum y n ≤ rt_sum z n := by
  intro n
  induction n with
  | zero => intro _; exact Nat.le_refl _
  | succ n ih =>
    intro h
    have h1 := ih (fun j hj => h j (by omega))
    have h2 := h n (by omega)
    unfold rt_sum
    omega
theorem rt_sum_lt {y z : Nat → Nat} (k : Nat) (hk : y k < z k) : ∀ n, k < n → (∀ j, j < n → y j ≤ z j) → rt_sum y n < rt_sum z n := by
  intro n
  induction n with
  | zero => intro h; omega
  | succ n ih =>
    intro hn h
    unfold rt_sum
    by_cases c : k = n
    · subst c
      have := rt_sum_le k (fun j hj => h j (by omega))
      omega
    · have h1 := ih (by omega) (fun j hj => h j (by omega))
      have h2 := h n (by omega)
      omega
def rt_fin (y : Nat → Nat) : Nat := rt_c (fun x => decide (y x < 1000000)) 12
def rt_YI (e : Nat → Nat → Nat → Prop) (s : Nat) (y : Nat → Nat) : Prop :=
  y s = 0 ∧ (∀ x, x < 12 → y x ≤ 1000000) ∧
  (∀ x, x < 12 → x ≠ s → y x = 1000000 ∨ ∃ a l, a < 12 ∧ e a x l ∧ y a + l ≤ y x) ∧
  (∀ x, x < 12 → y x < 1000000 → y x ≤ 30 * rt_fin y)
theorem rt_YI_b {e : Nat → Nat → Nat → Prop} {s : Nat} {y : Nat → Nat} (h : rt_YI e s y) {x : Nat} (hx : x < 12) : y x = 1000000 ∨ y x ≤ 360 := by
  have h1 := h.2.1 x hx
  have h2 := h.2.2.2 x hx
  have h3 : rt_fin y ≤ 12 := rt_c_le _ 12
  omega
theorem rt_YI_step {e : Nat → Nat → Nat → Prop} {s a b l : Nat} {y y' : Nat → Nat} (N : rt_net e) (hl30 : l ≤ 30) (hs : s < 12) (h : rt_YI e s y) (w : e a b l) (hf : y a < 1000000) (hlt : y a + l < y b) (h1 : y' b = y a + l) (h2 : ∀ x, x < 12 → x ≠ b → y' x = y x) : rt_YI e s y' ∧ rt_sum y' 12 < rt_sum y 12 := by
  have hn := N a b l w
  have hba := rt_YI_b h hn.1
  obtain ⟨i1, i2, i3, i4⟩ := h
  have hle : ∀ x, x < 12 → y' x ≤ y x := by
    intro x hx
    by_cases c : x = b
    · subst c; omega
    · rw [h2 x hx c]; exact Nat.le_refl _
  refine ⟨⟨?_, ?_, ?_, ?_⟩, ?_⟩
  · have := hle s hs
    omega
  · intro x hx
    have := hle x hx
    have := i2 x hx
    omega
  · intro x hx c
    by_cases cb : x = b
    · subst cb
      refine Or.inr ⟨a, l, hn.1, w, ?_⟩
      have := hle a hn.1
      omega
    · rw [h2 x hx cb]
      rcases i3 x hx c with q | ⟨a', l', ha, q, z⟩
      · exact Or.inl q
      · refine Or.inr ⟨a', l', ha, q, ?_⟩
        have := hle a' ha
        omega
  · have hmono : rt_fin y ≤ rt_fin y' := rt_c_mono 12 (fun j hj q => by
      simp at q ⊢
      have := hle j hj
      omega)
    intro x hx hfx
    by_cases cb : x = b
    · subst cb
      by_cases c2 : y x < 1000000
      · have := i4 x hx c2
        omega
      · have hlt2 : rt_fin y < rt_fin y' := rt_c_lt x (by simp; omega) (by simp; omega) 12 hx (fun j hj q => by
          simp at q ⊢
          have := hle j hj
          omega)
        have := i4 a hn.1 hf
        omega
    · rw [h2 x hx cb] at hfx ⊢
      have := i4 x hx hfx
      omega
  · exact rt_sum_lt b (by omega) 12 hn.2.1 hle
theorem rt_YI_end {e : Nat → Nat → Nat → Prop} {s : Nat} {y : Nat → Nat} (h : rt_YI e s y) (hr : ∀ a b l, e a b l → y b ≤ y a + l) : rt_SS e s y := by
  obtain ⟨i1, i2, i3, i4⟩ := h
  refine ⟨i1, i2, hr, fun t ht c => ?_⟩
  rcases i3 t ht c with q | ⟨a, l, ha, q, z⟩
  · exact Or.inl q
  · refine Or.inr ⟨a, l, q, ?_⟩
    have := hr a t l q
    omega
end
section
/-! walks: small helps, the searches -/
theorem rt_10 : ¬ (1 : Int32) = 0 := by decide
theorem rt_nm1 {p : Nat} (h : p < 2 ^ 31) : ¬ nI p = -1 := by
  intro z
  have h1 : (nI p).toInt = (-1 : Int32).toInt := by rw [z]
  rw [nI_toInt h] at h1
  have h2 : (-1 : Int32).toInt = -1 := by decide
  omega
theorem rt_uc {a : Nat → Int32} {k : Nat} {x y : Int32} (hk : k < 2 ^ 31) (hx : x = y := by rfl) : upd a (nI k).toNatClampNeg x = upd a k y := by
  rw [nI_clamp hk, hx]
theorem rt_ucx {a : Nat → Int32} {k j : Nat} {x y : Int32} (hk : k < 12) (hj : j < 12) (hx : x = y := by rfl) : upd a (nI k * 12 + nI j).toNatClampNeg x = upd a (k * 12 + j) y := by
  rw [rt_cx hk hj, hx]
theorem rt_n0 : vp_nar .boolean 0 = 0 := by decide
theorem rt_n1 : vp_nar .boolean 1 = 1 := by decide
theorem rt_rd {a : Nat → Int32} {n M k : Nat} (h : rt_ok a n M) (hk : k < n) (hn : n < 2 ^ 31 := by decide) : a (nI k).toNatClampNeg = nI (rt_v a k) := by
  rw [nI_clamp (by omega)]; exact (h k hk).1
theorem rt_rdx {a : Nat → Int32} {M k j : Nat} (h : rt_ok a 144 M) (hk : k < 12) (hj : j < 12) : a (nI k * 12 + nI j).toNatClampNeg = nI (rt_t a k j) := by
  rw [rt_cx hk hj]; exact (h _ (by omega)).1
/-- the same at an index that is itself read -/
theorem rt_rde {a : Nat → Int32} {n M k : Nat} {x : Int32} (h : rt_ok a n M) (hx : x = nI k) (hk : k < n) (hn : n < 2 ^ 31 := by decide) : a x.toNatClampNeg = nI (rt_v a k) := by
  rw [hx]; exact rt_rd h hk hn
theorem rt_rdxe {a : Nat → Int32} {M k j : Nat} {x y : Int32} (h : rt_ok a 144 M) (hx : x = nI k) (hy : y = nI j) (hk : k < 12) (hj : j < 12) : a (x * 12 + y).toNatClampNeg = nI (rt_t a k j) := by
  rw [hx, hy]; exact rt_rdx h hk hj
def rt_s (a : Nat → Int32) (j : Nat) : Bool := if a j = 0 then false else true
theorem rt_s_f {a : Nat → Int32} {j : Nat} : rt_s a j = false ↔ a j = 0 := by
  unfold rt_s; split <;> simp_all
theorem rt_s_t {a : Nat → Int32} {j : Nat} : rt_s a j = true ↔ ¬ a j = 0 := by
  unfold rt_s; split <;> simp_all
theorem rt_s_u1 {a : Nat → Int32} {p : Nat} : rt_s (upd a p 1) p = true := by
  rw [rt_s_t, pk_us]; decide
theorem rt_s_un {a : Nat → Int32} {p j : Nat} (h : j ≠ p) : rt_s (upd a p 1) j = rt_s a j := by
  unfold rt_s; rw [pk_un h]
/-! the net of the arrays -/
def rt_eP (P : Nat → Prop) (B E L : Nat → Int32) : Nat → Nat → Nat → Prop := fun a b l => ∃ k, k < 28 ∧ P k ∧ rt_v B k = a ∧ rt_v E k = b ∧ rt_v L k = l
theorem rt_eP_net {P : Nat → Prop} {B E L : Nat → Int32} (hB : rt_ok B 28 11) (hE : rt_ok E 28 11) (h : ∀ k, k < 28 → P k → 1 ≤ rt_v L k) : rt_net (rt_eP P B E L) := by
  rintro a b l ⟨k, hk, hp, h1, h2, h3⟩
  have q1 := (hB k hk).2
  have q2 := (hE k hk).2
  have q3 := h k hk hp
  omega
theorem rt_eP_congr {P Q : Nat → Prop} {B E L : Nat → Int32} (h : ∀ k, k < 28 → (P k ↔ Q k)) : rt_eP P B E L = rt_eP Q B E L := by
  funext a b l
  apply propext
  constructor
  · rintro ⟨k, hk, hp, r⟩; exact ⟨k, hk, (h k hk).mp hp, r⟩
  · rintro ⟨k, hk, hp, r⟩; exact ⟨k, hk, (h k hk).mpr hp, r⟩
theorem rt_eP_rev {P : Nat → Prop} {B E L : Nat → Int32} : rt_eP P E B L = rt_rev (rt_eP P B E L) := by
  funext a b l
  apply propext
  constructor
  · rintro ⟨k, hk, hp, h1, h2, h3⟩; exact ⟨k, hk, hp, h2, h1, h3⟩
  · rintro ⟨k, hk, hp, h1, h2, h3⟩; exact ⟨k, hk, hp, h2, h1, h3⟩
theorem rx_isRoad {post : Int32 → Prop} {f : Int32} {B E L T MF MT C HT HF FL SG bs st up dn : Nat → Int32} {k : Nat} (hk : k < 28) (h1 : rt_b f k → post 1) (h0 : ¬ rt_b f k → post 0) : wpX_isRoad post (f, B, E, L, T, MF, MT, C, HT, HF, FL, SG, bs, st, up, dn) (nI k) :=
  br_f (nI_pos (by omega)) (br_f (nI_ge (b := 28) hk (by decide)) ⟨fun z => h0 (fun q => q z), fun z => h1 z⟩)
theorem rx_start {post : SX → Prop} {f : Int32} {B E L T MF MT C HT HF FL SG bs st up dn : Nat → Int32} {s : Nat} (hs : s < 12) (h : ∀ bs' st', rt_ok bs' 12 1000000 → rt_v bs' s = 0 → (∀ x, x < 12 → x ≠ s → rt_v bs' x = 1000000) → (∀ x, x < 12 → rt_s st' x = false) → post (f, B, E, L, T, MF, MT, C, HT, HF, FL, SG, bs', st', up, dn)) : wpX_startSearch post (f, B, E, L, T, MF, MT, C, HT, HF, FL, SG, bs, st, up, dn) (nI s) := by
  refine loop_0 (fun n i (w : (Nat → Int32) × (Nat → Int32)) => wX_startSearch_2 post (nI s) f n (nI i) B E L T MF MT C HT HF FL SG w.1 w.2 up dn) (fun i w => ∀ x, x < i → w.1 x = nI 1000000 ∧ w.2 x = 0) 12 (bs, st) ?_ ?_ ?_
  · intro x hx; omega
  · intro n w hw
    refine pk_le 12 12 (fun _ => ?_) (fun h => by omega)
    refine ⟨vp_in_nI hs (by omega), nm_r (rt_uc (y := nI 0) (by omega)) ?_⟩
    have hok : rt_ok w.1 12 1000000 := rt_okI (by decide) (fun j hj => ⟨1000000, by omega, (hw j hj).1⟩)
    refine h (upd w.1 s (nI 0)) w.2 (rt_oku hok (by omega) (by decide)) ?_ ?_ ?_
    · rw [rt_vu (by decide), if_pos rfl]
    · intro x hx c
      rw [rt_vu (by decide), if_neg c]
      exact rt_v_of (hw x hx).1 (by decide)
    · intro x hx
      rw [rt_s_f]; exact (hw x hx).2
  · intro n i w hi hw ih
    refine pk_le 12 i (fun h => by omega) (fun _ => ?_)
    refine ⟨vp_in_nI hi (by omega), nm_r (rt_uc (y := nI 1000000) (by omega)) ⟨vp_in_nI hi (by omega), nm_r (rt_uc (y := 0) (by omega) rt_n0) (nm_r (nI_1 i) ?_)⟩⟩
    refine ih (upd w.1 i (nI 1000000), upd w.2 i 0) ?_
    intro x hx
    by_cases c : x = i
    · subst c; exact ⟨pk_us, pk_us⟩
    · have := hw x (by omega)
      refine ⟨?_, ?_⟩
      · exact (pk_un c).trans this.1
      · exact (pk_un c).trans this.2
theorem rx_near {post : Int32 → Prop} {f : Int32} {B E L T MF MT C HT HF FL SG bs st up dn : Nat → Int32} (hb : rt_ok bs 12 1000000) (h0 : (∀ q, q < 12 → rt_s st q = false → 1000000 ≤ rt_v bs q) → post (-1)) (h1 : ∀ p, p < 12 → rt_s st p = false → rt_v bs p < 1000000 → (∀ q, q < 12 → rt_s st q = false → rt_v bs p ≤ rt_v bs q) → post (nI p)) : wpX_nearestOpen post (f, B, E, L, T, MF, MT, C, HT, HF, FL, SG, bs, st, up, dn) := by
  refine loop_0 (fun n i (w : Int32 × Int32) => wX_nearestOpen_7 post f B E L T MF MT C HT HF FL SG bs st up dn n w.1 w.2 (nI i)) (fun i w => ∃ m, w.2 = nI m ∧ m ≤ 1000000 ∧ (∀ q, q < i → rt_s st q = false → m ≤ rt_v bs q) ∧ ((w.1 = -1 ∧ m = 1000000) ∨ ∃ p, p < 12 ∧ w.1 = nI p ∧ rt_s st p = false ∧ rt_v bs p = m ∧ m < 1000000)) 12 (-1, 1000000) ?_ ?_ ?_
  · exact ⟨1000000, rfl, Nat.le_refl _, fun q hq => by omega, Or.inl ⟨rfl, rfl⟩⟩
  · rintro n ⟨x1, x2⟩ ⟨m, e2, hm, hq, hc⟩
    refine pk_le 12 12 (fun _ => ?_) (fun h => by omega)
    rcases hc with ⟨e1, em⟩ | ⟨p, hp, e1, ho, ev, hlt⟩
    · have e1' : x1 = -1 := e1
      rw [e1']; subst em; exact h0 hq
    · have e1' : x1 = nI p := e1
      rw [e1']; subst ev; exact h1 p hp ho hlt hq
  · rintro n i ⟨x1, x2⟩ hi ⟨m, e2, hm, hq, hc⟩ ih
    have e2' : x2 = nI m := e2
    refine pk_le 12 i (fun h => by omega) (fun _ => ⟨vp_in_nI hi (by omega), ?_⟩)
    by_cases c : st i = 0
    · refine br_t (show st (nI i).toNatClampNeg = 0 by rw [nI_clamp (by omega)]; exact c) ⟨vp_in_nI hi (by omega), ?_⟩
      have hv := hb i hi
      refine pk_le m (rt_v bs i) (fun hle => nm_r (nI_1 i) ?_) (fun hlt => ⟨vp_in_nI hi (by omega), nm_r (rt_rd hb hi) (nm_r (nI_1 i) ?_)⟩) e2' (rt_rd hb hi)
      · refine ih (x1, x2) ⟨m, e2, hm, fun q hq' ho => ?_, hc⟩
        by_cases cq : q = i
        · subst cq; exact hle
        · exact hq q (by omega) ho
      · refine ih (nI i, nI (rt_v bs i)) ⟨rt_v bs i, rfl, by omega, fun q hq' ho => ?_, Or.inr ⟨i, hi, rfl, rt_s_f.mpr c, rfl, by omega⟩⟩
        by_cases cq : q = i
        · subst cq; exact Nat.le_refl _
        · have := hq q (by omega) ho
          omega
    · refine br_f (show ¬ st (nI i).toNatClampNeg = 0 by rw [nI_clamp (by omega)]; exact c) (nm_r (nI_1 i) ?_)
      refine ih (x1, x2) ⟨m, e2, hm, fun q hq' ho => ?_, hc⟩
      by_cases cq : q = i
      · subst cq; exact absurd (rt_s_f.mp ho) c
      · exact hq q (by omega) ho
theorem rx_goOn_begins_ends {post : SX → Prop} {f : Int32} {B E L T MF MT C HT HF FL SG bs st up dn : Nat → Int32} {p : Nat} {al : Int32} (hp : p < 12) (hB : rt_ok B 28 11) (hE : rt_ok E 28 11) (hL : rt_ok L 28 30) (hal : ∀ k, k < 28 → rt_b al k → 1 ≤ rt_v L k) (hb : rt_ok bs 12 1000000) (h : ∀ bs', rt_ok bs' 12 1000000 → rt_GO (rt_eP (rt_b al) B E L) p (rt_v bs) (rt_v bs') → post (f, B, E, L, T, MF, MT, C, HT, HF, FL, SG, bs', st, up, dn)) : wpX_goOn__begins_ends post (f, B, E, L, T, MF, MT, C, HT, HF, FL, SG, bs, st, up, dn) (nI p) al := by
  refine loop_0 (fun n i (w : Nat → Int32) => wX_goOn__begins_ends_3 post (nI p) al f n (nI i) B E L T MF MT C HT HF FL SG w st up dn) (fun i w => rt_ok w 12 1000000 ∧ (∀ x, x < 12 → rt_v w x ≤ rt_v bs x) ∧ (∀ k, k < i → rt_b al k → rt_v B k = p → rt_v w (rt_v E k) ≤ rt_v bs p + rt_v L k) ∧ (∀ x, x < 12 → rt_v w x = rt_v bs x ∨ ∃ k, k < 28 ∧ rt_b al k ∧ rt_v B k = p ∧ rt_v E k = x ∧ rt_v w x = rt_v bs p + rt_v L k)) 28 bs ?_ ?_ ?_
  · exact ⟨hb, fun x _ => Nat.le_refl _, fun k hk => by omega, fun x _ => Or.inl rfl⟩
  · rintro n w ⟨i0, i1, i2, i3⟩
    refine pk_le 28 28 (fun _ => ?_) (fun h => by omega)
    refine h w i0 ⟨i1, ?_, ?_⟩
    · rintro b l ⟨k, hk, hk1, hk2, hk3, hk4⟩
      have := i2 k hk hk1 hk2
      rw [hk3, hk4] at this; exact this
    · intro x hx
      rcases i3 x hx with z | ⟨k, hk, hk1, hk2, hk3, hk4⟩
      · exact Or.inl z
      · exact Or.inr ⟨rt_v L k, ⟨k, hk, hk1, hk2, hk3, rfl⟩, hk4⟩
  · rintro n i w hi ⟨i0, i1, i2, i3⟩ ih
    have hwp : rt_v w p = rt_v bs p := by
      rcases i3 p hp with z | ⟨k, hk, hk1, hk2, hk3, hk4⟩
      · exact z
      · have := hal k hk hk1
        have := i1 p hp
        omega
    refine pk_le 28 i (fun h => by omega) (fun _ => ?_)
    by_cases c : rt_b al i
    · refine br_f c ⟨vp_in_nI hi (by omega), ?_⟩
      have hx := hB i hi
      have hy := hE i hi
      have hl := hL i hi
      have hwi := i0 (rt_v E i) (by omega)
      have hbp := hb p hp
      refine pk_eq (rt_v B i) p (fun cp => ?_) (fun cp => nm_r (nI_1 i) ?_) (rt_rd hB hi) rfl
      · refine ⟨vp_in_nI hp (by omega), vp_in_nI hi (by omega), nm_r (e' := nI (rt_v bs p + rt_v L i)) (by rw [rt_rd i0 hp, rt_rd hL hi, hwp, nI_add]) ⟨vp_in_nI hi (by omega), pk_in (rt_v E i) 12 (by omega) (rt_rd hE hi), ?_⟩⟩
        refine pk_le (rt_v w (rt_v E i)) (rt_v bs p + rt_v L i) (fun hle => nm_r (nI_1 i) ?_) (fun hlt => ⟨vp_in_nI hi (by omega), pk_in (rt_v E i) 12 (by omega) (rt_rd hE hi), nm_r (e' := upd w (rt_v E i) (nI (rt_v bs p + rt_v L i))) (by rw [pk_cl _ (rt_rd hE hi) (by omega)]) (nm_r (nI_1 i) ?_)⟩) (rt_rde i0 (rt_rd hE hi) (by omega)) rfl
        · refine ih w ⟨i0, i1, fun k hk hk1 hk2 => ?_, i3⟩
          by_cases ck : k = i
          · subst ck; exact hle
          · exact i2 k (by omega) hk1 hk2
        · refine ih _ ⟨rt_oku i0 (by omega) (by decide), fun x hx' => ?_, fun k hk hk1 hk2 => ?_, fun x hx' => ?_⟩
          · rw [rt_vu (by omega)]
            by_cases cx : x = rt_v E i
            · rw [if_pos cx, cx]
              have := i1 (rt_v E i) (by omega)
              omega
            · rw [if_neg cx]; exact i1 x hx'
          · rw [rt_vu (by omega)]
            by_cases cx : rt_v E k = rt_v E i
            · rw [if_pos cx]
              by_cases ck : k = i
              · subst ck; exact Nat.le_refl _
              · have := i2 k (by omega) hk1 hk2
                rw [cx] at this
                omega
            · rw [if_neg cx]
              by_cases ck : k = i
              · subst ck; exact absurd rfl cx
              · exact i2 k (by omega) hk1 hk2
          · rw [rt_vu (by omega)]
            by_cases cx : x = rt_v E i
            · rw [if_pos cx]
              exact Or.inr ⟨i, hi, c, cp, cx.symm, rfl⟩
            · rw [if_neg cx]; exact i3 x hx'
      · refine ih w ⟨i0, i1, fun k hk hk1 hk2 => ?_, i3⟩
        by_cases ck : k = i
        · subst ck; exact absurd hk2 cp
        · exact i2 k (by omega) hk1 hk2
    · refine br_t (Classical.byContradiction c) (nm_r (nI_1 i) ?_)
      refine ih w ⟨i0, i1, fun k hk hk1 hk2 => ?_, i3⟩
      by_cases ck : k = i
      · subst ck; exact absurd hk1 c
      · exact i2 k (by omega) hk1 hk2
theorem rx_search_begins_ends {post : SX → Prop} {f : Int32} {B E L T MF MT C HT HF FL SG bs st up dn : Nat → Int32} {s : Nat} {al : Int32} (hs : s < 12) (hB : rt_ok B 28 11) (hE : rt_ok E 28 11) (hL : rt_ok L 28 30) (hal : ∀ k, k < 28 → rt_b al k → 1 ≤ rt_v L k) (h : ∀ bs' st', rt_ok bs' 12 1000000 → rt_SS (rt_eP (rt_b al) B E L) s (rt_v bs') → post (f, B, E, L, T, MF, MT, C, HT, HF, FL, SG, bs', st', up, dn)) : wpX_search__begins_ends post (f, B, E, L, T, MF, MT, C, HT, HF, FL, SG, bs, st, up, dn) (nI s) al := by
  have N : rt_net (rt_eP (rt_b al) B E L) := rt_eP_net hB hE hal
  unfold wpX_search__begins_ends
  refine rx_start hs (fun bs0 st0 k0 k1 k2 k3 => ?_)
  refine loop_0 (fun n i (w : (Nat → Int32) × (Nat → Int32)) => wX_search__begins_ends_8 post al n (nI i) f B E L T MF MT C HT HF FL SG w.1 w.2 up dn) (fun i w => rt_ok w.1 12 1000000 ∧ rt_DJ (rt_eP (rt_b al) B E L) s (rt_v w.1) (rt_s w.2) i) 12 (bs0, st0) ?_ ?_ ?_
  · exact ⟨k0, rt_DJ_init N hs k1 k2 k3⟩
  · rintro n w ⟨i0, i1⟩
    refine pk_le 12 12 (fun _ => ?_) (fun h => by omega)
    exact h w.1 w.2 i0 (rt_DJ_end N i1 (Or.inl rfl))
  · rintro n i w hi ⟨i0, i1⟩ ih
    refine pk_le 12 i (fun h => by omega) (fun _ => ?_)
    refine rx_near i0 (fun hn => br_t rfl ?_) (fun p hp ho hlt hm => br_f (rt_nm1 (by omega)) ⟨vp_in_nI hp (by omega), nm_r (rt_uc (y := 1) (by omega) rt_n1) ?_⟩)
    · exact h w.1 w.2 i0 (rt_DJ_end N i1 (Or.inr hn))
    · refine rx_goOn_begins_ends hp hB hE hL hal i0 (fun bs' j0 j1 => nm_r (nI_1 i) ?_)
      exact ih (bs', upd w.2 p 1) ⟨j0, rt_DJ_step N i1 hs hp ho hm j1 rt_s_u1 (fun j _ c => rt_s_un c)⟩
theorem rx_goOn_ends_begins {post : SX → Prop} {f : Int32} {B E L T MF MT C HT HF FL SG bs st up dn : Nat → Int32} {p : Nat} {al : Int32} (hp : p < 12) (hB : rt_ok B 28 11) (hE : rt_ok E 28 11) (hL : rt_ok L 28 30) (hal : ∀ k, k < 28 → rt_b al k → 1 ≤ rt_v L k) (hb : rt_ok bs 12 1000000) (h : ∀ bs', rt_ok bs' 12 1000000 → rt_GO (rt_eP (rt_b al) E B L) p (rt_v bs) (rt_v bs') → post (f, B, E, L, T, MF, MT, C, HT, HF, FL, SG, bs', st, up, dn)) : wpX_goOn__ends_begins post (f, B, E, L, T, MF, MT, C, HT, HF, FL, SG, bs, st, up, dn) (nI p) al := by
  refine loop_0 (fun n i (w : Nat → Int32) => wX_goOn__ends_begins_3 post (nI p) al f n (nI i) B E L T MF MT C HT HF FL SG w st up dn) (fun i w => rt_ok w 12 1000000 ∧ (∀ x, x < 12 → rt_v w x ≤ rt_v bs x) ∧ (∀ k, k < i → rt_b al k → rt_v E k = p → rt_v w (rt_v B k) ≤ rt_v bs p + rt_v L k) ∧ (∀ x, x < 12 → rt_v w x = rt_v bs x ∨ ∃ k, k < 28 ∧ rt_b al k ∧ rt_v E k = p ∧ rt_v B k = x ∧ rt_v w x = rt_v bs p + rt_v L k)) 28 bs ?_ ?_ ?_
  · exact ⟨hb, fun x _ => Nat.le_refl _, fun k hk => by omega, fun x _ => Or.inl rfl⟩
  · rintro n w ⟨i0, i1, i2, i3⟩
    refine pk_le 28 28 (fun _ => ?_) (fun h => by omega)
    refine h w i0 ⟨i1, ?_, ?_⟩
    · rintro b l ⟨k, hk, hk1, hk2, hk3, hk4⟩
      have := i2 k hk hk1 hk2
      rw [hk3, hk4] at this; exact this
    · intro x hx
      rcases i3 x hx with z | ⟨k, hk, hk1, hk2, hk3, hk4⟩
      · exact Or.inl z
      · exact Or.inr ⟨rt_v L k, ⟨k, hk, hk1, hk2, hk3, rfl⟩, hk4⟩
  · rintro n i w hi ⟨i0, i1, i2, i3⟩ ih
    have hwp : rt_v w p = rt_v bs p := by
      rcases i3 p hp with z | ⟨k, hk, hk1, hk2, hk3, hk4⟩
      · exact z
      · have := hal k hk hk1
        have := i1 p hp
        omega
    refine pk_le 28 i (fun h => by omega) (fun _ => ?_)
    by_cases c : rt_b al i
    · refine br_f c ⟨vp_in_nI hi (by omega), ?_⟩
      have hx := hE i hi
      have hy := hB i hi
      have hl := hL i hi
      have hwi := i0 (rt_v B i) (by omega)
      have hbp := hb p hp
      refine pk_eq (rt_v E i) p (fun cp => ?_) (fun cp => nm_r (nI_1 i) ?_) (rt_rd hE hi) rfl
      · refine ⟨vp_in_nI hp (by omega), vp_in_nI hi (by omega), nm_r (e' := nI (rt_v bs p + rt_v L i)) (by rw [rt_rd i0 hp, rt_rd hL hi, hwp, nI_add]) ⟨vp_in_nI hi (by omega), pk_in (rt_v B i) 12 (by omega) (rt_rd hB hi), ?_⟩⟩
        refine pk_le (rt_v w (rt_v B i)) (rt_v bs p + rt_v L i) (fun hle => nm_r (nI_1 i) ?_) (fun hlt => ⟨vp_in_nI hi (by omega), pk_in (rt_v B i) 12 (by omega) (rt_rd hB hi), nm_r (e' := upd w (rt_v B i) (nI (rt_v bs p + rt_v L i))) (by rw [pk_cl _ (rt_rd hB hi) (by omega)]) (nm_r (nI_1 i) ?_)⟩) (rt_rde i0 (rt_rd hB hi) (by omega)) rfl
        · refine ih w ⟨i0, i1, fun k hk hk1 hk2 => ?_, i3⟩
          by_cases ck : k = i
          · subst ck; exact hle
          · exact i2 k (by omega) hk1 hk2
        · refine ih _ ⟨rt_oku i0 (by omega) (by decide), fun x hx' => ?_, fun k hk hk1 hk2 => ?_, fun x hx' => ?_⟩
          · rw [rt_vu (by omega)]
            by_cases cx : x = rt_v B i
            · rw [if_pos cx, cx]
              have := i1 (rt_v B i) (by omega)
              omega
            · rw [if_neg cx]; exact i1 x hx'
          · rw [rt_vu (by omega)]
            by_cases cx : rt_v B k = rt_v B i
            · rw [if_pos cx]
              by_cases ck : k = i
              · subst ck; exact Nat.le_refl _
              · have := i2 k (by omega) hk1 hk2
                rw [cx] at this
                omega
            · rw [if_neg cx]
              by_cases ck : k = i
              · subst ck; exact absurd rfl cx
              · exact i2 k (by omega) hk1 hk2
          · rw [rt_vu (by omega)]
            by_cases cx : x = rt_v B i
            · rw [if_pos cx]
              exact Or.inr ⟨i, hi, c, cp, cx.symm, rfl⟩
            · rw [if_neg cx]; exact i3 x hx'
      · refine ih w ⟨i0, i1, fun k hk hk1 hk2 => ?_, i3⟩
        by_cases ck : k = i
        · subst ck; exact absurd hk2 cp
        · exact i2 k (by omega) hk1 hk2
    · refine br_t (Classical.byContradiction c) (nm_r (nI_1 i) ?_)
      refine ih w ⟨i0, i1, fun k hk hk1 hk2 => ?_, i3⟩
      by_cases ck : k = i
      · subst ck; exact absurd hk1 c
      · exact i2 k (by omega) hk1 hk2
theorem rx_search_ends_begins {post : SX → Prop} {f : Int32} {B E L T MF MT C HT HF FL SG bs st up dn : Nat → Int32} {s : Nat} {al : Int32} (hs : s < 12) (hB : rt_ok B 28 11) (hE : rt_ok E 28 11) (hL : rt_ok L 28 30) (hal : ∀ k, k < 28 → rt_b al k → 1 ≤ rt_v L k) (h : ∀ bs' st', rt_ok bs' 12 1000000 → rt_SS (rt_eP (rt_b al) E B L) s (rt_v bs') → post (f, B, E, L, T, MF, MT, C, HT, HF, FL, SG, bs', st', up, dn)) : wpX_search__ends_begins post (f, B, E, L, T, MF, MT, C, HT, HF, FL, SG, bs, st, up, dn) (nI s) al := by
  have N : rt_net (rt_eP (rt_b al) E B L) := rt_eP_net hE hB hal
  unfold wpX_search__ends_begins
  refine rx_start hs (fun bs0 st0 k0 k1 k2 k3 => ?_)
  refine loop_0 (fun n i (w : (Nat → Int32) × (Nat → Int32)) => wX_search__ends_begins_8 post al n (nI i) f B E L T MF MT C HT HF FL SG w.1 w.2 up dn) (fun i w => rt_ok w.1 12 1000000 ∧ rt_DJ (rt_eP (rt_b al) E B L) s (rt_v w.1) (rt_s w.2) i) 12 (bs0, st0) ?_ ?_ ?_
  · exact ⟨k0, rt_DJ_init N hs k1 k2 k3⟩
  · rintro n w ⟨i0, i1⟩
    refine pk_le 12 12 (fun _ => ?_) (fun h => by omega)
    exact h w.1 w.2 i0 (rt_DJ_end N i1 (Or.inl rfl))
  · rintro n i w hi ⟨i0, i1⟩ ih
    refine pk_le 12 i (fun h => by omega) (fun _ => ?_)
    refine rx_near i0 (fun hn => br_t rfl ?_) (fun p hp ho hlt hm => br_f (rt_nm1 (by omega)) ⟨vp_in_nI hp (by omega), nm_r (rt_uc (y := 1) (by omega) rt_n1) ?_⟩)
    · exact h w.1 w.2 i0 (rt_DJ_end N i1 (Or.inr hn))
    · refine rx_goOn_ends_begins hp hB hE hL hal i0 (fun bs' j0 j1 => nm_r (nI_1 i) ?_)
      exact ih (bs', upd w.2 p 1) ⟨j0, rt_DJ_step N i1 hs hp ho hm j1 rt_s_u1 (fun j _ c => rt_s_un c)⟩
end
section
/-! walks: table, marks, climb prepared -/
def rt_N (f : Int32) (B E L : Nat → Int32) : Prop := rt_ok B 28 11 ∧ rt_ok E 28 11 ∧ rt_ok L 28 30 ∧ ∀ k, k < 28 → rt_b f k → 1 ≤ rt_v L k
theorem rt_N_net {f : Int32} {B E L : Nat → Int32} (h : rt_N f B E L) : rt_net (rt_eP (rt_b f) B E L) := rt_eP_net h.1 h.2.1 h.2.2.2
def rt_LR (e : Nat → Nat → Nat → Prop) (T : Nat → Nat → Nat) : Prop :=
  (∀ a, a < 12 → T a a = 0) ∧ (∀ a b l, e a b l → T a b ≤ l) ∧ (∀ a b, a < 12 → b < 12 → a ≠ b → T a b = 1000000 ∨ ∃ l, e a b l ∧ l ≤ 30 ∧ T a b = l)
theorem rt_LR_FW {e : Nat → Nat → Nat → Prop} {T : Nat → Nat → Nat} (N : rt_net e) (h : rt_LR e T) : rt_FW e 0 T := by
  obtain ⟨h1, h2, h3⟩ := h
  refine ⟨h1, ?_, h2, ?_, ?_, fun q a b hq => by omega, ?_⟩
  · intro a b ha hb
    by_cases c : a = b
    · subst c; have := h1 a ha; omega
    · rcases h3 a b ha hb c with w | ⟨l, w, w2, w3⟩ <;> omega
  · intro a b ha hb c
    rcases h3 a b ha hb c with w | ⟨l, w, w2, w3⟩
    · omega
    · have := (N a b l w).2.2
      omega
  · intro a b ha hb c
    rcases h3 a b ha hb c with w | ⟨l, w, w2, w3⟩
    · exact Or.inl w
    · exact Or.inr (Or.inl ⟨l, w, by omega⟩)
  · intro a b ha hb hf
    by_cases c : a = b
    · subst c; have := h1 a ha; omega
    · rcases h3 a b ha hb c with w | ⟨l, w, w2, w3⟩ <;> omega
theorem rt_LR_CL {e : Nat → Nat → Nat → Prop} {D T : Nat → Nat → Nat} (N : rt_net e) (hD : rt_AP e D) (h : rt_LR e T) : rt_CL e D 0 T := by
  have hF := rt_LR_FW N h
  obtain ⟨h1, h2, h3⟩ := h
  refine ⟨h1, hF.2.1, h2, ?_, fun q a b hq => by omega, ?_⟩
  · intro a b ha hb c
    rcases h3 a b ha hb c with w | ⟨l, w, w2, w3⟩
    · exact Or.inl w
    · exact Or.inr (Or.inl ⟨l, w, by omega⟩)
  · intro a b ha hb
    by_cases c : a = b
    · subst c; have := (hD a ha).1; omega
    · rcases h3 a b ha hb c with w | ⟨l, w, w2, w3⟩
      · have := (hD a ha).2.1 b hb; omega
      · have := rt_el N hD w; omega
def rt_st (lo p : Nat) (T : Nat → Nat → Nat) (a b : Nat) : Nat := if lo ≤ a ∧ lo ≤ b then min (T a b) (T a p + T p b) else T a b
theorem rt_st_c {lo p : Nat} {T : Nat → Nat → Nat} (h : lo ≤ p → T p p = 0) (x : Nat) : rt_st lo p T x p = T x p := by
  unfold rt_st
  by_cases c : lo ≤ x ∧ lo ≤ p
  · have := h c.2
    rw [if_pos c]; omega
  · rw [if_neg c]
theorem rt_st_r {lo p : Nat} {T : Nat → Nat → Nat} (h : lo ≤ p → T p p = 0) (y : Nat) : rt_st lo p T p y = T p y := by
  unfold rt_st
  by_cases c : lo ≤ p ∧ lo ≤ y
  · have := h c.1
    rw [if_pos c]; omega
  · rw [if_neg c]
theorem rx_lay_table {post : SX → Prop} {f : Int32} {B E L T MF MT C HT HF FL SG bs st up dn : Nat → Int32} (HN : rt_N f B E L) (h : ∀ w, rt_ok w 144 1000000 → rt_LR (rt_eP (rt_b f) B E L) (rt_t w) → post (f, B, E, L, w, MF, MT, C, HT, HF, FL, SG, bs, st, up, dn)) : wpX_layRoads__table post (f, B, E, L, T, MF, MT, C, HT, HF, FL, SG, bs, st, up, dn) := by
  obtain ⟨hB, hE, hL, h1⟩ := HN
  refine loop_0 (fun n i (w : Nat → Int32) => wX_layRoads__table_2 post f n (nI i) B E L w MF MT C HT HF FL SG bs st up dn) (fun i w => ∀ j, j < i → w j = nI 1000000) 144 T ?_ ?_ ?_
  · intro j hj; omega
  · intro n w0 hw0
    have ok0 : rt_ok w0 144 1000000 := rt_okI (by decide) (fun j hj => ⟨1000000, by omega, hw0 j hj⟩)
    refine pk_le 144 144 (fun _ => ?_) (fun h => by omega)
    refine loop_0 (fun n i (w : Nat → Int32) => wX_layRoads__table_22 post f n (nI i) B E L w MF MT C HT HF FL SG bs st up dn) (fun i w => rt_ok w 144 1000000 ∧ ∀ a b, a < 12 → b < 12 → rt_t w a b = if a = b ∧ a < i then 0 else 1000000) 12 w0 ?_ ?_ ?_
    · refine ⟨ok0, fun a b ha hb => ?_⟩
      rw [if_neg (by omega)]
      exact rt_v_of (hw0 _ (by omega)) (by decide)
    · rintro n w1 ⟨ok1, hw1⟩
      refine pk_le 12 12 (fun _ => ?_) (fun h => by omega)
      refine loop_0 (fun n i (w : Nat → Int32) => wX_layRoads__table_45 post f n (nI i) B E L w MF MT C HT HF FL SG bs st up dn) (fun i w => rt_ok w 144 1000000 ∧ (∀ a, a < 12 → rt_t w a a = 0) ∧ (∀ k, k < i → rt_b f k → rt_t w (rt_v B k) (rt_v E k) ≤ rt_v L k) ∧ (∀ a b, a < 12 → b < 12 → a ≠ b → rt_t w a b = 1000000 ∨ ∃ k, k < 28 ∧ rt_b f k ∧ rt_v B k = a ∧ rt_v E k = b ∧ rt_t w a b = rt_v L k)) 28 w1 ?_ ?_ ?_
      · refine ⟨ok1, fun a ha => ?_, fun k hk => by omega, fun a b ha hb c => Or.inl ?_⟩
        · rw [hw1 a a ha ha, if_pos ⟨rfl, ha⟩]
        · rw [hw1 a b ha hb, if_neg (by omega)]
      · rintro n w ⟨i0, i1, i2, i3⟩
        refine pk_le 28 28 (fun _ => ?_) (fun h => by omega)
        refine h w i0 ⟨i1, ?_, ?_⟩
        · rintro a b l ⟨k, hk, hk1, hk2, hk3, hk4⟩
          have := i2 k hk hk1
          rw [hk2, hk3, hk4] at this; exact this
        · intro a b ha hb c
          rcases i3 a b ha hb c with z | ⟨k, hk, hk1, hk2, hk3, hk4⟩
          · exact Or.inl z
          · exact Or.inr ⟨rt_v L k, ⟨k, hk, hk1, hk2, hk3, rfl⟩, (hL k hk).2, hk4⟩
      · rintro n i w hi ⟨i0, i1, i2, i3⟩ ih
        have hx := hB i hi
        have hy := hE i hi
        have hl := hL i hi
        have hx2 : rt_v B i < 12 := by omega
        have hy2 : rt_v E i < 12 := by omega
        have hw := (rt_tok i0 hx2 hy2).2
        refine pk_le 28 i (fun h => by omega) (fun _ => ⟨vp_in_nI hi (by omega), vp_in_nI hi (by omega), nm_r (e' := nI (rt_v B i) * 12 + nI (rt_v E i)) (by rw [rt_rd hB hi, rt_rd hE hi]) ?_⟩)
        refine rx_isRoad hi (fun hb => br_f rt_10 ⟨vp_in_nI hi (by omega), rt_inx hx2 hy2, ?_⟩) (fun hb => br_t rfl (nm_r (nI_1 i) ?_))
        · refine pk_le (rt_t w (rt_v B i) (rt_v E i)) (rt_v L i) (fun hle => nm_r (nI_1 i) ?_) (fun hlt => ⟨vp_in_nI hi (by omega), rt_inx hx2 hy2, nm_r (rt_ucx hx2 hy2 (rt_rd hL hi)) (nm_r (nI_1 i) ?_)⟩) (rt_rdx i0 hx2 hy2) (rt_rd hL hi)
          · refine ih w ⟨i0, i1, fun k hk hk1 => ?_, i3⟩
            by_cases ck : k = i
            · subst ck; exact hle
            · exact i2 k (by omega) hk1
          · refine ih _ ⟨rt_oku i0 (by omega) (by decide), fun a ha => ?_, fun k hk hk1 => ?_, fun a b ha hb' c => ?_⟩
            · rw [rt_tu (by omega) hy2 a a ha]
              by_cases cx : a = rt_v B i ∧ a = rt_v E i
              · exfalso
                have := i1 a ha
                rw [← cx.1, ← cx.2] at hlt
                omega
              · rw [if_neg cx]; exact i1 a ha
            · have hk28 : k < 28 := by omega
              have q1 := (hE k hk28).2
              rw [rt_tu (by omega) hy2 _ _ (by omega)]
              by_cases cx : rt_v B k = rt_v B i ∧ rt_v E k = rt_v E i
              · rw [if_pos cx]
                by_cases ck : k = i
                · subst ck; exact Nat.le_refl _
                · have := i2 k (by omega) hk1
                  rw [cx.1, cx.2] at this
                  omega
              · rw [if_neg cx]
                by_cases ck : k = i
                · subst ck; exact absurd ⟨rfl, rfl⟩ cx
                · exact i2 k (by omega) hk1
            · rw [rt_tu (by omega) hy2 a b hb']
              by_cases cx : a = rt_v B i ∧ b = rt_v E i
              · rw [if_pos cx]
                exact Or.inr ⟨i, hi, hb, cx.1.symm, cx.2.symm, rfl⟩
              · rw [if_neg cx]; exact i3 a b ha hb' c
        · refine ih w ⟨i0, i1, fun k hk hk1 => ?_, i3⟩
          by_cases ck : k = i
          · subst ck; exact absurd hk1 hb
          · exact i2 k (by omega) hk1
    · rintro n i w hi ⟨i0, i1⟩ ih
      refine pk_le 12 i (fun h => by omega) (fun _ => ⟨rt_inx hi hi, nm_r (rt_ucx hi hi (y := nI 0)) (nm_r (nI_1 i) ?_)⟩)
      refine ih _ ⟨rt_oku i0 (by omega) (by decide), fun a b ha hb => ?_⟩
      rw [rt_tu (by decide) hi a b hb, i1 a b ha hb]
      by_cases c : a = i ∧ b = i
      · rw [if_pos c, if_pos (by omega)]
      · rw [if_neg c]
        by_cases c2 : a = b ∧ a < i
        · rw [if_pos c2, if_pos (by omega)]
        · rw [if_neg c2, if_neg (by omega)]
  · intro n i w hi hw ih
    refine pk_le 144 i (fun h => by omega) (fun _ => ⟨vp_in_nI hi (by omega), nm_r (rt_uc (y := nI 1000000) (by omega)) (nm_r (nI_1 i) ?_)⟩)
    refine ih _ (fun j hj => ?_)
    by_cases c : j = i
    · subst c; exact pk_us
    · exact (pk_un c).trans (hw j (by omega))
theorem rx_short_table {post : SX → Prop} {f : Int32} {B E L T MF MT C HT HF FL SG bs st up dn : Nat → Int32} {p lo : Nat} {x : Int32} (hx : x = nI lo) (hp : p < 12) (hlo : lo ≤ 12) (ok : rt_ok T 144 1000000) (hpp : lo ≤ p → rt_t T p p = 0) (h : ∀ w, rt_ok w 144 1000000 → (∀ a b, a < 12 → b < 12 → rt_t w a b = rt_st lo p (rt_t T) a b) → post (f, B, E, L, w, MF, MT, C, HT, HF, FL, SG, bs, st, up, dn)) : wpX_shortenOver__table post (f, B, E, L, T, MF, MT, C, HT, HF, FL, SG, bs, st, up, dn) (nI p) x := by
  subst hx
  refine pk_loop (fun n i (w : Nat → Int32) => wX_shortenOver__table_3 post (nI p) (nI lo) f n (nI i) B E L w MF MT C HT HF FL SG bs st up dn) (fun i w => lo ≤ i ∧ rt_ok w 144 1000000 ∧ ∀ a b, a < 12 → b < 12 → rt_t w a b = if a < i then rt_st lo p (rt_t T) a b else rt_t T a b) 12 lo T hlo ?_ ?_ ?_
  · refine ⟨Nat.le_refl _, ok, fun a b ha hb => ?_⟩
    by_cases c : a < lo
    · rw [if_pos c]; unfold rt_st; rw [if_neg (by omega)]
    · rw [if_neg c]
  · rintro n w ⟨_, i0, i1⟩
    refine pk_le 12 12 (fun _ => ?_) (fun h => by omega)
    refine h w i0 (fun a b ha hb => ?_)
    rw [i1 a b ha hb, if_pos ha]
  · rintro n i w hi ⟨hli, i0, i1⟩ ih
    refine pk_le 12 i (fun h => by omega) (fun _ => ?_)
    refine pk_loop (fun m j (w : Nat → Int32) => wX_shortenOver__table_13 post (wX_shortenOver__table_3 post (nI p) (nI lo) f n) (nI p) (nI lo) (nI i) f m (nI j) B E L w MF MT C HT HF FL SG bs st up dn) (fun j w => lo ≤ j ∧ rt_ok w 144 1000000 ∧ ∀ a b, a < 12 → b < 12 → rt_t w a b = if a < i ∨ (a = i ∧ b < j) then rt_st lo p (rt_t T) a b else rt_t T a b) 12 lo w hlo ?_ ?_ ?_
    · refine ⟨Nat.le_refl _, i0, fun a b ha hb => ?_⟩
      rw [i1 a b ha hb]
      by_cases c : a < i
      · rw [if_pos c, if_pos (Or.inl c)]
      · rw [if_neg c]
        by_cases c2 : a < i ∨ (a = i ∧ b < lo)
        · rw [if_pos c2]; unfold rt_st; rw [if_neg (by omega)]
        · rw [if_neg c2]
    · rintro m w2 ⟨_, j0, j1⟩
      refine pk_le 12 12 (fun _ => nm_r (nI_1 i) ?_) (fun h => by omega)
      refine ih w2 ⟨by omega, j0, fun a b ha hb => ?_⟩
      rw [j1 a b ha hb]
      by_cases c : a < i + 1
      · rw [if_pos c, if_pos (by omega)]
      · rw [if_neg c, if_neg (by omega)]
    · rintro m j w2 hj ⟨hlj, j0, j1⟩ ih2
      have r1 : rt_t w2 i p = rt_t T i p := by
        rw [j1 i p hi hp]; split
        · exact rt_st_c hpp i
        · rfl
      have r2 : rt_t w2 p j = rt_t T p j := by
        rw [j1 p j hp hj]; split
        · exact rt_st_r hpp j
        · rfl
      have r3 : rt_t w2 i j = rt_t T i j := by rw [j1 i j hi hj, if_neg (by omega)]
      have b1 := (rt_tok ok hi hp).2
      have b2 := (rt_tok ok hp hj).2
      have b3 := (rt_tok ok hi hj).2
      have es : rt_st lo p (rt_t T) i j = min (rt_t T i j) (rt_t T i p + rt_t T p j) := by
        unfold rt_st; rw [if_pos ⟨hli, hlj⟩]
      refine pk_le 12 j (fun h => by omega) (fun _ => ⟨rt_inx hi hp, rt_inx hp hj, nm_r (e' := nI (rt_t T i p + rt_t T p j)) (by rw [rt_rdx j0 hi hp, rt_rdx j0 hp hj, r1, r2, nI_add]) ⟨rt_inx hi hj, ?_⟩⟩)
      refine pk_le (rt_t T i j) (rt_t T i p + rt_t T p j) (fun hle => nm_r (nI_1 j) ?_) (fun hlt => ⟨rt_inx hi hj, nm_r (rt_ucx hi hj) (nm_r (nI_1 j) ?_)⟩) (by rw [rt_rdx j0 hi hj, r3]) rfl
      · refine ih2 w2 ⟨by omega, j0, fun a b ha hb => ?_⟩
        rw [j1 a b ha hb]
        by_cases c : a = i ∧ b = j
        · obtain ⟨c1, c2⟩ := c
          subst c1; subst c2
          rw [if_neg (by omega), if_pos (by omega), es]; omega
        · by_cases c2 : a < i ∨ (a = i ∧ b < j)
          · rw [if_pos c2, if_pos (by omega)]
          · rw [if_neg c2, if_neg (by omega)]
      · refine ih2 _ ⟨by omega, rt_oku j0 (by omega) (by decide), fun a b ha hb => ?_⟩
        rw [rt_tu (by omega) hj a b hb]
        by_cases c : a = i ∧ b = j
        · rw [if_pos c]
          obtain ⟨c1, c2⟩ := c
          subst c1; subst c2
          rw [if_pos (by omega), es]; omega
        · rw [if_neg c, j1 a b ha hb]
          by_cases c2 : a < i ∨ (a = i ∧ b < j)
          · rw [if_pos c2, if_pos (by omega)]
          · rw [if_neg c2, if_neg (by omega)]
theorem rx_lay_climb {post : SX → Prop} {f : Int32} {B E L T MF MT C HT HF FL SG bs st up dn : Nat → Int32} (HN : rt_N f B E L) (h : ∀ w, rt_ok w 144 1000000 → rt_LR (rt_eP (rt_b f) B E L) (rt_t w) → post (f, B, E, L, T, MF, MT, w, HT, HF, FL, SG, bs, st, up, dn)) : wpX_layRoads__climb post (f, B, E, L, T, MF, MT, C, HT, HF, FL, SG, bs, st, up, dn) := by
  obtain ⟨hB, hE, hL, h1⟩ := HN
  refine loop_0 (fun n i (w : Nat → Int32) => wX_layRoads__climb_2 post f n (nI i) B E L T MF MT w HT HF FL SG bs st up dn) (fun i w => ∀ j, j < i → w j = nI 1000000) 144 C ?_ ?_ ?_
  · intro j hj; omega
  · intro n w0 hw0
    have ok0 : rt_ok w0 144 1000000 := rt_okI (by decide) (fun j hj => ⟨1000000, by omega, hw0 j hj⟩)
    refine pk_le 144 144 (fun _ => ?_) (fun h => by omega)
    refine loop_0 (fun n i (w : Nat → Int32) => wX_layRoads__climb_22 post f n (nI i) B E L T MF MT w HT HF FL SG bs st up dn) (fun i w => rt_ok w 144 1000000 ∧ ∀ a b, a < 12 → b < 12 → rt_t w a b = if a = b ∧ a < i then 0 else 1000000) 12 w0 ?_ ?_ ?_
    · refine ⟨ok0, fun a b ha hb => ?_⟩
      rw [if_neg (by omega)]
      exact rt_v_of (hw0 _ (by omega)) (by decide)
    · rintro n w1 ⟨ok1, hw1⟩
      refine pk_le 12 12 (fun _ => ?_) (fun h => by omega)
      refine loop_0 (fun n i (w : Nat → Int32) => wX_layRoads__climb_45 post f n (nI i) B E L T MF MT w HT HF FL SG bs st up dn) (fun i w => rt_ok w 144 1000000 ∧ (∀ a, a < 12 → rt_t w a a = 0) ∧ (∀ k, k < i → rt_b f k → rt_t w (rt_v B k) (rt_v E k) ≤ rt_v L k) ∧ (∀ a b, a < 12 → b < 12 → a ≠ b → rt_t w a b = 1000000 ∨ ∃ k, k < 28 ∧ rt_b f k ∧ rt_v B k = a ∧ rt_v E k = b ∧ rt_t w a b = rt_v L k)) 28 w1 ?_ ?_ ?_
      · refine ⟨ok1, fun a ha => ?_, fun k hk => by omega, fun a b ha hb c => Or.inl ?_⟩
        · rw [hw1 a a ha ha, if_pos ⟨rfl, ha⟩]
        · rw [hw1 a b ha hb, if_neg (by omega)]
      · rintro n w ⟨i0, i1, i2, i3⟩
        refine pk_le 28 28 (fun _ => ?_) (fun h => by omega)
        refine h w i0 ⟨i1, ?_, ?_⟩
        · rintro a b l ⟨k, hk, hk1, hk2, hk3, hk4⟩
          have := i2 k hk hk1
          rw [hk2, hk3, hk4] at this; exact this
        · intro a b ha hb c
          rcases i3 a b ha hb c with z | ⟨k, hk, hk1, hk2, hk3, hk4⟩
          · exact Or.inl z
          · exact Or.inr ⟨rt_v L k, ⟨k, hk, hk1, hk2, hk3, rfl⟩, (hL k hk).2, hk4⟩
      · rintro n i w hi ⟨i0, i1, i2, i3⟩ ih
        have hx := hB i hi
        have hy := hE i hi
        have hl := hL i hi
        have hx2 : rt_v B i < 12 := by omega
        have hy2 : rt_v E i < 12 := by omega
        have hw := (rt_tok i0 hx2 hy2).2
        refine pk_le 28 i (fun h => by omega) (fun _ => ⟨vp_in_nI hi (by omega), vp_in_nI hi (by omega), nm_r (e' := nI (rt_v B i) * 12 + nI (rt_v E i)) (by rw [rt_rd hB hi, rt_rd hE hi]) ?_⟩)
        refine rx_isRoad hi (fun hb => br_f rt_10 ⟨vp_in_nI hi (by omega), rt_inx hx2 hy2, ?_⟩) (fun hb => br_t rfl (nm_r (nI_1 i) ?_))
        · refine pk_le (rt_t w (rt_v B i) (rt_v E i)) (rt_v L i) (fun hle => nm_r (nI_1 i) ?_) (fun hlt => ⟨vp_in_nI hi (by omega), rt_inx hx2 hy2, nm_r (rt_ucx hx2 hy2 (rt_rd hL hi)) (nm_r (nI_1 i) ?_)⟩) (rt_rdx i0 hx2 hy2) (rt_rd hL hi)
          · refine ih w ⟨i0, i1, fun k hk hk1 => ?_, i3⟩
            by_cases ck : k = i
            · subst ck; exact hle
            · exact i2 k (by omega) hk1
          · refine ih _ ⟨rt_oku i0 (by omega) (by decide), fun a ha => ?_, fun k hk hk1 => ?_, fun a b ha hb' c => ?_⟩
            · rw [rt_tu (by omega) hy2 a a ha]
              by_cases cx : a = rt_v B i ∧ a = rt_v E i
              · exfalso
                have := i1 a ha
                rw [← cx.1, ← cx.2] at hlt
                omega
              · rw [if_neg cx]; exact i1 a ha
            · have hk28 : k < 28 := by omega
              have q1 := (hE k hk28).2
              rw [rt_tu (by omega) hy2 _ _ (by omega)]
              by_cases cx : rt_v B k = rt_v B i ∧ rt_v E k = rt_v E i
              · rw [if_pos cx]
                by_cases ck : k = i
                · subst ck; exact Nat.le_refl _
                · have := i2 k (by omega) hk1
                  rw [cx.1, cx.2] at this
                  omega
              · rw [if_neg cx]
                by_cases ck : k = i
                · subst ck; exact absurd ⟨rfl, rfl⟩ cx
                · exact i2 k (by omega) hk1
            · rw [rt_tu (by omega) hy2 a b hb']
              by_cases cx : a = rt_v B i ∧ b = rt_v E i
              · rw [if_pos cx]
                exact Or.inr ⟨i, hi, hb, cx.1.symm, cx.2.symm, rfl⟩
              · rw [if_neg cx]; exact i3 a b ha hb' c
        · refine ih w ⟨i0, i1, fun k hk hk1 => ?_, i3⟩
          by_cases ck : k = i
          · subst ck; exact absurd hk1 hb
          · exact i2 k (by omega) hk1
    · rintro n i w hi ⟨i0, i1⟩ ih
      refine pk_le 12 i (fun h => by omega) (fun _ => ⟨rt_inx hi hi, nm_r (rt_ucx hi hi (y := nI 0)) (nm_r (nI_1 i) ?_)⟩)
      refine ih _ ⟨rt_oku i0 (by omega) (by decide), fun a b ha hb => ?_⟩
      rw [rt_tu (by decide) hi a b hb, i1 a b ha hb]
      by_cases c : a = i ∧ b = i
      · rw [if_pos c, if_pos (by omega)]
      · rw [if_neg c]
        by_cases c2 : a = b ∧ a < i
        · rw [if_pos c2, if_pos (by omega)]
        · rw [if_neg c2, if_neg (by omega)]
  · intro n i w hi hw ih
    refine pk_le 144 i (fun h => by omega) (fun _ => ⟨vp_in_nI hi (by omega), nm_r (rt_uc (y := nI 1000000) (by omega)) (nm_r (nI_1 i) ?_)⟩)
    refine ih _ (fun j hj => ?_)
    by_cases c : j = i
    · subst c; exact pk_us
    · exact (pk_un c).trans (hw j (by omega))
theorem rx_short_climb {post : SX → Prop} {f : Int32} {B E L T MF MT C HT HF FL SG bs st up dn : Nat → Int32} {p lo : Nat} {x : Int32} (hx : x = nI lo) (hp : p < 12) (hlo : lo ≤ 12) (ok : rt_ok C 144 1000000) (hpp : lo ≤ p → rt_t C p p = 0) (h : ∀ w, rt_ok w 144 1000000 → (∀ a b, a < 12 → b < 12 → rt_t w a b = rt_st lo p (rt_t C) a b) → post (f, B, E, L, T, MF, MT, w, HT, HF, FL, SG, bs, st, up, dn)) : wpX_shortenOver__climb post (f, B, E, L, T, MF, MT, C, HT, HF, FL, SG, bs, st, up, dn) (nI p) x := by
  subst hx
  refine pk_loop (fun n i (w : Nat → Int32) => wX_shortenOver__climb_3 post (nI p) (nI lo) f n (nI i) B E L T MF MT w HT HF FL SG bs st up dn) (fun i w => lo ≤ i ∧ rt_ok w 144 1000000 ∧ ∀ a b, a < 12 → b < 12 → rt_t w a b = if a < i then rt_st lo p (rt_t C) a b else rt_t C a b) 12 lo C hlo ?_ ?_ ?_
  · refine ⟨Nat.le_refl _, ok, fun a b ha hb => ?_⟩
    by_cases c : a < lo
    · rw [if_pos c]; unfold rt_st; rw [if_neg (by omega)]
    · rw [if_neg c]
  · rintro n w ⟨_, i0, i1⟩
    refine pk_le 12 12 (fun _ => ?_) (fun h => by omega)
    refine h w i0 (fun a b ha hb => ?_)
    rw [i1 a b ha hb, if_pos ha]
  · rintro n i w hi ⟨hli, i0, i1⟩ ih
    refine pk_le 12 i (fun h => by omega) (fun _ => ?_)
    refine pk_loop (fun m j (w : Nat → Int32) => wX_shortenOver__climb_13 post (wX_shortenOver__climb_3 post (nI p) (nI lo) f n) (nI p) (nI lo) (nI i) f m (nI j) B E L T MF MT w HT HF FL SG bs st up dn) (fun j w => lo ≤ j ∧ rt_ok w 144 1000000 ∧ ∀ a b, a < 12 → b < 12 → rt_t w a b = if a < i ∨ (a = i ∧ b < j) then rt_st lo p (rt_t C) a b else rt_t C a b) 12 lo w hlo ?_ ?_ ?_
    · refine ⟨Nat.le_refl _, i0, fun a b ha hb => ?_⟩
      rw [i1 a b ha hb]
      by_cases c : a < i
      · rw [if_pos c, if_pos (Or.inl c)]
      · rw [if_neg c]
        by_cases c2 : a < i ∨ (a = i ∧ b < lo)
        · rw [if_pos c2]; unfold rt_st; rw [if_neg (by omega)]
        · rw [if_neg c2]
    · rintro m w2 ⟨_, j0, j1⟩
      refine pk_le 12 12 (fun _ => nm_r (nI_1 i) ?_) (fun h => by omega)
      refine ih w2 ⟨by omega, j0, fun a b ha hb => ?_⟩
      rw [j1 a b ha hb]
      by_cases c : a < i + 1
      · rw [if_pos c, if_pos (by omega)]
      · rw [if_neg c, if_neg (by omega)]
    · rintro m j w2 hj ⟨hlj, j0, j1⟩ ih2
      have r1 : rt_t w2 i p = rt_t C i p := by
        rw [j1 i p hi hp]; split
        · exact rt_st_c hpp i
        · rfl
      have r2 : rt_t w2 p j = rt_t C p j := by
        rw [j1 p j hp hj]; split
        · exact rt_st_r hpp j
        · rfl
      have r3 : rt_t w2 i j = rt_t C i j := by rw [j1 i j hi hj, if_neg (by omega)]
      have b1 := (rt_tok ok hi hp).2
      have b2 := (rt_tok ok hp hj).2
      have b3 := (rt_tok ok hi hj).2
      have es : rt_st lo p (rt_t C) i j = min (rt_t C i j) (rt_t C i p + rt_t C p j) := by
        unfold rt_st; rw [if_pos ⟨hli, hlj⟩]
      refine pk_le 12 j (fun h => by omega) (fun _ => ⟨rt_inx hi hp, rt_inx hp hj, nm_r (e' := nI (rt_t C i p + rt_t C p j)) (by rw [rt_rdx j0 hi hp, rt_rdx j0 hp hj, r1, r2, nI_add]) ⟨rt_inx hi hj, ?_⟩⟩)
      refine pk_le (rt_t C i j) (rt_t C i p + rt_t C p j) (fun hle => nm_r (nI_1 j) ?_) (fun hlt => ⟨rt_inx hi hj, nm_r (rt_ucx hi hj) (nm_r (nI_1 j) ?_)⟩) (by rw [rt_rdx j0 hi hj, r3]) rfl
      · refine ih2 w2 ⟨by omega, j0, fun a b ha hb => ?_⟩
        rw [j1 a b ha hb]
        by_cases c : a = i ∧ b = j
        · obtain ⟨c1, c2⟩ := c
          subst c1; subst c2
          rw [if_neg (by omega), if_pos (by omega), es]; omega
        · by_cases c2 : a < i ∨ (a = i ∧ b < j)
          · rw [if_pos c2, if_pos (by omega)]
          · rw [if_neg c2, if_neg (by omega)]
      · refine ih2 _ ⟨by omega, rt_oku j0 (by omega) (by decide), fun a b ha hb => ?_⟩
        rw [rt_tu (by omega) hj a b hb]
        by_cases c : a = i ∧ b = j
        · rw [if_pos c]
          obtain ⟨c1, c2⟩ := c
          subst c1; subst c2
          rw [if_pos (by omega), es]; omega
        · rw [if_neg c, j1 a b ha hb]
          by_cases c2 : a < i ∨ (a = i ∧ b < j)
          · rw [if_pos c2, if_pos (by omega)]
          · rw [if_neg c2, if_neg (by omega)]
theorem rx_prepTable {post : SX → Prop} {f : Int32} {B E L T MF MT C HT HF FL SG bs st up dn : Nat → Int32} (HN : rt_N f B E L) (h : ∀ w, rt_ok w 144 1000000 → rt_FW (rt_eP (rt_b f) B E L) 12 (rt_t w) → post (f, B, E, L, w, MF, MT, C, HT, HF, FL, SG, bs, st, up, dn)) : wpX_prepareTable post (f, B, E, L, T, MF, MT, C, HT, HF, FL, SG, bs, st, up, dn) := by
  have N := rt_N_net HN
  unfold wpX_prepareTable
  refine rx_lay_table HN (fun w0 ok0 l0 => ?_)
  refine loop_0 (fun n i (w : Nat → Int32) => wX_prepareTable_10 post n (nI i) f B E L w MF MT C HT HF FL SG bs st up dn) (fun i w => rt_ok w 144 1000000 ∧ rt_FW (rt_eP (rt_b f) B E L) i (rt_t w)) 12 w0 ⟨ok0, rt_LR_FW N l0⟩ ?_ ?_
  · rintro n w ⟨i0, i1⟩
    exact pk_le 12 12 (fun _ => h w i0 i1) (fun h => by omega)
  · rintro n i w hi ⟨i0, i1⟩ ih
    refine pk_le 12 i (fun h => by omega) (fun _ => ?_)
    refine rx_short_table (lo := 0) rfl hi (by omega) i0 (fun _ => i1.1 i hi) (fun w' j0 j1 => nm_r (nI_1 i) ?_)
    refine ih w' ⟨j0, rt_FW_step N hi i1 (fun a b ha hb => ?_)⟩
    rw [j1 a b ha hb]; unfold rt_st; rw [if_pos ⟨Nat.zero_le _, Nat.zero_le _⟩]
theorem rx_prepClimb {post : SX → Prop} {f : Int32} {B E L T MF MT C HT HF FL SG bs st up dn : Nat → Int32} (HN : rt_N f B E L) {D : Nat → Nat → Nat} (hD : rt_AP (rt_eP (rt_b f) B E L) D) (h : ∀ w, rt_ok w 144 1000000 → rt_CL (rt_eP (rt_b f) B E L) D 12 (rt_t w) → post (f, B, E, L, T, MF, MT, w, HT, HF, FL, SG, bs, st, up, dn)) : wpX_prepareClimb post (f, B, E, L, T, MF, MT, C, HT, HF, FL, SG, bs, st, up, dn) := by
  have N := rt_N_net HN
  unfold wpX_prepareClimb
  refine rx_lay_climb HN (fun w0 ok0 l0 => ?_)
  refine loop_0 (fun n i (w : Nat → Int32) => wX_prepareClimb_10 post n (nI i) f B E L T MF MT w HT HF FL SG bs st up dn) (fun i w => rt_ok w 144 1000000 ∧ rt_CL (rt_eP (rt_b f) B E L) D i (rt_t w)) 12 w0 ⟨ok0, rt_LR_CL N hD l0⟩ ?_ ?_
  · rintro n w ⟨i0, i1⟩
    exact pk_le 12 12 (fun _ => h w i0 i1) (fun h => by omega)
  · rintro n i w hi ⟨i0, i1⟩ ih
    refine pk_le 12 i (fun h => by omega) (fun _ => ?_)
    refine rx_short_climb (lo := i + 1) (nI_1 i) hi (by omega) i0 (fun _ => i1.1 i hi) (fun w' j0 j1 => nm_r (nI_1 i) ?_)
    refine ih w' ⟨j0, rt_CL_step N hD hi i1 (fun a b ha hb => ?_)⟩
    rw [j1 a b ha hb]; rfl
theorem rx_keep_fromMark {post : SX → Prop} {f : Int32} {B E L T MF MT C HT HF FL SG bs st up dn : Nat → Int32} {r : Nat} (hr : r < 3) (h : ∀ w, (∀ x, x < 12 → w (r * 12 + x) = bs x) → (∀ j, j < r * 12 → w j = MF j) → post (f, B, E, L, T, w, MT, C, HT, HF, FL, SG, bs, st, up, dn)) : wpX_keepBest__fromMark post (f, B, E, L, T, MF, MT, C, HT, HF, FL, SG, bs, st, up, dn) (nI r) := by
  refine loop_0 (fun n i (w : Nat → Int32) => wX_keepBest__fromMark_2 post (nI r) f n (nI i) B E L T w MT C HT HF FL SG bs st up dn) (fun i w => (∀ x, x < i → w (r * 12 + x) = bs x) ∧ (∀ j, j < r * 12 → w j = MF j)) 12 MF ⟨fun x hx => by omega, fun j _ => rfl⟩ ?_ ?_
  · rintro n w ⟨i0, i1⟩
    exact pk_le 12 12 (fun _ => h w i0 i1) (fun h => by omega)
  · rintro n i w hi ⟨i0, i1⟩ ih
    refine pk_le 12 i (fun h => by omega) (fun _ => ⟨vp_in_nI hi (by omega), pk_in (r * 12 + i) 36 (by omega) (rt_ix r i), nm_r (rt_ucx (y := bs i) (by omega) hi (by rw [nI_clamp (by omega)])) (nm_r (nI_1 i) ?_)⟩)
    refine ih _ ⟨fun x hx => ?_, fun j hj => ?_⟩
    · by_cases c : x = i
      · subst c; exact pk_us
      · exact (pk_un (by omega)).trans (i0 x (by omega))
    · exact (pk_un (by omega)).trans (i1 j hj)
theorem rx_keep_toMark {post : SX → Prop} {f : Int32} {B E L T MF MT C HT HF FL SG bs st up dn : Nat → Int32} {r : Nat} (hr : r < 3) (h : ∀ w, (∀ x, x < 12 → w (r * 12 + x) = bs x) → (∀ j, j < r * 12 → w j = MT j) → post (f, B, E, L, T, MF, w, C, HT, HF, FL, SG, bs, st, up, dn)) : wpX_keepBest__toMark post (f, B, E, L, T, MF, MT, C, HT, HF, FL, SG, bs, st, up, dn) (nI r) := by
  refine loop_0 (fun n i (w : Nat → Int32) => wX_keepBest__toMark_2 post (nI r) f n (nI i) B E L T MF w C HT HF FL SG bs st up dn) (fun i w => (∀ x, x < i → w (r * 12 + x) = bs x) ∧ (∀ j, j < r * 12 → w j = MT j)) 12 MT ⟨fun x hx => by omega, fun j _ => rfl⟩ ?_ ?_
  · rintro n w ⟨i0, i1⟩
    exact pk_le 12 12 (fun _ => h w i0 i1) (fun h => by omega)
  · rintro n i w hi ⟨i0, i1⟩ ih
    refine pk_le 12 i (fun h => by omega) (fun _ => ⟨vp_in_nI hi (by omega), pk_in (r * 12 + i) 36 (by omega) (rt_ix r i), nm_r (rt_ucx (y := bs i) (by omega) hi (by rw [nI_clamp (by omega)])) (nm_r (nI_1 i) ?_)⟩)
    refine ih _ ⟨fun x hx => ?_, fun j hj => ?_⟩
    · by_cases c : x = i
      · subst c; exact pk_us
      · exact (pk_un (by omega)).trans (i0 x (by omega))
    · exact (pk_un (by omega)).trans (i1 j hj)
def rt_MK (D : Nat → Nat → Nat) (MF MT : Nat → Int32) (n : Nat) : Prop := ∀ m x, m < n → x < 12 → MF (m * 12 + x) = nI (D (m * 4) x) ∧ MT (m * 12 + x) = nI (D x (m * 4))
theorem rx_prepMarks {post : SX → Prop} {f : Int32} {B E L T MF MT C HT HF FL SG bs st up dn : Nat → Int32} (HN : rt_N f B E L) {D : Nat → Nat → Nat} (hD : rt_AP (rt_eP (rt_b f) B E L) D) (h : ∀ w1 w2 w3 w4, rt_MK D w1 w2 3 → post (f, B, E, L, T, w1, w2, C, HT, HF, FL, SG, w3, w4, up, dn)) : wpX_prepareMarks post (f, B, E, L, T, MF, MT, C, HT, HF, FL, SG, bs, st, up, dn) := by
  have N := rt_N_net HN
  have hR := rt_rev_AP N hD
  have NR := rt_rev_net N
  obtain ⟨hB, hE, hL, h1⟩ := HN
  refine loop_0 (fun n i (w : (Nat → Int32) × (Nat → Int32) × (Nat → Int32) × (Nat → Int32)) => wX_prepareMarks_2 post n (nI i) f B E L T w.1 w.2.1 C HT HF FL SG w.2.2.1 w.2.2.2 up dn) (fun i w => rt_MK D w.1 w.2.1 i) 3 (MF, MT, bs, st) (fun m x hm => by omega) ?_ ?_
  · intro n w i0
    exact pk_le 3 3 (fun _ => h _ _ _ _ i0) (fun h => by omega)
  · intro n i w hi i0 ih
    refine pk_le 3 i (fun h => by omega) (fun _ => ?_)
    have e4 : nI i * 4 = nI (i * 4) := pk_mul i 4
    rw [e4]
    have hs : i * 4 < 12 := by omega
    refine rx_search_begins_ends hs hB hE hL h1 (fun bs1 st1 k1 k2 => ?_)
    refine rx_keep_fromMark hi (fun w1 k3 k4 => ?_)
    refine rx_search_ends_begins hs hB hE hL h1 (fun bs2 st2 k5 k6 => ?_)
    refine rx_keep_toMark hi (fun w2 k7 k8 => nm_r (nI_1 i) ?_)
    refine ih (w1, w2, bs2, st2) (fun m x hm hx => ?_)
    by_cases c : m = i
    · subst c
      refine ⟨(k3 x hx).trans ?_, (k7 x hx).trans ?_⟩
      · rw [(k1 x hx).1, rt_SS_eq N k2 (hD _ hs) x hx]
      · rw [rt_eP_rev] at k6
        rw [(k5 x hx).1, rt_SS_eq NR k6 (hR _ hs) x hx]
        rfl
    · have := i0 m x (by omega) hx
      exact ⟨(k4 _ (by omega)).trans this.1, (k8 _ (by omega)).trans this.2⟩
end
section
/-! walks: hubs, flags, signs prepared; prepare -/
theorem rx_fbh_toHub_fromHub {post : Int32 → Prop} {f : Int32} {B E L T MF MT C HT HF FL SG bs st up dn : Nat → Int32} {p q : Nat} (hp : p < 12) (hq : q < 12) (ok1 : rt_ok HT 144 1000000) (ok2 : rt_ok HF 144 1000000) (h : ∀ r, rt_QU (rt_t HT) (rt_t HF) p q r → post (nI r)) : wpX_findByHubs__toHub_fromHub post (f, B, E, L, T, MF, MT, C, HT, HF, FL, SG, bs, st, up, dn) (nI p) (nI q) := by
  refine loop_0 (fun n i (w : Int32) => wX_findByHubs__toHub_fromHub_7 post (nI p) (nI q) f B E L T MF MT C HT HF FL SG bs st up dn n w (nI i)) (fun i w => ∃ m, w = nI m ∧ m ≤ 1000000 ∧ (∀ j, j < i → m ≤ rt_t HT p j + rt_t HF q j) ∧ (m = 1000000 ∨ ∃ j, j < 12 ∧ m = rt_t HT p j + rt_t HF q j)) 12 1000000 ⟨1000000, rfl, Nat.le_refl _, fun j hj => by omega, Or.inl rfl⟩ ?_ ?_
  · rintro n w ⟨m, e, hm, k1, k2⟩
    subst e
    exact pk_le 12 12 (fun _ => h m ⟨hm, k1, k2⟩) (fun h => by omega)
  · rintro n i w hi ⟨m, e, hm, k1, k2⟩ ih
    have b1 : rt_t HT p i ≤ 1000000 := (rt_tok (by assumption) hp hi).2
    have b2 : rt_t HF q i ≤ 1000000 := (rt_tok (by assumption) hq hi).2
    have e1 : HT (nI p * 12 + nI i).toNatClampNeg = nI (rt_t HT p i) := rt_rdx (by assumption) hp hi
    have e2 : HF (nI q * 12 + nI i).toNatClampNeg = nI (rt_t HF q i) := rt_rdx (by assumption) hq hi
    refine pk_le 12 i (fun h => by omega) (fun _ => ⟨rt_inx hp hi, rt_inx hq hi, nm_r (e' := nI (rt_t HT p i + rt_t HF q i)) (by rw [e1, e2, nI_add]) ?_⟩)
    refine pk_le m (rt_t HT p i + rt_t HF q i) (fun hle => nm_r (nI_1 i) ?_) (fun hlt => nm_r (nI_1 i) ?_) e rfl
    · refine ih w ⟨m, e, hm, fun j hj => ?_, k2⟩
      by_cases c : j = i
      · subst c; exact hle
      · exact k1 j (by omega)
    · refine ih _ ⟨_, rfl, by omega, fun j hj => ?_, Or.inr ⟨i, hi, rfl⟩⟩
      by_cases c : j = i
      · subst c; exact Nat.le_refl _
      · have := k1 j (by omega)
        omega
theorem rx_fbh_fromHub_toHub {post : Int32 → Prop} {f : Int32} {B E L T MF MT C HT HF FL SG bs st up dn : Nat → Int32} {p q : Nat} (hp : p < 12) (hq : q < 12) (ok1 : rt_ok HT 144 1000000) (ok2 : rt_ok HF 144 1000000) (h : ∀ r, rt_QU (rt_t HF) (rt_t HT) p q r → post (nI r)) : wpX_findByHubs__fromHub_toHub post (f, B, E, L, T, MF, MT, C, HT, HF, FL, SG, bs, st, up, dn) (nI p) (nI q) := by
  refine loop_0 (fun n i (w : Int32) => wX_findByHubs__fromHub_toHub_7 post (nI p) (nI q) f B E L T MF MT C HT HF FL SG bs st up dn n w (nI i)) (fun i w => ∃ m, w = nI m ∧ m ≤ 1000000 ∧ (∀ j, j < i → m ≤ rt_t HF p j + rt_t HT q j) ∧ (m = 1000000 ∨ ∃ j, j < 12 ∧ m = rt_t HF p j + rt_t HT q j)) 12 1000000 ⟨1000000, rfl, Nat.le_refl _, fun j hj => by omega, Or.inl rfl⟩ ?_ ?_
  · rintro n w ⟨m, e, hm, k1, k2⟩
    subst e
    exact pk_le 12 12 (fun _ => h m ⟨hm, k1, k2⟩) (fun h => by omega)
  · rintro n i w hi ⟨m, e, hm, k1, k2⟩ ih
    have b1 : rt_t HF p i ≤ 1000000 := (rt_tok (by assumption) hp hi).2
    have b2 : rt_t HT q i ≤ 1000000 := (rt_tok (by assumption) hq hi).2
    have e1 : HF (nI p * 12 + nI i).toNatClampNeg = nI (rt_t HF p i) := rt_rdx (by assumption) hp hi
    have e2 : HT (nI q * 12 + nI i).toNatClampNeg = nI (rt_t HT q i) := rt_rdx (by assumption) hq hi
    refine pk_le 12 i (fun h => by omega) (fun _ => ⟨rt_inx hp hi, rt_inx hq hi, nm_r (e' := nI (rt_t HF p i + rt_t HT q i)) (by rw [e1, e2, nI_add]) ?_⟩)
    refine pk_le m (rt_t HF p i + rt_t HT q i) (fun hle => nm_r (nI_1 i) ?_) (fun hlt => nm_r (nI_1 i) ?_) e rfl
    · refine ih w ⟨m, e, hm, fun j hj => ?_, k2⟩
      by_cases c : j = i
      · subst c; exact hle
      · exact k1 j (by omega)
    · refine ih _ ⟨_, rfl, by omega, fun j hj => ?_, Or.inr ⟨i, hi, rfl⟩⟩
      by_cases c : j = i
      · subst c; exact Nat.le_refl _
      · have := k1 j (by omega)
        omega
theorem rx_label_begins_ends_toHub_fromHub {post : SX → Prop} {f : Int32} {B E L T MF MT C HT HF FL SG bs st up dn : Nat → Int32} {h : Nat} (hh : h < 12) (HN : rt_N f B E L) {D : Nat → Nat → Nat} (hD : rt_AP (rt_eP (rt_b f) B E L) D) (ok1 : rt_ok HT 144 1000000) (ok2 : rt_ok HF 144 1000000) (lo : rt_LO (rt_tr D) (rt_t HT) h) (li : rt_LI D (rt_t HF) h) (hx : ∀ w bs' st', rt_ok w 144 1000000 → rt_LI D (rt_t w) (h + 1) → post (f, B, E, L, T, MF, MT, C, HT, w, FL, SG, bs', st', up, dn)) : wpX_label__begins_ends_toHub_fromHub post (f, B, E, L, T, MF, MT, C, HT, HF, FL, SG, bs, st, up, dn) (nI h) := by
  obtain ⟨hB, hE, hL, h1⟩ := HN
  have N : rt_net (rt_eP (rt_b f) B E L) := rt_eP_net hB hE h1
  unfold wpX_label__begins_ends_toHub_fromHub
  refine rx_start hh (fun bs0 st0 k0 k1 k2 k3 => ?_)
  refine loop_0 (fun n i (w : (Nat → Int32) × (Nat → Int32) × (Nat → Int32)) => wX_label__begins_ends_toHub_fromHub_8 post (nI h) n (nI i) f B E L T MF MT C HT w.2.2 FL SG w.1 w.2.1 up dn) (fun i w => rt_ok w.1 12 1000000 ∧ rt_ok w.2.2 144 1000000 ∧ rt_LB (rt_eP (rt_b f) B E L) D h (rt_v w.1) (rt_s w.2.1) i (rt_t w.2.2)) 12 (bs0, st0, HF) ?_ ?_ ?_
  · exact ⟨k0, by assumption, rt_LB_init hD hh k1 k2 k3 li⟩
  · rintro n w ⟨i0, i1, i2⟩
    refine pk_le 12 12 (fun _ => ?_) (fun h => by omega)
    exact hx _ _ _ i1 (rt_LB_end N hD hh i2 (Or.inl rfl))
  · rintro n i ⟨b, s, w⟩ hi ⟨i0, i1, i2⟩ ih
    have i0' : rt_ok b 12 1000000 := i0
    have i1' : rt_ok w 144 1000000 := i1
    have i2' : rt_LB (rt_eP (rt_b f) B E L) D h (rt_v b) (rt_s s) i (rt_t w) := i2
    refine pk_le 12 i (fun h => by omega) (fun _ => ?_)
    refine rx_near i0' (fun hn => br_t rfl ?_) (fun p hp ho hlt hm => br_f (rt_nm1 (by omega)) ⟨vp_in_nI hp (by omega), nm_r (rt_uc (y := 1) (by omega) rt_n1) ?_⟩)
    · exact hx _ _ _ i1 (rt_LB_end N hD hh i2' (Or.inr hn))
    · refine rx_fbh_toHub_fromHub hh hp (by assumption) (by assumption) (fun r hr => ⟨vp_in_nI hp (by omega), ?_⟩)
      have hq := rt_LB_q N hD hh hp i2' lo ho hm hlt hr
      have hr1 := hr.1
      have hlt' : rt_v b p < 1000000 := hlt
      refine pk_le r (rt_v b p) (fun hle => nm_r (nI_1 i) ?_) (fun hgt => ⟨vp_in_nI hp (by omega), rt_inx hp hh, nm_r (rt_ucx hp hh (rt_rd i0' hp)) ?_⟩) rfl (rt_rd i0' hp)
      · exact ih (b, upd s p 1, w) ⟨i0', i1', rt_LB_skip hp i2' ho hm (hq.2 hle) rt_s_u1 (fun j _ c => rt_s_un c)⟩
      · refine rx_goOn_begins_ends hp hB hE hL h1 i0' (fun bs' j0 j1 => nm_r (nI_1 i) ?_)
        have g := hq.1 hgt
        refine ih (bs', upd s p 1, upd w (p * 12 + h) (nI (rt_v b p))) ⟨j0, rt_oku i1' (by omega) (by decide), ?_⟩
        refine rt_LB_step N hD hh hp i2' ho hm g.1 g.2 rt_s_u1 (fun j _ c => rt_s_un c) j1 ?_ ?_
        · rw [rt_tu (by omega) hh p h hh, if_pos ⟨rfl, rfl⟩]
        · intro x j hx' hj c
          rw [rt_tu (by omega) hh x j hj, if_neg c]
theorem rx_label_ends_begins_fromHub_toHub {post : SX → Prop} {f : Int32} {B E L T MF MT C HT HF FL SG bs st up dn : Nat → Int32} {h : Nat} (hh : h < 12) (HN : rt_N f B E L) {D : Nat → Nat → Nat} (hD : rt_AP (rt_eP (rt_b f) E B L) D) (ok1 : rt_ok HT 144 1000000) (ok2 : rt_ok HF 144 1000000) (lo : rt_LO (rt_tr D) (rt_t HF) h) (li : rt_LI D (rt_t HT) h) (hx : ∀ w bs' st', rt_ok w 144 1000000 → rt_LI D (rt_t w) (h + 1) → post (f, B, E, L, T, MF, MT, C, w, HF, FL, SG, bs', st', up, dn)) : wpX_label__ends_begins_fromHub_toHub post (f, B, E, L, T, MF, MT, C, HT, HF, FL, SG, bs, st, up, dn) (nI h) := by
  obtain ⟨hB, hE, hL, h1⟩ := HN
  have N : rt_net (rt_eP (rt_b f) E B L) := rt_eP_net hE hB h1
  unfold wpX_label__ends_begins_fromHub_toHub
  refine rx_start hh (fun bs0 st0 k0 k1 k2 k3 => ?_)
  refine loop_0 (fun n i (w : (Nat → Int32) × (Nat → Int32) × (Nat → Int32)) => wX_label__ends_begins_fromHub_toHub_8 post (nI h) n (nI i) f B E L T MF MT C w.2.2 HF FL SG w.1 w.2.1 up dn) (fun i w => rt_ok w.1 12 1000000 ∧ rt_ok w.2.2 144 1000000 ∧ rt_LB (rt_eP (rt_b f) E B L) D h (rt_v w.1) (rt_s w.2.1) i (rt_t w.2.2)) 12 (bs0, st0, HT) ?_ ?_ ?_
  · exact ⟨k0, by assumption, rt_LB_init hD hh k1 k2 k3 li⟩
  · rintro n w ⟨i0, i1, i2⟩
    refine pk_le 12 12 (fun _ => ?_) (fun h => by omega)
    exact hx _ _ _ i1 (rt_LB_end N hD hh i2 (Or.inl rfl))
  · rintro n i ⟨b, s, w⟩ hi ⟨i0, i1, i2⟩ ih
    have i0' : rt_ok b 12 1000000 := i0
    have i1' : rt_ok w 144 1000000 := i1
    have i2' : rt_LB (rt_eP (rt_b f) E B L) D h (rt_v b) (rt_s s) i (rt_t w) := i2
    refine pk_le 12 i (fun h => by omega) (fun _ => ?_)
    refine rx_near i0' (fun hn => br_t rfl ?_) (fun p hp ho hlt hm => br_f (rt_nm1 (by omega)) ⟨vp_in_nI hp (by omega), nm_r (rt_uc (y := 1) (by omega) rt_n1) ?_⟩)
    · exact hx _ _ _ i1 (rt_LB_end N hD hh i2' (Or.inr hn))
    · refine rx_fbh_fromHub_toHub hh hp (by assumption) (by assumption) (fun r hr => ⟨vp_in_nI hp (by omega), ?_⟩)
      have hq := rt_LB_q N hD hh hp i2' lo ho hm hlt hr
      have hr1 := hr.1
      have hlt' : rt_v b p < 1000000 := hlt
      refine pk_le r (rt_v b p) (fun hle => nm_r (nI_1 i) ?_) (fun hgt => ⟨vp_in_nI hp (by omega), rt_inx hp hh, nm_r (rt_ucx hp hh (rt_rd i0' hp)) ?_⟩) rfl (rt_rd i0' hp)
      · exact ih (b, upd s p 1, w) ⟨i0', i1', rt_LB_skip hp i2' ho hm (hq.2 hle) rt_s_u1 (fun j _ c => rt_s_un c)⟩
      · refine rx_goOn_ends_begins hp hB hE hL h1 i0' (fun bs' j0 j1 => nm_r (nI_1 i) ?_)
        have g := hq.1 hgt
        refine ih (bs', upd s p 1, upd w (p * 12 + h) (nI (rt_v b p))) ⟨j0, rt_oku i1' (by omega) (by decide), ?_⟩
        refine rt_LB_step N hD hh hp i2' ho hm g.1 g.2 rt_s_u1 (fun j _ c => rt_s_un c) j1 ?_ ?_
        · rw [rt_tu (by omega) hh p h hh, if_pos ⟨rfl, rfl⟩]
        · intro x j hx' hj c
          rw [rt_tu (by omega) hh x j hj, if_neg c]
theorem rx_prepHubs {post : SX → Prop} {f : Int32} {B E L T MF MT C HT HF FL SG bs st up dn : Nat → Int32} (HN : rt_N f B E L) {D : Nat → Nat → Nat} (hD : rt_AP (rt_eP (rt_b f) B E L) D) (h : ∀ w1 w2 bs' st', rt_ok w1 144 1000000 → rt_ok w2 144 1000000 → rt_LI (rt_tr D) (rt_t w1) 12 → rt_LI D (rt_t w2) 12 → post (f, B, E, L, T, MF, MT, C, w1, w2, FL, SG, bs', st', up, dn)) : wpX_prepareHubs post (f, B, E, L, T, MF, MT, C, HT, HF, FL, SG, bs, st, up, dn) := by
  have hR := rt_rev_AP (rt_N_net HN) hD
  rw [← rt_eP_rev] at hR
  refine loop_0 (fun n i (w : (Nat → Int32) × (Nat → Int32)) => wX_prepareHubs_2 post f n (nI i) B E L T MF MT C w.1 w.2 FL SG bs st up dn) (fun i w => ∀ j, j < i → w.1 j = nI 1000000 ∧ w.2 j = nI 1000000) 144 (HT, HF) (fun j hj => by omega) ?_ ?_
  · rintro n ⟨w1, w2⟩ hw
    have ok1 : rt_ok w1 144 1000000 := rt_okI (by decide) (fun j hj => ⟨1000000, by omega, (hw j hj).1⟩)
    have ok2 : rt_ok w2 144 1000000 := rt_okI (by decide) (fun j hj => ⟨1000000, by omega, (hw j hj).2⟩)
    have z1 : ∀ p j, p < 12 → j < 12 → rt_t w1 p j = 1000000 := fun p j hp hj => rt_v_of (hw _ (by omega)).1 (by decide)
    have z2 : ∀ p j, p < 12 → j < 12 → rt_t w2 p j = 1000000 := fun p j hp hj => rt_v_of (hw _ (by omega)).2 (by decide)
    refine pk_le 144 144 (fun _ => ?_) (fun h => by omega)
    refine loop_0 (fun n i (w : (Nat → Int32) × (Nat → Int32) × (Nat → Int32) × (Nat → Int32)) => wX_prepareHubs_33 post n (nI i) f B E L T MF MT C w.1 w.2.1 FL SG w.2.2.1 w.2.2.2 up dn) (fun i w => rt_ok w.1 144 1000000 ∧ rt_ok w.2.1 144 1000000 ∧ rt_LI (rt_tr D) (rt_t w.1) i ∧ rt_LI D (rt_t w.2.1) i) 12 (w1, w2, bs, st) ?_ ?_ ?_
    · exact ⟨ok1, ok2, fun p j hp hj => ⟨Or.inl (z1 p j hp hj), fun c => by omega, fun _ => z1 p j hp hj⟩, fun p j hp hj => ⟨Or.inl (z2 p j hp hj), fun c => by omega, fun _ => z2 p j hp hj⟩⟩
    · rintro n w ⟨i0, i1, i2, i3⟩
      exact pk_le 12 12 (fun _ => h _ _ _ _ i0 i1 i2 i3) (fun h => by omega)
    · rintro n i ⟨a, b, c, d⟩ hi ⟨i0, i1, i2, i3⟩ ih
      refine pk_le 12 i (fun h => by omega) (fun _ => ?_)
      refine rx_label_begins_ends_toHub_fromHub hi HN hD i0 i1 (rt_LI_LO i2 (Nat.le_refl _)) i3 (fun b' bs1 st1 j0 j1 => ?_)
      refine rx_label_ends_begins_fromHub_toHub hi HN hR i0 j0 (rt_LI_LO j1 (by omega)) i2 (fun a' bs2 st2 j2 j3 => nm_r (nI_1 i) ?_)
      exact ih (a', b', bs2, st2) ⟨j2, j0, j3, j1⟩
  · rintro n i ⟨w1, w2⟩ hi hw ih
    refine pk_le 144 i (fun h => by omega) (fun _ => ⟨vp_in_nI hi (by omega), nm_r (rt_uc (y := nI 1000000) (by omega)) ⟨vp_in_nI hi (by omega), nm_r (rt_uc (y := nI 1000000) (by omega)) (nm_r (nI_1 i) ?_)⟩⟩)
    refine ih (_, _) (fun j hj => ?_)
    by_cases c : j = i
    · subst c; exact ⟨pk_us, pk_us⟩
    · exact ⟨(pk_un c).trans (hw j (by omega)).1, (pk_un c).trans (hw j (by omega)).2⟩
/-! flags and signs -/
def rt_OW (f : Int32) (B E L : Nat → Int32) (D : Nat → Nat → Nat) (t k : Nat) : Prop := rt_b f k ∧ D (rt_v B k) t = rt_v L k + D (rt_v E k) t
theorem rx_onWay {post : Int32 → Prop} {f : Int32} {B E L T MF MT C HT HF FL SG bs st up dn : Nat → Int32} (HN : rt_N f B E L) {D : Nat → Nat → Nat} {t k : Nat} (hk : k < 28) (ok : rt_ok bs 12 1000000) (hb : ∀ x, x < 12 → rt_v bs x = D x t) (h1 : rt_OW f B E L D t k → post 1) (h0 : ¬ rt_OW f B E L D t k → post 0) : wpX_isOnTheWay post (f, B, E, L, T, MF, MT, C, HT, HF, FL, SG, bs, st, up, dn) (nI k) := by
  obtain ⟨hB, hE, hL, hl1⟩ := HN
  have q1 := (hB k hk).2
  have q2 := (hE k hk).2
  have q3 := (hL k hk).2
  have q4 := (ok (rt_v B k) (by omega)).2
  have q5 := (ok (rt_v E k) (by omega)).2
  have e1 := hb (rt_v B k) (by omega)
  have e2 := hb (rt_v E k) (by omega)
  unfold wpX_isOnTheWay
  refine rx_isRoad hk (fun hb' => br_f rt_10 ⟨vp_in_nI hk (by omega), pk_in (rt_v B k) 12 (by omega) (rt_rd hB hk), vp_in_nI hk (by omega), vp_in_nI hk (by omega), pk_in (rt_v E k) 12 (by omega) (rt_rd hE hk), ?_⟩) (fun hb' => br_t rfl (h0 (fun z => hb' z.1)))
  refine pk_eq (rt_v bs (rt_v B k)) (rt_v L k + rt_v bs (rt_v E k)) (fun c => h1 ⟨hb', by omega⟩) (fun c => h0 (fun z => c (by have := z.2; omega))) (rt_rde ok (rt_rd hB hk) (by omega)) ?_
  rw [rt_rd hL hk, rt_rde ok (rt_rd hE hk) (by omega), nI_add]
def rt_FG (f : Int32) (B E L : Nat → Int32) (D : Nat → Nat → Nat) (FL : Nat → Int32) (n : Nat) : Prop := ∀ r k, r < 4 → k < 32 → (rt_b (FL r) k ↔ k < 28 ∧ ∃ t, t < n ∧ t / 3 = r ∧ rt_OW f B E L D t k)
theorem rx_prepFlags {post : SX → Prop} {f : Int32} {B E L T MF MT C HT HF FL SG bs st up dn : Nat → Int32} (HN : rt_N f B E L) {D : Nat → Nat → Nat} (hD : rt_AP (rt_eP (rt_b f) B E L) D) (h : ∀ w bs' st', rt_FG f B E L D w 12 → post (f, B, E, L, T, MF, MT, C, HT, HF, w, SG, bs', st', up, dn)) : wpX_prepareFlags post (f, B, E, L, T, MF, MT, C, HT, HF, FL, SG, bs, st, up, dn) := by
  have NR := rt_rev_net (rt_N_net HN)
  have hR := rt_rev_AP (rt_N_net HN) hD
  refine loop_0 (fun n i (w : Nat → Int32) => wX_prepareFlags_2 post f n (nI i) B E L T MF MT C HT HF w SG bs st up dn) (fun i w => ∀ j, j < i → w j = 0) 4 FL (fun j hj => by omega) ?_ ?_
  · intro n w0 hw0
    refine pk_le 4 4 (fun _ => ?_) (fun h => by omega)
    refine loop_0 (fun n i (w : (Nat → Int32) × (Nat → Int32) × (Nat → Int32)) => wX_prepareFlags_22 post n (nI i) f B E L T MF MT C HT HF w.1 SG w.2.1 w.2.2 up dn) (fun i w => rt_FG f B E L D w.1 i) 12 (w0, bs, st) ?_ ?_ ?_
    · intro r k hr hk
      show rt_b (w0 r) k ↔ _
      rw [hw0 r hr]
      exact ⟨fun z => absurd z (rt_b_0 hk), fun ⟨_, t, ht, _⟩ => by omega⟩
    · intro n w i0
      exact pk_le 12 12 (fun _ => h _ _ _ i0) (fun h => by omega)
    · rintro n t ⟨w1, w2, w3⟩ ht i0 ih
      refine pk_le 12 t (fun h => by omega) (fun _ => ?_)
      refine rx_search_ends_begins ht HN.1 HN.2.1 HN.2.2.1 HN.2.2.2 (fun bs1 st1 k1 k2 => ?_)
      rw [rt_eP_rev] at k2
      have hcol : ∀ x, x < 12 → rt_v bs1 x = D x t := fun x hx => rt_SS_eq NR k2 (hR t ht) x hx
      have ed : nI t / 3 = nI (t / 3) := pk_div (d := 3) (by omega) (by omega) (by omega)
      refine loop_0 (fun m i (w : Nat → Int32) => wX_prepareFlags_47 post (wX_prepareFlags_22 post n) (nI t) f m (nI i) B E L T MF MT C HT HF w SG bs1 st1 up dn) (fun i w => ∀ r k, r < 4 → k < 32 → (rt_b (w r) k ↔ (k < 28 ∧ ∃ t', t' < t ∧ t' / 3 = r ∧ rt_OW f B E L D t' k) ∨ (r = t / 3 ∧ k < i ∧ rt_OW f B E L D t k))) 28 w1 ?_ ?_ ?_
      · intro r k hr hk
        rw [i0 r k hr hk]
        exact ⟨fun z => Or.inl z, fun z => z.elim id (fun z => by omega)⟩
      · intro m w j0
        refine pk_le 28 28 (fun _ => nm_r (nI_1 t) ?_) (fun h => by omega)
        refine ih (w, bs1, st1) (fun r k hr hk => ?_)
        rw [show rt_b (w r) k ↔ _ from j0 r k hr hk]
        constructor
        · rintro (⟨c1, t', c2, c3⟩ | ⟨c1, c2, c3⟩)
          · exact ⟨c1, t', by omega, c3⟩
          · exact ⟨c2, t, by omega, c1.symm, c3⟩
        · rintro ⟨c1, t', c2, c3, c4⟩
          by_cases c : t' = t
          · subst c; exact Or.inr ⟨c3.symm, c1, c4⟩
          · exact Or.inl ⟨c1, t', by omega, c3, c4⟩
      · intro m i w hi j0 ih2
        refine pk_le 28 i (fun h => by omega) (fun _ => ?_)
        refine rx_onWay (t := t) HN hi k1 hcol (fun ow => br_f rt_10 ⟨by decide, pk_in (t / 3) 4 (by omega) ed, pk_in (t / 3) 4 (by omega) ed, nm_r (e' := upd w (t / 3) (w (t / 3) ||| ((1 : Int32) <<< (nI i &&& 31)))) (by rw [pk_cl (t / 3) ed (by omega)]) (nm_r (nI_1 i) ?_)⟩) (fun ow => br_t rfl (nm_r (nI_1 i) ?_))
        · refine ih2 _ (fun r k hr hk => ?_)
          have j1 := j0 r k hr hk
          by_cases c : r = t / 3
          · subst c
            rw [pk_us, rt_b_or hk (by omega), j1]
            constructor
            · rintro ((z | ⟨z1, z2, z3⟩) | z)
              · exact Or.inl z
              · exact Or.inr ⟨z1, by omega, z3⟩
              · subst z; exact Or.inr ⟨rfl, by omega, ow⟩
            · rintro (z | ⟨z1, z2, z3⟩)
              · exact Or.inl (Or.inl z)
              · by_cases ck : k = i
                · exact Or.inr ck
                · exact Or.inl (Or.inr ⟨z1, by omega, z3⟩)
          · rw [pk_un c, j1]
            constructor
            · rintro (z | ⟨z1, z2, z3⟩)
              · exact Or.inl z
              · exact absurd z1 c
            · rintro (z | ⟨z1, z2, z3⟩)
              · exact Or.inl z
              · exact absurd z1 c
        · refine ih2 w (fun r k hr hk => ?_)
          rw [j0 r k hr hk]
          constructor
          · rintro (z | ⟨z1, z2, z3⟩)
            · exact Or.inl z
            · exact Or.inr ⟨z1, by omega, z3⟩
          · rintro (z | ⟨z1, z2, z3⟩)
            · exact Or.inl z
            · by_cases ck : k = i
              · subst ck; exact absurd z3 ow
              · exact Or.inr ⟨z1, by omega, z3⟩
  · intro n i w hi hw ih
    refine pk_le 4 i (fun h => by omega) (fun _ => ⟨vp_in_nI hi (by omega), nm_r (rt_uc (y := 0) (by omega)) (nm_r (nI_1 i) ?_)⟩)
    refine ih _ (fun j hj => ?_)
    by_cases c : j = i
    · subst c; exact pk_us
    · exact (pk_un c).trans (hw j (by omega))
def rt_SGN (f : Int32) (B E L : Nat → Int32) (D : Nat → Nat → Nat) (SG : Nat → Int32) (s t : Nat) (n : Nat) : Prop :=
  (SG (s * 12 + t) = -1 ∧ ∀ k, k < n → ¬ (rt_OW f B E L D t k ∧ rt_v B k = s)) ∨ ∃ k, k < 28 ∧ SG (s * 12 + t) = nI k ∧ rt_OW f B E L D t k ∧ rt_v B k = s
theorem rx_prepSigns {post : SX → Prop} {f : Int32} {B E L T MF MT C HT HF FL SG bs st up dn : Nat → Int32} (HN : rt_N f B E L) {D : Nat → Nat → Nat} (hD : rt_AP (rt_eP (rt_b f) B E L) D) (h : ∀ w bs' st', (∀ s t, s < 12 → t < 12 → rt_SGN f B E L D w s t 28) → post (f, B, E, L, T, MF, MT, C, HT, HF, FL, w, bs', st', up, dn)) : wpX_prepareSigns post (f, B, E, L, T, MF, MT, C, HT, HF, FL, SG, bs, st, up, dn) := by
  have NR := rt_rev_net (rt_N_net HN)
  have hR := rt_rev_AP (rt_N_net HN) hD
  refine loop_0 (fun n i (w : (Nat → Int32) × (Nat → Int32) × (Nat → Int32)) => wX_prepareSigns_2 post n (nI i) f B E L T MF MT C HT HF FL w.1 w.2.1 w.2.2 up dn) (fun i w => ∀ s t, s < 12 → t < i → rt_SGN f B E L D w.1 s t 28) 12 (SG, bs, st) (fun s t hs ht => by omega) ?_ ?_
  · intro n w i0
    exact pk_le 12 12 (fun _ => h _ _ _ i0) (fun h => by omega)
  · rintro n t ⟨w1, w2, w3⟩ ht i0 ih
    refine pk_le 12 t (fun h => by omega) (fun _ => ?_)
    refine rx_search_ends_begins ht HN.1 HN.2.1 HN.2.2.1 HN.2.2.2 (fun bs1 st1 k1 k2 => ?_)
    rw [rt_eP_rev] at k2
    have hcol : ∀ x, x < 12 → rt_v bs1 x = D x t := fun x hx => rt_SS_eq NR k2 (hR t ht) x hx
    refine loop_0 (fun m i (w : Nat → Int32) => wX_prepareSigns_27 post (wX_prepareSigns_2 post n) (nI t) f m (nI i) B E L T MF MT C HT HF FL w bs1 st1 up dn) (fun i w => (∀ s t', s < 12 → t' < t → rt_SGN f B E L D w s t' 28) ∧ ∀ s, s < i → w (s * 12 + t) = -1) 12 w1 ⟨i0, fun s hs => by omega⟩ ?_ ?_
    · rintro m w4 ⟨j0, j1⟩
      refine pk_le 12 12 (fun _ => ?_) (fun h => by omega)
      refine loop_0 (fun m i (w : Nat → Int32) => wX_prepareSigns_53 post (wX_prepareSigns_2 post n) (nI t) f m (nI i) B E L T MF MT C HT HF FL w bs1 st1 up dn) (fun i w => (∀ s t', s < 12 → t' < t → rt_SGN f B E L D w s t' 28) ∧ ∀ s, s < 12 → rt_SGN f B E L D w s t i) 28 w4 ⟨j0, fun s hs => Or.inl ⟨j1 s hs, fun k hk => by omega⟩⟩ ?_ ?_
      · rintro m w ⟨l0, l1⟩
        refine pk_le 28 28 (fun _ => nm_r (nI_1 t) ?_) (fun h => by omega)
        refine ih (w, bs1, st1) (fun s t' hs ht' => ?_)
        by_cases c : t' = t
        · subst c; exact l1 s hs
        · exact l0 s t' hs (by omega)
      · rintro m i w hi ⟨l0, l1⟩ ih2
        have q1 := (HN.1 i hi).2
        have q2 : rt_v B i < 12 := by omega
        refine pk_le 28 i (fun h => by omega) (fun _ => ?_)
        refine rx_onWay (t := t) HN hi k1 hcol (fun ow => br_f rt_10 ⟨vp_in_nI hi (by omega), ?_, nm_r (e' := upd w (rt_v B i * 12 + t) (nI i)) (by rw [rt_rd HN.1 hi, rt_cx q2 ht]) (nm_r (nI_1 i) ?_)⟩) (fun ow => br_t rfl (nm_r (nI_1 i) ?_))
        · rw [rt_rd HN.1 hi]; exact rt_inx q2 ht
        · refine ih2 _ ⟨fun s t' hs ht' => ?_, fun s hs => ?_⟩
          · have := l0 s t' hs ht'
            unfold rt_SGN at this ⊢
            rw [pk_un (by omega)]; exact this
          · by_cases c : s = rt_v B i
            · subst c
              exact Or.inr ⟨i, hi, pk_us, ow, rfl⟩
            · rcases l1 s hs with ⟨z1, z2⟩ | ⟨k, hk, z1, z2, z3⟩
              · refine Or.inl ⟨(pk_un (by omega)).trans z1, fun k hk z => ?_⟩
                by_cases ck : k = i
                · subst ck; exact c z.2.symm
                · exact z2 k (by omega) z
              · exact Or.inr ⟨k, hk, (pk_un (by omega)).trans z1, z2, z3⟩
        · refine ih2 w ⟨l0, fun s hs => ?_⟩
          rcases l1 s hs with ⟨z1, z2⟩ | z
          · refine Or.inl ⟨z1, fun k hk z => ?_⟩
            by_cases ck : k = i
            · subst ck; exact ow z.1
            · exact z2 k (by omega) z
          · exact Or.inr z
    · rintro m i w hi ⟨j0, j1⟩ ih2
      refine pk_le 12 i (fun h => by omega) (fun _ => ⟨rt_inx hi ht, nm_r (rt_ucx hi ht) (nm_r (nI_1 i) ?_)⟩)
      refine ih2 _ ⟨fun s t' hs ht' => ?_, fun s hs => ?_⟩
      · have := j0 s t' hs ht'
        unfold rt_SGN at this ⊢
        rw [pk_un (by omega)]; exact this
      · by_cases c : s = i
        · subst c; exact pk_us
        · exact (pk_un (by omega)).trans (j1 s (by omega))
/-! all that is prepared -/
def rt_P (f : Int32) (B E L T MF MT C HT HF FL SG : Nat → Int32) : Prop :=
  rt_N f B E L ∧ rt_ok T 144 1000000 ∧ rt_FW (rt_eP (rt_b f) B E L) 12 (rt_t T) ∧ rt_MK (rt_t T) MF MT 3 ∧
  rt_ok C 144 1000000 ∧ rt_CL (rt_eP (rt_b f) B E L) (rt_t T) 12 (rt_t C) ∧
  rt_ok HT 144 1000000 ∧ rt_ok HF 144 1000000 ∧ rt_LI (rt_tr (rt_t T)) (rt_t HT) 12 ∧ rt_LI (rt_t T) (rt_t HF) 12 ∧
  rt_FG f B E L (rt_t T) FL 12 ∧ ∀ s t, s < 12 → t < 12 → rt_SGN f B E L (rt_t T) SG s t 28
theorem rx_prepare {post : SX → Prop} {f : Int32} {B E L T MF MT C HT HF FL SG bs st up dn : Nat → Int32} (HN : rt_N f B E L) (h : ∀ T' MF' MT' C' HT' HF' FL' SG' bs' st', rt_P f B E L T' MF' MT' C' HT' HF' FL' SG' → post (f, B, E, L, T', MF', MT', C', HT', HF', FL', SG', bs', st', up, dn)) : wpX_prepare post (f, B, E, L, T, MF, MT, C, HT, HF, FL, SG, bs, st, up, dn) := by
  have N := rt_N_net HN
  unfold wpX_prepare
  refine rx_prepTable HN (fun T' a1 a2 => ?_)
  have hD := rt_FW_end N a2
  refine rx_prepMarks HN hD (fun MF' MT' bs1 st1 a3 => ?_)
  refine rx_prepClimb HN hD (fun C' a4 a5 => ?_)
  refine rx_prepHubs HN hD (fun HT' HF' bs2 st2 a6 a7 a8 a9 => ?_)
  refine rx_prepFlags HN hD (fun FL' bs3 st3 a10 => ?_)
  refine rx_prepSigns HN hD (fun SG' bs4 st4 a11 => ?_)
  exact h T' MF' MT' C' HT' HF' FL' SG' bs4 st4 ⟨HN, a1, a2, a3, a4, a5, a6, a7, a8, a9, a10, a11⟩
end
section
/-! walks: the seven ways to find -/
theorem rt_suble {A Q : Prop} {x y : Int32} (a b c : Nat) (ha : a < 2 ^ 30) (hb : b < 2 ^ 30) (hc : c < 2 ^ 30) (hx : x = nI a - nI b) (hy : y = nI c) (h1 : a - b ≤ c → A) (h2 : c < a - b → x = nI (a - b) → Q) : (x ≤ y → A) ∧ (¬ x ≤ y → Q) := by
  subst hx; subst hy
  rw [Int32.le_iff_toInt_le, pk_sub_toInt ha hb, nI_toInt (by omega)]
  refine ⟨fun z => h1 (by omega), fun z => h2 (by omega) (pk_sub (by omega))⟩
theorem rt_mk1 {D : Nat → Nat → Nat} {MF MT : Nat → Int32} (h : rt_MK D MF MT 3) {m x : Nat} (hm : m < 3) (hx : x < 12) : MF (nI (m * 12) + nI x).toNatClampNeg = nI (D (m * 4) x) := by
  rw [pk_cl (m * 12 + x) (nI_add _ _) (by omega)]; exact (h m x hm hx).1
theorem rt_mk2 {D : Nat → Nat → Nat} {MF MT : Nat → Int32} (h : rt_MK D MF MT 3) {m x : Nat} (hm : m < 3) (hx : x < 12) : MT (nI (m * 12) + nI x).toNatClampNeg = nI (D x (m * 4)) := by
  rw [pk_cl (m * 12 + x) (nI_add _ _) (by omega)]; exact (h m x hm hx).2
theorem rx_ltg48 {post : Int32 → Prop} {J : Int32 → Int32 → Prop} {f : Int32} {B E L T MF MT C HT HF FL SG bs st up dn : Nat → Int32} {D : Nat → Nat → Nat} (mk : rt_MK D MF MT 3) (hf : ∀ a b, a < 12 → b < 12 → D a b ≤ 1000000) {p t m c : Nat} (hp : p < 12) (ht : t < 12) (hm : m < 3) (hc : c ≤ 1000000) (h : J (nI (max c (D (m * 4) t - D (m * 4) p))) (nI (m + 1))) : wX_leastToGo_48 post J (nI p) (nI t) (nI c) (nI m) (nI (m * 12)) f B E L T MF MT C HT HF FL SG bs st up dn := by
  have b1 := hf (m * 4) t (by omega) ht
  have b2 := hf (m * 4) p (by omega) hp
  refine ⟨pk_in (m * 12 + t) 36 (by omega) (nI_add _ _), pk_in (m * 12 + p) 36 (by omega) (nI_add _ _), nm_r (e' := nI (D (m * 4) t) - nI (D (m * 4) p)) (by rw [rt_mk1 mk hm ht, rt_mk1 mk hm hp]) ?_⟩
  refine rt_suble (D (m * 4) t) (D (m * 4) p) c (by omega) (by omega) (by omega) rfl rfl (fun hle => nm_r (nI_1 m) ?_) (fun hlt he => nm_r (nI_1 m) ?_)
  · rw [show max c (D (m * 4) t - D (m * 4) p) = c by omega] at h; exact h
  · rw [he]
    rw [show max c (D (m * 4) t - D (m * 4) p) = D (m * 4) t - D (m * 4) p by omega] at h; exact h
theorem rx_ltg {post : Int32 → Prop} {f : Int32} {B E L T MF MT C HT HF FL SG bs st up dn : Nat → Int32} {D : Nat → Nat → Nat} (mk : rt_MK D MF MT 3) (hf : ∀ a b, a < 12 → b < 12 → D a b ≤ 1000000) {p t : Nat} (hp : p < 12) (ht : t < 12) (hpi : ∀ i, i ≤ 3 → rt_pi D t p i ≤ 1000000) (h : post (nI (rt_pi D t p 3))) : wpX_leastToGo post (f, B, E, L, T, MF, MT, C, HT, HF, FL, SG, bs, st, up, dn) (nI p) (nI t) := by
  refine loop_0 (fun n i (w : Int32) => wX_leastToGo_5 post (nI p) (nI t) f B E L T MF MT C HT HF FL SG bs st up dn n w (nI i)) (fun i w => w = nI (rt_pi D t p i)) 3 0 rfl ?_ ?_
  · intro n w e
    subst e
    exact pk_le 3 3 (fun _ => h) (fun h => by omega)
  · intro n m w hm e ih
    subst e
    have b1 := hf p (m * 4) hp (by omega)
    have b2 := hf t (m * 4) ht (by omega)
    have b3 := hpi m (by omega)
    refine pk_le 3 m (fun h => by omega) (fun _ => nm_r (pk_mul m 12) ⟨pk_in (m * 12 + p) 36 (by omega) (nI_add _ _), pk_in (m * 12 + t) 36 (by omega) (nI_add _ _), nm_r (e' := nI (D p (m * 4)) - nI (D t (m * 4))) (by rw [rt_mk2 mk hm hp, rt_mk2 mk hm ht]) ?_⟩)
    refine rt_suble (D p (m * 4)) (D t (m * 4)) (rt_pi D t p m) (by omega) (by omega) (by omega) rfl rfl (fun hle => ?_) (fun hlt he => ?_)
    · refine rx_ltg48 mk hf hp ht hm b3 ?_
      refine ih _ ?_
      show nI _ = nI (max (max (rt_pi D t p m) (D p (m * 4) - D t (m * 4))) (D (m * 4) t - D (m * 4) p))
      rw [show max (rt_pi D t p m) (D p (m * 4) - D t (m * 4)) = rt_pi D t p m by omega]
    · rw [he]
      refine rx_ltg48 mk hf hp ht hm (by omega) ?_
      refine ih _ ?_
      show nI _ = nI (max (max (rt_pi D t p m) (D p (m * 4) - D t (m * 4))) (D (m * 4) t - D (m * 4) p))
      rw [show max (rt_pi D t p m) (D p (m * 4) - D t (m * 4)) = D p (m * 4) - D t (m * 4) by omega]
theorem rx_most {post : Int32 → Prop} {f : Int32} {B E L T MF MT C HT HF FL SG bs st up dn : Nat → Int32} {D : Nat → Nat → Nat} (mk : rt_MK D MF MT 3) (hf : ∀ a b, a < 12 → b < 12 → D a b ≤ 1000000) {t : Nat} (ht : t < 12) (hpi : ∀ p i, p < 12 → i ≤ 3 → rt_pi D t p i ≤ 1000000) (hb : rt_ok bs 12 1000000) (h0 : (∀ q, q < 12 → rt_s st q = false → 1000000 ≤ rt_v bs q + rt_pi D t q 3) → post (-1)) (h1 : ∀ p, p < 12 → rt_s st p = false → rt_v bs p + rt_pi D t p 3 < 1000000 → (∀ q, q < 12 → rt_s st q = false → rt_v bs p + rt_pi D t p 3 ≤ rt_v bs q + rt_pi D t q 3) → post (nI p)) : wpX_mostPromising post (f, B, E, L, T, MF, MT, C, HT, HF, FL, SG, bs, st, up, dn) (nI t) := by
  refine loop_0 (fun n i (w : Int32 × Int32) => wX_mostPromising_8 post (nI t) f B E L T MF MT C HT HF FL SG bs st up dn n w.1 w.2 (nI i)) (fun i w => ∃ m, w.2 = nI m ∧ m ≤ 1000000 ∧ (∀ q, q < i → rt_s st q = false → m ≤ rt_v bs q + rt_pi D t q 3) ∧ ((w.1 = -1 ∧ m = 1000000) ∨ ∃ p, p < 12 ∧ w.1 = nI p ∧ rt_s st p = false ∧ rt_v bs p + rt_pi D t p 3 = m ∧ m < 1000000)) 12 (-1, 1000000) ?_ ?_ ?_
  · exact ⟨1000000, rfl, Nat.le_refl _, fun q hq => by omega, Or.inl ⟨rfl, rfl⟩⟩
  · rintro n ⟨x1, x2⟩ ⟨m, e2, hm, hq, hc⟩
    refine pk_le 12 12 (fun _ => ?_) (fun h => by omega)
    rcases hc with ⟨e1, em⟩ | ⟨p, hp, e1, ho, ev, hlt⟩
    · have e1' : x1 = -1 := e1
      rw [e1']; subst em; exact h0 hq
    · have e1' : x1 = nI p := e1
      rw [e1']; subst ev; exact h1 p hp ho hlt hq
  · rintro n i ⟨x1, x2⟩ hi ⟨m, e2, hm, hq, hc⟩ ih
    have e2' : x2 = nI m := e2
    refine pk_le 12 i (fun h => by omega) (fun _ => ⟨vp_in_nI hi (by omega), ?_⟩)
    by_cases c : st i = 0
    · refine br_t (show st (nI i).toNatClampNeg = 0 by rw [nI_clamp (by omega)]; exact c) ⟨vp_in_nI hi (by omega), ?_⟩
      have hv := hb i hi
      have hpi3 := hpi i 3 hi (by omega)
      refine pk_le m (rt_v bs i) (fun hle => nm_r (nI_1 i) ?_) (fun hlt => ⟨vp_in_nI hi (by omega), ?_⟩) e2' (rt_rd hb hi)
      · refine ih (x1, x2) ⟨m, e2, hm, fun q hq' ho => ?_, hc⟩
        by_cases cq : q = i
        · subst cq; omega
        · exact hq q (by omega) ho
      · refine rx_ltg mk hf hi ht (fun j hj => hpi i j hi hj) (nm_r (e' := nI (rt_v bs i + rt_pi D t i 3)) (by rw [rt_rd hb hi, nI_add]) ?_)
        refine pk_le m (rt_v bs i + rt_pi D t i 3) (fun hle => nm_r (nI_1 i) ?_) (fun hlt => nm_r (nI_1 i) ?_) e2' rfl
        · refine ih (x1, x2) ⟨m, e2, hm, fun q hq' ho => ?_, hc⟩
          by_cases cq : q = i
          · subst cq; exact hle
          · exact hq q (by omega) ho
        · refine ih (nI i, nI (rt_v bs i + rt_pi D t i 3)) ⟨rt_v bs i + rt_pi D t i 3, rfl, by omega, fun q hq' ho => ?_, Or.inr ⟨i, hi, rfl, rt_s_f.mpr c, rfl, by omega⟩⟩
          by_cases cq : q = i
          · subst cq; exact Nat.le_refl _
          · have := hq q (by omega) ho
            omega
    · refine br_f (show ¬ st (nI i).toNatClampNeg = 0 by rw [nI_clamp (by omega)]; exact c) (nm_r (nI_1 i) ?_)
      refine ih (x1, x2) ⟨m, e2, hm, fun q hq' ho => ?_, hc⟩
      by_cases cq : q = i
      · subst cq; exact absurd (rt_s_f.mp ho) c
      · exact hq q (by omega) ho
theorem rx_marks {post : Int32 → SX → Prop} {f : Int32} {B E L T MF MT C HT HF FL SG bs st up dn : Nat → Int32} (HN : rt_N f B E L) {D : Nat → Nat → Nat} (hD : rt_AP (rt_eP (rt_b f) B E L) D) (mk : rt_MK D MF MT 3) {s t : Nat} (hs : s < 12) (ht : t < 12) (h : ∀ bs' st', post (nI (D s t)) (f, B, E, L, T, MF, MT, C, HT, HF, FL, SG, bs', st', up, dn)) : wpX_findByMarks post (f, B, E, L, T, MF, MT, C, HT, HF, FL, SG, bs, st, up, dn) (nI s) (nI t) := by
  have N := rt_N_net HN
  obtain ⟨hB, hE, hL, hl1⟩ := HN
  have hf : ∀ a b, a < 12 → b < 12 → D a b ≤ 1000000 := fun a b ha hb => (hD a ha).2.1 b hb
  have hpi : ∀ p i, p < 12 → i ≤ 3 → rt_pi D t p i ≤ 1000000 := fun p i hp hi => Nat.le_trans (rt_pi_adm N hD ht hp i hi) (hf p t hp ht)
  have hadm : ∀ a, a < 12 → rt_pi D t a 3 ≤ D a t := fun a ha => rt_pi_adm N hD ht ha 3 (Nat.le_refl _)
  have htt : rt_pi D t t 3 = 0 := by
    have := hadm t ht
    have := (hD t ht).1
    omega
  unfold wpX_findByMarks
  refine rx_start hs (fun bs0 st0 k0 k1 k2 k3 => ?_)
  have fin : ∀ (b z : Nat → Int32), rt_ok b 12 1000000 → rt_v b t = D s t → vp_in (nI t) 12 ∧ post (b (nI t).toNatClampNeg) (f, B, E, L, T, MF, MT, C, HT, HF, FL, SG, b, z, up, dn) := by
    intro b z ok e
    refine ⟨vp_in_nI ht (by omega), ?_⟩
    rw [rt_rd ok ht, e]
    exact h b z
  refine loop_0 (fun n i (w : (Nat → Int32) × (Nat → Int32)) => wX_findByMarks_7 post (nI t) n (nI i) f B E L T MF MT C HT HF FL SG w.1 w.2 up dn) (fun i w => rt_ok w.1 12 1000000 ∧ rt_AS (rt_eP (rt_b f) B E L) D s t (fun p => rt_pi D t p 3) (rt_v w.1) (rt_s w.2) i) 12 (bs0, st0) ⟨k0, rt_AS_init N hD hs ht k1 k2 k3⟩ ?_ ?_
  · rintro n ⟨b, z⟩ ⟨i0, i1⟩
    exfalso
    have h1 := rt_c_all i1.2.2.2.2.2.1 t ht
    have h2 := i1.2.2.2.2.2.2
    rw [h1] at h2
    exact absurd h2 (by decide)
  · rintro n i ⟨b, z⟩ hi ⟨i0, i1⟩ ih
    have i0' : rt_ok b 12 1000000 := i0
    have i1' : rt_AS (rt_eP (rt_b f) B E L) D s t (fun p => rt_pi D t p 3) (rt_v b) (rt_s z) i := i1
    refine pk_le 12 i (fun h => by omega) (fun _ => ?_)
    refine rx_most mk hf ht hpi i0' (fun hn => br_t rfl ?_) (fun p hp ho hlt hm => br_f (rt_nm1 (by omega)) ?_)
    · exact fin b z i0' (rt_AS_end N hD hadm i1' hs ht (Or.inl hn))
    · refine pk_eq p t (fun c => ?_) (fun c => ⟨vp_in_nI hp (by omega), nm_r (rt_uc (y := 1) (by omega) rt_n1) ?_⟩)
      · subst c
        refine fin b z i0' (rt_AS_end N hD hadm i1' hs ht (Or.inr (fun q hq hst => ?_)))
        have h1 : rt_v b p + rt_pi D p p 3 ≤ rt_v b q + rt_pi D p q 3 := hm q hq hst
        show rt_v b p ≤ rt_v b q + rt_pi D p q 3
        omega
      · refine rx_goOn_begins_ends hp hB hE hL hl1 i0' (fun bs' j0 j1 => nm_r (nI_1 i) ?_)
        exact ih (bs', upd z p 1) ⟨j0, rt_AS_step N hD (fun a b l w => rt_pi_con N hD w 3 (Nat.le_refl _)) i1' hs ht hp c ho hm j1 rt_s_u1 (fun j _ c => rt_s_un c)⟩
theorem rx_climbFrom {post : SX → Prop} {f : Int32} {B E L T MF MT C HT HF FL SG bs st up dn : Nat → Int32} (HN : rt_N f B E L) {D : Nat → Nat → Nat} (hD : rt_AP (rt_eP (rt_b f) B E L) D) (okC : rt_ok C 144 1000000) (hDC : ∀ a b, a < 12 → b < 12 → D a b ≤ rt_t C a b) {s : Nat} (hs : s < 12) (h : ∀ w, rt_ok w 12 1000000 → rt_v w s = 0 → (∀ i j, i < j → j < 12 → rt_v w j ≤ rt_v w i + rt_t C i j) → (∀ x, x < 12 → D s x ≤ rt_v w x) → post (f, B, E, L, T, MF, MT, C, HT, HF, FL, SG, bs, st, w, dn)) : wpX_climbFrom post (f, B, E, L, T, MF, MT, C, HT, HF, FL, SG, bs, st, up, dn) (nI s) := by
  have N := rt_N_net HN
  have hfar : ∀ a b, a < 12 → b < 12 → D a b ≤ 1000000 := fun a b ha hb => (hD a ha).2.1 b hb
  refine loop_0 (fun n i (w : Nat → Int32) => wX_climbFrom_2 post (nI s) f n (nI i) B E L T MF MT C HT HF FL SG bs st w dn) (fun i w => ∀ j, j < i → w j = nI 1000000) 12 up (fun j hj => by omega) ?_ ?_
  · intro n w0 hw0
    have ok0 : rt_ok w0 12 1000000 := rt_okI (by decide) (fun j hj => ⟨1000000, by omega, hw0 j hj⟩)
    have v0 : ∀ j, j < 12 → rt_v w0 j = 1000000 := fun j hj => rt_v_of (hw0 j hj) (by decide)
    refine pk_le 12 12 (fun _ => ⟨vp_in_nI hs (by omega), nm_r (rt_uc (y := nI 0) (by omega)) ?_⟩) (fun h => by omega)
    refine pk_loop (fun n i (w : Nat → Int32) => wX_climbFrom_31 post f n (nI i) B E L T MF MT C HT HF FL SG bs st w dn) (fun i w => s ≤ i ∧ rt_ok w 12 1000000 ∧ rt_v w s = 0 ∧ (∀ x, x < s → rt_v w x = 1000000) ∧ (∀ p j, p < i → p < j → j < 12 → (fun i j => rt_v w j ≤ rt_v w i + rt_t C i j) p j) ∧ (∀ x, x < 12 → D s x ≤ rt_v w x)) 12 s (upd w0 s (nI 0)) (by omega) ?_ ?_ ?_
    · have hv : ∀ x, x < 12 → rt_v (upd w0 s (nI 0)) x = if x = s then 0 else 1000000 := fun x hx => by
        rw [rt_vu (by decide), v0 x hx]
      refine ⟨Nat.le_refl _, rt_oku ok0 (by omega) (by decide), ?_, fun x hx => ?_, fun p j hp hpj hj => ?_, fun x hx => ?_⟩
      · rw [hv s hs, if_pos rfl]
      · rw [hv x (by omega), if_neg (by omega)]
      · show rt_v _ _ ≤ rt_v _ _ + _
        rw [hv j hj, hv p (by omega), if_neg (show ¬ p = s by omega)]
        split <;> omega
      · rw [hv x hx]
        by_cases c : x = s
        · subst c
          have := (hD x hs).1
          rw [if_pos rfl]; omega
        · rw [if_neg c]; exact hfar _ _ (by assumption) (by assumption)
    · rintro n w ⟨_, i0, i1, i2, i3, i4⟩
      exact pk_le 12 12 (fun _ => h w i0 i1 (fun i j hij hj => i3 i j (by omega) hij hj) i4) (fun h => by omega)
    · rintro n i w hi ⟨hsi, i0, i1, i2, i3, i4⟩ ih
      refine pk_le 12 i (fun h => by omega) (fun _ => nm_r (nI_1 i) ?_)
      refine pk_loop (fun m j (w : Nat → Int32) => wX_climbFrom_41 post (wX_climbFrom_31 post f n) (nI i) f m (nI j) B E L T MF MT C HT HF FL SG bs st w dn) (fun k w => i + 1 ≤ k ∧ rt_ok w 12 1000000 ∧ rt_v w s = 0 ∧ (∀ x, x < s → rt_v w x = 1000000) ∧ (∀ p j, p < i → p < j → j < 12 → (fun i j => rt_v w j ≤ rt_v w i + rt_t C i j) p j) ∧ (∀ x, x < 12 → D s x ≤ rt_v w x) ∧ (∀ j, i < j → j < k → rt_v w j ≤ rt_v w i + rt_t C i j)) 12 (i + 1) w (by omega) ⟨Nat.le_refl _, i0, i1, i2, i3, i4, fun j h1 h2 => by omega⟩ ?_ ?_
      · rintro m w2 ⟨_, j0, j1, j2, j3, j4, j5⟩
        refine pk_le 12 12 (fun _ => nm_r (nI_1 i) ?_) (fun h => by omega)
        refine ih w2 ⟨by omega, j0, j1, j2, fun p j hp hpj hj => ?_, j4⟩
        by_cases c : p = i
        · subst c; exact j5 j hpj hj
        · exact j3 p j (by omega) hpj hj
      · rintro m j w2 hj ⟨hij, j0, j1, j2, j3, j4, j5⟩ ih2
        have b1 := (j0 i hi).2
        have b2 := (rt_tok okC (show i < 12 by assumption) (show j < 12 by assumption)).2
        have b3 := (j0 j hj).2
        refine pk_le 12 j (fun h => by omega) (fun _ => ⟨vp_in_nI hi (by omega), rt_inx hi hj, nm_r (e' := nI (rt_v w2 i + rt_t C i j)) (by rw [rt_rd j0 hi, rt_rdx okC hi hj, nI_add]) ⟨vp_in_nI hj (by omega), ?_⟩⟩)
        refine pk_le (rt_v w2 j) (rt_v w2 i + rt_t C i j) (fun hle => nm_r (nI_1 j) ?_) (fun hlt => ⟨vp_in_nI hj (by omega), nm_r (rt_uc (by omega)) (nm_r (nI_1 j) ?_)⟩) (rt_rd j0 hj) rfl
        · refine ih2 w2 ⟨by omega, j0, j1, j2, j3, j4, fun j' h1 h2 => ?_⟩
          by_cases c : j' = j
          · subst c; exact hle
          · exact j5 j' h1 (by omega)
        · have hv : ∀ x, rt_v (upd w2 j (nI (rt_v w2 i + rt_t C i j))) x = if x = j then rt_v w2 i + rt_t C i j else rt_v w2 x := fun x => rt_vu (by omega) x
          refine ih2 _ ⟨by omega, rt_oku j0 (by omega) (by decide), ?_, fun x hx => ?_, fun p j' hp hpj hj' => ?_, fun x hx => ?_, fun j' h1 h2 => ?_⟩
          · rw [hv, if_neg (by omega)]; exact j1
          · rw [hv, if_neg (by omega)]; exact j2 x hx
          · have := j3 p j' hp hpj hj'
            dsimp only at this ⊢
            rw [hv, hv, if_neg (show ¬ p = j by omega)]
            by_cases c : j' = j
            · subst c; rw [if_pos rfl]; omega
            · rw [if_neg c]; exact this
          · rw [hv]
            by_cases c : x = j
            · rw [if_pos c, c]
              have q1 := rt_tri N hD hs hi hj
              have q2 := j4 i hi
              have q3 := hDC i j (by assumption) (by assumption)
              omega
            · rw [if_neg c]; exact j4 x hx
          · rw [hv, hv, if_neg (show ¬ i = j by omega)]
            by_cases c : j' = j
            · subst c; rw [if_pos rfl]; exact Nat.le_refl _
            · rw [if_neg c]; exact j5 j' h1 (by omega)
  · intro n i w hi hw ih
    refine pk_le 12 i (fun h => by omega) (fun _ => ⟨vp_in_nI hi (by omega), nm_r (rt_uc (y := nI 1000000) (by omega)) (nm_r (nI_1 i) ?_)⟩)
    refine ih _ (fun j hj => ?_)
    by_cases c : j = i
    · subst c; exact pk_us
    · exact (pk_un c).trans (hw j (by omega))
theorem rx_descendTo {post : SX → Prop} {f : Int32} {B E L T MF MT C HT HF FL SG bs st up dn : Nat → Int32} (HN : rt_N f B E L) {D : Nat → Nat → Nat} (hD : rt_AP (rt_eP (rt_b f) B E L) D) (okC : rt_ok C 144 1000000) (hDC : ∀ a b, a < 12 → b < 12 → D a b ≤ rt_t C a b) {s : Nat} (hs : s < 12) (h : ∀ w, rt_ok w 12 1000000 → rt_v w s = 0 → (∀ i j, i < j → j < 12 → rt_v w j ≤ rt_v w i + rt_t C j i) → (∀ x, x < 12 → D x s ≤ rt_v w x) → post (f, B, E, L, T, MF, MT, C, HT, HF, FL, SG, bs, st, up, w)) : wpX_descendTo post (f, B, E, L, T, MF, MT, C, HT, HF, FL, SG, bs, st, up, dn) (nI s) := by
  have N := rt_N_net HN
  have hfar : ∀ a b, a < 12 → b < 12 → D a b ≤ 1000000 := fun a b ha hb => (hD a ha).2.1 b hb
  refine loop_0 (fun n i (w : Nat → Int32) => wX_descendTo_2 post (nI s) f n (nI i) B E L T MF MT C HT HF FL SG bs st up w) (fun i w => ∀ j, j < i → w j = nI 1000000) 12 dn (fun j hj => by omega) ?_ ?_
  · intro n w0 hw0
    have ok0 : rt_ok w0 12 1000000 := rt_okI (by decide) (fun j hj => ⟨1000000, by omega, hw0 j hj⟩)
    have v0 : ∀ j, j < 12 → rt_v w0 j = 1000000 := fun j hj => rt_v_of (hw0 j hj) (by decide)
    refine pk_le 12 12 (fun _ => ⟨vp_in_nI hs (by omega), nm_r (rt_uc (y := nI 0) (by omega)) ?_⟩) (fun h => by omega)
    refine pk_loop (fun n i (w : Nat → Int32) => wX_descendTo_31 post f n (nI i) B E L T MF MT C HT HF FL SG bs st up w) (fun i w => s ≤ i ∧ rt_ok w 12 1000000 ∧ rt_v w s = 0 ∧ (∀ x, x < s → rt_v w x = 1000000) ∧ (∀ p j, p < i → p < j → j < 12 → (fun i j => rt_v w j ≤ rt_v w i + rt_t C j i) p j) ∧ (∀ x, x < 12 → D x s ≤ rt_v w x)) 12 s (upd w0 s (nI 0)) (by omega) ?_ ?_ ?_
    · have hv : ∀ x, x < 12 → rt_v (upd w0 s (nI 0)) x = if x = s then 0 else 1000000 := fun x hx => by
        rw [rt_vu (by decide), v0 x hx]
      refine ⟨Nat.le_refl _, rt_oku ok0 (by omega) (by decide), ?_, fun x hx => ?_, fun p j hp hpj hj => ?_, fun x hx => ?_⟩
      · rw [hv s hs, if_pos rfl]
      · rw [hv x (by omega), if_neg (by omega)]
      · show rt_v _ _ ≤ rt_v _ _ + _
        rw [hv j hj, hv p (by omega), if_neg (show ¬ p = s by omega)]
        split <;> omega
      · rw [hv x hx]
        by_cases c : x = s
        · subst c
          have := (hD x hs).1
          rw [if_pos rfl]; omega
        · rw [if_neg c]; exact hfar _ _ (by assumption) (by assumption)
    · rintro n w ⟨_, i0, i1, i2, i3, i4⟩
      exact pk_le 12 12 (fun _ => h w i0 i1 (fun i j hij hj => i3 i j (by omega) hij hj) i4) (fun h => by omega)
    · rintro n i w hi ⟨hsi, i0, i1, i2, i3, i4⟩ ih
      refine pk_le 12 i (fun h => by omega) (fun _ => nm_r (nI_1 i) ?_)
      refine pk_loop (fun m j (w : Nat → Int32) => wX_descendTo_41 post (wX_descendTo_31 post f n) (nI i) f m (nI j) B E L T MF MT C HT HF FL SG bs st up w) (fun k w => i + 1 ≤ k ∧ rt_ok w 12 1000000 ∧ rt_v w s = 0 ∧ (∀ x, x < s → rt_v w x = 1000000) ∧ (∀ p j, p < i → p < j → j < 12 → (fun i j => rt_v w j ≤ rt_v w i + rt_t C j i) p j) ∧ (∀ x, x < 12 → D x s ≤ rt_v w x) ∧ (∀ j, i < j → j < k → rt_v w j ≤ rt_v w i + rt_t C j i)) 12 (i + 1) w (by omega) ⟨Nat.le_refl _, i0, i1, i2, i3, i4, fun j h1 h2 => by omega⟩ ?_ ?_
      · rintro m w2 ⟨_, j0, j1, j2, j3, j4, j5⟩
        refine pk_le 12 12 (fun _ => nm_r (nI_1 i) ?_) (fun h => by omega)
        refine ih w2 ⟨by omega, j0, j1, j2, fun p j hp hpj hj => ?_, j4⟩
        by_cases c : p = i
        · subst c; exact j5 j hpj hj
        · exact j3 p j (by omega) hpj hj
      · rintro m j w2 hj ⟨hij, j0, j1, j2, j3, j4, j5⟩ ih2
        have b1 := (j0 i hi).2
        have b2 := (rt_tok okC (show j < 12 by assumption) (show i < 12 by assumption)).2
        have b3 := (j0 j hj).2
        refine pk_le 12 j (fun h => by omega) (fun _ => ⟨rt_inx hj hi, vp_in_nI hi (by omega), nm_r (e' := nI (rt_v w2 i + rt_t C j i)) (by rw [rt_rdx okC hj hi, rt_rd j0 hi, nI_add, Nat.add_comm]) ⟨vp_in_nI hj (by omega), ?_⟩⟩)
        refine pk_le (rt_v w2 j) (rt_v w2 i + rt_t C j i) (fun hle => nm_r (nI_1 j) ?_) (fun hlt => ⟨vp_in_nI hj (by omega), nm_r (rt_uc (by omega)) (nm_r (nI_1 j) ?_)⟩) (rt_rd j0 hj) rfl
        · refine ih2 w2 ⟨by omega, j0, j1, j2, j3, j4, fun j' h1 h2 => ?_⟩
          by_cases c : j' = j
          · subst c; exact hle
          · exact j5 j' h1 (by omega)
        · have hv : ∀ x, rt_v (upd w2 j (nI (rt_v w2 i + rt_t C j i))) x = if x = j then rt_v w2 i + rt_t C j i else rt_v w2 x := fun x => rt_vu (by omega) x
          refine ih2 _ ⟨by omega, rt_oku j0 (by omega) (by decide), ?_, fun x hx => ?_, fun p j' hp hpj hj' => ?_, fun x hx => ?_, fun j' h1 h2 => ?_⟩
          · rw [hv, if_neg (by omega)]; exact j1
          · rw [hv, if_neg (by omega)]; exact j2 x hx
          · have := j3 p j' hp hpj hj'
            dsimp only at this ⊢
            rw [hv, hv, if_neg (show ¬ p = j by omega)]
            by_cases c : j' = j
            · subst c; rw [if_pos rfl]; omega
            · rw [if_neg c]; exact this
          · rw [hv]
            by_cases c : x = j
            · rw [if_pos c, c]
              have q1 := rt_tri N hD hj hi hs
              have q2 := j4 i hi
              have q3 := hDC j i (by assumption) (by assumption)
              omega
            · rw [if_neg c]; exact j4 x hx
          · rw [hv, hv, if_neg (show ¬ i = j by omega)]
            by_cases c : j' = j
            · subst c; rw [if_pos rfl]; exact Nat.le_refl _
            · rw [if_neg c]; exact j5 j' h1 (by omega)
  · intro n i w hi hw ih
    refine pk_le 12 i (fun h => by omega) (fun _ => ⟨vp_in_nI hi (by omega), nm_r (rt_uc (y := nI 1000000) (by omega)) (nm_r (nI_1 i) ?_)⟩)
    refine ih _ (fun j hj => ?_)
    by_cases c : j = i
    · subst c; exact pk_us
    · exact (pk_un c).trans (hw j (by omega))
theorem rx_climb {post : Int32 → SX → Prop} {f : Int32} {B E L T MF MT C HT HF FL SG bs st up dn : Nat → Int32} (HN : rt_N f B E L) {D : Nat → Nat → Nat} (hD : rt_AP (rt_eP (rt_b f) B E L) D) (okC : rt_ok C 144 1000000) (hC : rt_CL (rt_eP (rt_b f) B E L) D 12 (rt_t C)) {s t : Nat} (hs : s < 12) (ht : t < 12) (h : ∀ up' dn', post (nI (D s t)) (f, B, E, L, T, MF, MT, C, HT, HF, FL, SG, bs, st, up', dn')) : wpX_findByClimb post (f, B, E, L, T, MF, MT, C, HT, HF, FL, SG, bs, st, up, dn) (nI s) (nI t) := by
  have N := rt_N_net HN
  unfold wpX_findByClimb
  refine rx_climbFrom HN hD okC hC.2.2.2.2.2 hs (fun w a1 a2 a3 a4 => ?_)
  refine rx_descendTo HN hD okC hC.2.2.2.2.2 ht (fun v b1 b2 b3 b4 => ?_)
  refine loop_0 (fun n i (x : Int32) => wX_findByClimb_16 post f B E L T MF MT C HT HF FL SG bs st w v n x (nI i)) (fun i x => ∃ m, x = nI m ∧ m ≤ 1000000 ∧ (∀ j, j < i → m ≤ rt_v w j + rt_v v j) ∧ (m = 1000000 ∨ ∃ j, j < 12 ∧ m = rt_v w j + rt_v v j)) 12 1000000 ⟨1000000, rfl, Nat.le_refl _, fun j hj => by omega, Or.inl rfl⟩ ?_ ?_
  · rintro n x ⟨m, e, hm, k1, k2⟩
    have := rt_climb N hD hC hs ht a2 a3 a4 b2 (fun p j hpj hj => by have := b3 p j hpj hj; omega) b4 hm k1 k2
    subst e
    subst this
    exact pk_le 12 12 (fun _ => h w v) (fun h => by omega)
  · rintro n i x hi ⟨m, e, hm, k1, k2⟩ ih
    have q1 := (a1 i hi).2
    have q2 := (b1 i hi).2
    refine pk_le 12 i (fun h => by omega) (fun _ => ⟨vp_in_nI hi (by omega), vp_in_nI hi (by omega), nm_r (e' := nI (rt_v w i + rt_v v i)) (by rw [rt_rd a1 hi, rt_rd b1 hi, nI_add]) ?_⟩)
    refine pk_le m (rt_v w i + rt_v v i) (fun hle => nm_r (nI_1 i) ?_) (fun hlt => nm_r (nI_1 i) ?_) e rfl
    · refine ih x ⟨m, e, hm, fun j hj => ?_, k2⟩
      by_cases c : j = i
      · subst c; exact hle
      · exact k1 j (by omega)
    · refine ih _ ⟨_, rfl, by omega, fun j hj => ?_, Or.inr ⟨i, hi, rfl⟩⟩
      by_cases c : j = i
      · subst c; exact Nat.le_refl _
      · have := k1 j (by omega)
        omega
theorem rx_flags {post : Int32 → SX → Prop} {f : Int32} {B E L T MF MT C HT HF FL SG bs st up dn : Nat → Int32} (HN : rt_N f B E L) {D : Nat → Nat → Nat} (hD : rt_AP (rt_eP (rt_b f) B E L) D) (hF : rt_FG f B E L D FL 12) {s t : Nat} (hs : s < 12) (ht : t < 12) (h : ∀ bs' st', post (nI (D s t)) (f, B, E, L, T, MF, MT, C, HT, HF, FL, SG, bs', st', up, dn)) : wpX_findByFlags post (f, B, E, L, T, MF, MT, C, HT, HF, FL, SG, bs, st, up, dn) (nI s) (nI t) := by
  have N := rt_N_net HN
  have ed : nI t / 3 = nI (t / 3) := pk_div (d := 3) (by omega) (by omega) (by omega)
  have hr : t / 3 < 4 := by omega
  have ec : FL (nI t / 3).toNatClampNeg = FL (t / 3) := by rw [pk_cl (t / 3) ed (by omega)]
  unfold wpX_findByFlags
  refine ⟨by decide, pk_in (t / 3) 4 hr ed, ?_⟩
  rw [ec]
  refine rx_search_begins_ends hs HN.1 HN.2.1 HN.2.2.1 (fun k hk hb => ?_) (fun bs1 st1 k1 k2 => ⟨vp_in_nI ht (by omega), ?_⟩)
  · obtain ⟨_, t', _, _, ow⟩ := (hF (t / 3) k hr (by omega)).mp hb
    exact HN.2.2.2 k hk ow.1
  · have e := rt_flags N hD hs ht (ef := rt_eP (rt_b (FL (t / 3))) B E L) ?_ ?_ k2
    · rw [rt_rd k1 ht, e]; exact h bs1 st1
    · rintro a b l ⟨k, hk, hb, r⟩
      obtain ⟨_, t', _, _, ow⟩ := (hF (t / 3) k hr (by omega)).mp hb
      exact ⟨k, hk, ow.1, r⟩
    · rintro a b l ⟨k, hk, hb, r1, r2, r3⟩ z
      exact ⟨k, hk, (hF (t / 3) k hr (by omega)).mpr ⟨hk, t, ht, rfl, hb, by rw [r1, r2, r3]; exact z⟩, r1, r2, r3⟩
theorem rx_signs {post : Int32 → Prop} {f : Int32} {B E L T MF MT C HT HF FL SG bs st up dn : Nat → Int32} (HN : rt_N f B E L) {D : Nat → Nat → Nat} (hD : rt_AP (rt_eP (rt_b f) B E L) D) (hS : ∀ s t, s < 12 → t < 12 → rt_SGN f B E L D SG s t 28) {s t : Nat} (hs : s < 12) (ht : t < 12) (h : post (nI (D s t))) : wpX_findBySigns post (f, B, E, L, T, MF, MT, C, HT, HF, FL, SG, bs, st, up, dn) (nI s) (nI t) := by
  have N := rt_N_net HN
  have hst := (hD s hs).2.1 t ht
  refine loop_0 (fun n i (w : Int32 × Int32) => wX_findBySigns_8 post (nI t) f B E L T MF MT C HT HF FL SG bs st up dn n w.1 w.2 (nI i)) (fun i w => ∃ p l, w.1 = nI p ∧ w.2 = nI l ∧ p < 12 ∧ l + D p t = D s t ∧ rt_rk D t p + i < 12) 12 (nI s, 0) ⟨s, 0, rfl, rfl, hs, by omega, by have := rt_rk_11 (D := D) (t := t) hs; omega⟩ ?_ ?_
  · rintro n w ⟨p, l, _, _, _, _, z⟩
    exfalso
    omega
  · rintro n i ⟨x1, x2⟩ hi ⟨p, l, e1, e2, hp, hl, hr⟩ ih
    have e1' : x1 = nI p := e1
    have e2' : x2 = nI l := e2
    subst e1'; subst e2'
    refine pk_le 12 i (fun h => by omega) (fun _ => ?_)
    refine pk_eq p t (fun c => ?_) (fun c => ⟨rt_inx hp ht, ?_⟩)
    · subst c
      have := (hD p hp).1
      rw [show D s p = l by omega] at h
      exact h
    · rcases hS p t hp ht with ⟨z1, z2⟩ | ⟨k, hk, z1, z2, z3⟩
      · refine nm_r (e' := -1) (by rw [rt_cx hp ht]; exact z1) ?_
        refine br_t (by decide) (br_t rfl ?_)
        have : D s t = 1000000 := by
          rcases rt_first N hD hp ht c with w | ⟨b, l', ⟨k, hk, w1, w2, w3, w4⟩, r⟩
          · omega
          · refine absurd ⟨⟨w1, ?_⟩, w2⟩ (z2 k hk)
            rw [w2, w3, w4]; exact r
        rw [this] at h
        exact h
      · have q1 := (HN.2.2.1 k hk)
        have q2 := (HN.2.1 k hk)
        have q3 := HN.2.2.2 k hk z2.1
        have q4 := z2.2
        rw [z3] at q4
        refine nm_r (e' := nI k) (by rw [rt_cx hp ht]; exact z1) ?_
        refine rx_isRoad hk (fun hb => br_f rt_10 ⟨vp_in_nI hk (by omega), nm_r (e' := nI (l + rt_v L k)) (by rw [rt_rd HN.2.2.1 hk, nI_add]) ⟨vp_in_nI hk (by omega), nm_r (rt_rd HN.2.1 hk) (nm_r (nI_1 i) ?_)⟩⟩) (fun hb => absurd z2.1 hb)
        have hlt := rt_rk_lt (D := D) (t := t) (p := p) (b := rt_v E k) (by omega) (by omega)
        exact ih (nI (rt_v E k), nI (l + rt_v L k)) ⟨rt_v E k, l + rt_v L k, rfl, rfl, by omega, by omega, by omega⟩
theorem rx_plain {post : Int32 → SX → Prop} {f : Int32} {B E L T MF MT C HT HF FL SG bs st up dn : Nat → Int32} (HN : rt_N f B E L) {D : Nat → Nat → Nat} (hD : rt_AP (rt_eP (rt_b f) B E L) D) {s t : Nat} (hs : s < 12) (ht : t < 12) (h : ∀ bs' st', post (nI (D s t)) (f, B, E, L, T, MF, MT, C, HT, HF, FL, SG, bs', st', up, dn)) : wpX_findPlainly post (f, B, E, L, T, MF, MT, C, HT, HF, FL, SG, bs, st, up, dn) (nI s) (nI t) := by
  unfold wpX_findPlainly
  refine rx_search_begins_ends hs HN.1 HN.2.1 HN.2.2.1 HN.2.2.2 (fun bs1 st1 k1 k2 => ⟨vp_in_nI ht (by omega), ?_⟩)
  rw [rt_rd k1 ht, rt_SS_eq (rt_N_net HN) k2 (hD s hs) t ht]
  exact h bs1 st1
theorem rx_find {post : Int32 → SX → Prop} {f : Int32} {B E L T MF MT C HT HF FL SG bs st up dn : Nat → Int32} (HP : rt_P f B E L T MF MT C HT HF FL SG) {g s t : Nat} (hg : g < 7) (hs : s < 12) (ht : t < 12) (h : ∀ bs' st' up' dn', post (nI (rt_t T s t)) (f, B, E, L, T, MF, MT, C, HT, HF, FL, SG, bs', st', up', dn')) : wpX_find post (f, B, E, L, T, MF, MT, C, HT, HF, FL, SG, bs, st, up, dn) (nI g) (nI s) (nI t) := by
  obtain ⟨HN, p1, p2, p3, p4, p5, p6, p7, p8, p9, p10, p11⟩ := HP
  have N := rt_N_net HN
  have hD := rt_FW_end N p2
  unfold wpX_find
  refine br_f (nI_pos (by omega)) (br_f (nI_nlt (a := 6) (by omega) (by omega)) ?_)
  refine pk_eq g 0 (fun _ => ?_) (fun c0 => pk_eq g 1 (fun _ => ⟨rt_inx hs ht, ?_⟩) (fun c1 => pk_eq g 2 (fun _ => ?_) (fun c2 => pk_eq g 3 (fun _ => ?_) (fun c3 => pk_eq g 4 (fun _ => ?_) (fun c4 => pk_eq g 5 (fun _ => ?_) (fun c5 => pk_eq g 6 (fun _ => ?_) (fun c6 => trivial)))))))
  · unfold wX_find_99
    exact rx_plain HN hD hs ht (fun bs' st' => h bs' st' up dn)
  · rw [rt_rdx p1 hs ht]; exact h bs st up dn
  · exact rx_marks HN hD p3 hs ht (fun bs' st' => h bs' st' up dn)
  · exact rx_climb HN hD p4 p5 hs ht (fun up' dn' => h bs st up' dn')
  · refine rx_fbh_toHub_fromHub hs ht p6 p7 (fun r hr => ?_)
    rw [rt_hubs N hD hs ht (rt_LI_LO p8 (Nat.le_refl _)) (rt_LI_LO p9 (Nat.le_refl _)) hr]
    exact h bs st up dn
  · exact rx_flags HN hD p10 hs ht (fun bs' st' => h bs' st' up dn)
  · exact rx_signs HN hD p11 hs ht (h bs st up dn)
end
section
/-! walks of the reference: the measure -/
def rt_en (d : Nat) : Int32 := if d = 1000000 then -3 else nI d
theorem rt_en_far : rt_en 1000000 = -3 := by decide
theorem rt_en_lt {d : Nat} (h : d ≠ 1000000) : rt_en d = nI d := if_neg h
def rt_row (a : Nat → Int32) (s : Nat) (y : Nat → Nat) : Prop := ∀ x, x < 12 → a (s * 12 + x) = rt_en (y x)
theorem rt_upd_self {a : Nat → Int32} {k : Nat} : upd a k (a k) = a := by
  funext j
  unfold upd
  by_cases c : j = k
  · rw [if_pos c, c]
  · rw [if_neg c]
theorem rt_nb0 : narrow .boolean (.int 0) = .int 0 := by rfl
theorem rt_nb1 : narrow .boolean (.int 1) = .int 1 := by rfl
theorem ry_104 {post : Int32 → SY → Prop} {J : Int32 → Int32 → (Nat → Int32) → (Nat → Int32) → (Nat → Int32) → (Nat → Int32) → (Nat → Int32) → Prop} {x1 x2 x3 x7 : Int32} {TH B E L LE : Nat → Int32} {s b i : Nat} (hs : s < 12) (hb : b < 12) (hx : x3 = 0 ∨ x3 = 1) (h : J x3 (nI (i + 1)) TH B E L LE) : wY_round_104 post J x1 x2 x3 (nI i) (12 * nI s + nI b) x7 TH B E L LE := by
  unfold wY_round_104 wY_round_105
  refine br_t rfl ⟨rt_iny hs hb, ?_⟩
  unfold wY_round_130
  refine ⟨rt_iny hs hb, nm_r (e' := LE) rt_upd_self ?_⟩
  rcases hx with e | e
  · subst e; exact br_t rfl (br_t rfl (nm_r (nI_1 i) h))
  · subst e; exact br_f rt_10 (nm_r (nI_1 i) h)
theorem ry_100 {post : Int32 → SY → Prop} {J : Int32 → Int32 → (Nat → Int32) → (Nat → Int32) → (Nat → Int32) → (Nat → Int32) → (Nat → Int32) → Prop} {x1 x2 x3 x7 : Int32} {TH B E L LE : Nat → Int32} {s b i : Nat} (hs : s < 12) (hb : b < 12) (hx : x3 = 0 ∨ x3 = 1) (h : J 1 (nI (i + 1)) TH B E L (upd LE (s * 12 + b) x7)) : wY_round_100 post J x1 x2 x3 (nI i) (12 * nI s + nI b) x7 TH B E L LE := by
  unfold wY_round_100 wY_round_105
  refine br_f rt_10 ?_
  unfold wY_round_130
  refine ⟨rt_iny hs hb, nm_r (e' := upd LE (s * 12 + b) x7) (by rw [rt_cy hs hb]) ?_⟩
  rcases hx with e | e
  · subst e; exact br_t rfl (br_f rt_10 (nm_r (nI_1 i) h))
  · subst e; exact br_f rt_10 (nm_r (nI_1 i) h)
theorem ry_round {post : Int32 → SY → Prop} {TH B E L LE : Nat → Int32} {s : Nat} {wo : Int32} {P : Nat → Prop} (hs : s < 12) (hB : rt_ok B 28 11) (hE : rt_ok E 28 11) (hL : rt_ok L 28 30) (hP : ∀ k, k < 28 → (P k ↔ (¬ TH k = 0 ∧ ¬ nI k = wo))) (hl1 : ∀ k, k < 28 → P k → 1 ≤ rt_v L k) {y : Nat → Nat} (hrow : rt_row LE s y) (hY : rt_YI (rt_eP P B E L) s y)
    (h : ∀ r LE' y', rt_row LE' s y' → rt_YI (rt_eP P B E L) s y' → (∀ j, j < s * 12 ∨ s * 12 + 12 ≤ j → LE' j = LE j) → ((r = 0 ∧ ∀ a b l, rt_eP P B E L a b l → y' b ≤ y' a + l) ∨ (r = 1 ∧ rt_sum y' 12 < rt_sum y 12)) → post r (TH, B, E, L, LE')) : wpY_round post (TH, B, E, L, LE) (nI s) wo := by
  have N : rt_net (rt_eP P B E L) := rt_eP_net hB hE hl1
  refine loop_0 (fun n i (w : Int32 × (Nat → Int32)) => wY_round_5 post (nI s) wo n w.1 (nI i) TH B E L w.2) (fun i w => ∃ y', rt_row w.2 s y' ∧ rt_YI (rt_eP P B E L) s y' ∧ (∀ j, j < s * 12 ∨ s * 12 + 12 ≤ j → w.2 j = LE j) ∧ ((w.1 = 0 ∧ (∀ x, x < 12 → y' x = y x) ∧ ∀ k, k < i → P k → y' (rt_v E k) ≤ y' (rt_v B k) + rt_v L k) ∨ (w.1 = 1 ∧ rt_sum y' 12 < rt_sum y 12))) 28 (0, LE) ⟨y, hrow, hY, fun j _ => rfl, Or.inl ⟨rfl, fun x _ => rfl, fun k hk => by omega⟩⟩ ?_ ?_
  · rintro n ⟨x3, w⟩ ⟨y', k1, k2, k3, k4⟩
    refine pk_le 28 28 (fun _ => ?_) (fun h => by omega)
    rcases k4 with ⟨e, q1, q2⟩ | ⟨e, q1⟩
    · have e' : x3 = 0 := e
      subst e'
      refine ⟨rt_nb0, h 0 w y' k1 k2 k3 (Or.inl ⟨rfl, ?_⟩)⟩
      rintro a b l ⟨k, hk, hp, r1, r2, r3⟩
      have := q2 k hk hp
      rw [r1, r2, r3] at this; exact this
    · have e' : x3 = 1 := e
      subst e'
      exact ⟨rt_nb1, h 1 w y' k1 k2 k3 (Or.inr ⟨rfl, q1⟩)⟩
  · rintro n i ⟨x3, w⟩ hi ⟨y', k1, k2, k3, k4⟩ ih
    have k1' : rt_row w s y' := k1
    have k3' : ∀ j, j < s * 12 ∨ s * 12 + 12 ≤ j → w j = LE j := k3
    have k4' : (x3 = 0 ∧ (∀ x, x < 12 → y' x = y x) ∧ ∀ k, k < i → P k → y' (rt_v E k) ≤ y' (rt_v B k) + rt_v L k) ∨ (x3 = 1 ∧ rt_sum y' 12 < rt_sum y 12) := k4
    have hx3 : x3 = 0 ∨ x3 = 1 := by
      rcases k4' with ⟨e, _⟩ | ⟨e, _⟩
      · exact Or.inl e
      · exact Or.inr e
    have b1 := (hB i hi).2
    have b2 := (hE i hi).2
    have b3 := (hL i hi).2
    have hb0 : rt_v B i < 12 := by omega
    have he0 : rt_v E i < 12 := by omega
    have c1 := rt_YI_b k2 hb0
    have c2 := rt_YI_b k2 he0
    have r1 : w (12 * nI s + B (nI i).toNatClampNeg).toNatClampNeg = rt_en (y' (rt_v B i)) := by
      rw [rt_rd hB hi, rt_cy hs hb0]; exact k1' _ hb0
    have r2 : w (12 * nI s + nI (rt_v E i)).toNatClampNeg = rt_en (y' (rt_v E i)) := by
      rw [rt_cy hs he0]; exact k1' _ he0
    -- not better
    have keep : (P i → y' (rt_v E i) ≤ y' (rt_v B i) + rt_v L i) → wY_round_5 post (nI s) wo n x3 (nI (i + 1)) TH B E L w := by
      intro hr
      refine ih (x3, w) ⟨y', k1', k2, k3', ?_⟩
      rcases k4' with ⟨e, q1, q2⟩ | ⟨e, q1⟩
      · refine Or.inl ⟨e, q1, fun k hk hp => ?_⟩
        by_cases c : k = i
        · subst c; exact hr hp
        · exact q2 k (by omega) hp
      · exact Or.inr ⟨e, q1⟩
    have put : P i → y' (rt_v B i) < 1000000 → y' (rt_v B i) + rt_v L i < y' (rt_v E i) → wY_round_5 post (nI s) wo n 1 (nI (i + 1)) TH B E L (upd w (s * 12 + rt_v E i) (nI (y' (rt_v B i) + rt_v L i))) := by
      intro hp hf hlt
      have st := rt_YI_step (y' := fun x => if x = rt_v E i then y' (rt_v B i) + rt_v L i else y' x) N b3 hs k2 ⟨i, hi, hp, rfl, rfl, rfl⟩ hf hlt (if_pos rfl) (fun x _ c => if_neg c)
      refine ih (1, upd w (s * 12 + rt_v E i) (nI (y' (rt_v B i) + rt_v L i))) ⟨fun x => if x = rt_v E i then y' (rt_v B i) + rt_v L i else y' x, ?_, st.1, ?_, Or.inr ⟨rfl, ?_⟩⟩
      · intro x hx
        show upd w (s * 12 + rt_v E i) (nI (y' (rt_v B i) + rt_v L i)) (s * 12 + x) = rt_en (if x = rt_v E i then y' (rt_v B i) + rt_v L i else y' x)
        by_cases c : x = rt_v E i
        · rw [if_pos c, c, pk_us, rt_en_lt (by omega)]
        · rw [if_neg c, pk_un (by omega)]; exact k1' x hx
      · intro j hj
        show upd w (s * 12 + rt_v E i) (nI (y' (rt_v B i) + rt_v L i)) j = LE j
        rw [pk_un (by omega)]; exact k3' j hj
      · have := st.2
        rcases k4' with ⟨e, q1, q2⟩ | ⟨e, q1⟩
        · have h1 : rt_sum y' 12 ≤ rt_sum y 12 := rt_sum_le 12 (fun j hj => by rw [q1 j hj]; exact Nat.le_refl _)
          omega
        · omega
    have i1 : vp_in (12 * nI s + B (nI i).toNatClampNeg) 144 := by rw [rt_rd hB hi]; exact rt_iny hs hb0
    refine pk_le 28 i (fun h => by omega) (fun _ => ⟨vp_in_nI hi (by omega), i1, nm_r r1 ⟨vp_in_nI hi (by omega), nm_r (e' := 12 * nI s + nI (rt_v E i)) (by rw [rt_rd hE hi]) ⟨vp_in_nI hi (by omega), nm_r (e' := rt_en (y' (rt_v B i)) + nI (rt_v L i)) (by rw [rt_rd hL hi]) ⟨vp_in_nI hi (by omega), ?_⟩⟩⟩⟩)
    have hcl : (nI i).toNatClampNeg = i := nI_clamp (by omega)
    by_cases t0 : TH i = 0
    · refine br_t (show TH (nI i).toNatClampNeg = 0 by rw [hcl]; exact t0) (ry_104 hs he0 hx3 (keep (fun hp => absurd t0 ((hP i hi).mp hp).1)))
    · refine br_f (show ¬ TH (nI i).toNatClampNeg = 0 by rw [hcl]; exact t0) ?_
      by_cases t1 : nI i = wo
      · exact br_t t1 (ry_104 hs he0 hx3 (keep (fun hp => absurd t1 ((hP i hi).mp hp).2)))
      · refine br_f t1 ?_
        have hp : P i := (hP i hi).mpr ⟨t0, t1⟩
        by_cases t2 : y' (rt_v B i) = 1000000
        · have t2' : rt_en (y' (rt_v B i)) < 0 := by rw [t2, rt_en_far]; decide
          exact br_t t2' (ry_104 hs he0 hx3 (keep (fun _ => by omega)))
        · rw [rt_en_lt t2, nI_add]
          refine br_f (nI_pos (by omega)) ⟨rt_iny hs he0, ?_⟩
          by_cases t3 : y' (rt_v E i) = 1000000
          · have t3' : w (12 * nI s + nI (rt_v E i)).toNatClampNeg < 0 := by rw [r2, t3, rt_en_far]; decide
            exact br_t t3' (ry_100 hs he0 hx3 (put hp (by omega) (by omega)))
          · have t3' : ¬ w (12 * nI s + nI (rt_v E i)).toNatClampNeg < 0 := by rw [r2, rt_en_lt t3]; exact nI_pos (by omega)
            refine br_f t3' ⟨rt_iny hs he0, ?_⟩
            refine pk_le (y' (rt_v E i)) (y' (rt_v B i) + rt_v L i) (fun hle => ry_104 hs he0 hx3 (keep (fun _ => hle))) (fun hlt => ry_100 hs he0 hx3 (put hp (by omega) hlt)) (r2.trans (rt_en_lt t3)) rfl
theorem ry_rounds {post : SY → Prop} {TH B E L LE0 : Nat → Int32} {s : Nat} {wo : Int32} {P : Nat → Prop} (hs : s < 12) (hB : rt_ok B 28 11) (hE : rt_ok E 28 11) (hL : rt_ok L 28 30) (hP : ∀ k, k < 28 → (P k ↔ (¬ TH k = 0 ∧ ¬ nI k = wo))) (hl1 : ∀ k, k < 28 → P k → 1 ≤ rt_v L k)
    (h : ∀ LE' d, rt_row LE' s d → rt_SS (rt_eP P B E L) s d → (∀ j, j < s * 12 ∨ s * 12 + 12 ≤ j → LE' j = LE0 j) → post (TH, B, E, L, LE')) : ∀ n LE y, rt_sum y 12 + 1 < n → rt_row LE s y → rt_YI (rt_eP P B E L) s y → (∀ j, j < s * 12 ∨ s * 12 + 12 ≤ j → LE j = LE0 j) → wY_measure_38 post (nI s) wo n 1 TH B E L LE := by
  intro n
  induction n with
  | zero => intro LE y hn; exfalso; omega
  | succ n ih =>
    intro LE y hn k1 k2 k3
    refine br_f rt_10 ?_
    refine ry_round hs hB hE hL hP hl1 k1 k2 (fun r LE' y' j1 j2 j3 j4 => ?_)
    have j5 : ∀ j, j < s * 12 ∨ s * 12 + 12 ≤ j → LE' j = LE0 j := fun j hj => (j3 j hj).trans (k3 j hj)
    rcases j4 with ⟨e, q⟩ | ⟨e, q⟩
    · subst e
      obtain ⟨m, rfl⟩ : ∃ m, n = m + 1 := ⟨n - 1, by omega⟩
      exact br_t rfl (h LE' y' j1 (rt_YI_end j2 q) j5)
    · subst e
      exact ih LE' y' (by omega) j1 j2 j5
theorem ry_measure {post : SY → Prop} {TH B E L LE : Nat → Int32} {s : Nat} {wo : Int32} {P : Nat → Prop} (hs : s < 12) (hB : rt_ok B 28 11) (hE : rt_ok E 28 11) (hL : rt_ok L 28 30) (hP : ∀ k, k < 28 → (P k ↔ (¬ TH k = 0 ∧ ¬ nI k = wo))) (hl1 : ∀ k, k < 28 → P k → 1 ≤ rt_v L k) {d : Nat → Nat} (hd : rt_SS (rt_eP P B E L) s d)
    (h : ∀ LE', rt_row LE' s d → (∀ j, j < s * 12 ∨ s * 12 + 12 ≤ j → LE' j = LE j) → post (TH, B, E, L, LE')) : wpY_measure post (TH, B, E, L, LE) (nI s) wo := by
  have N : rt_net (rt_eP P B E L) := rt_eP_net hB hE hl1
  refine loop_0 (fun n i (w : Nat → Int32) => wY_measure_2 post (nI s) wo n (nI i) TH B E L w) (fun i w => (∀ x, x < i → w (s * 12 + x) = if x = s then 0 else -3) ∧ ∀ j, j < s * 12 ∨ s * 12 + 12 ≤ j → w j = LE j) 12 LE ⟨fun x hx => by omega, fun j _ => rfl⟩ ?_ ?_
  · rintro n w ⟨i0, i1⟩
    refine pk_le 12 12 (fun _ => ?_) (fun h => by omega)
    refine ⟨rt_sum (fun x => if x = s then 0 else 1000000) 12 + 2, ?_⟩
    refine ry_rounds (LE0 := LE) hs hB hE hL hP hl1 (fun LE' d' j1 j2 j3 => ?_) _ w (fun x => if x = s then 0 else 1000000) (by omega) ?_ ?_ i1
    · refine h LE' (fun x hx => ?_) j3
      rw [j1 x hx, rt_SS_eq N j2 hd x hx]
    · intro x hx
      rw [i0 x hx]
      by_cases c : x = s
      · rw [if_pos c]; show 0 = rt_en (if x = s then 0 else 1000000); rw [if_pos c]; decide
      · rw [if_neg c]; show -3 = rt_en (if x = s then 0 else 1000000); rw [if_neg c]; decide
    · refine ⟨if_pos rfl, fun x hx => ?_, fun x hx c => Or.inl (if_neg c), fun x hx hf => ?_⟩
      · show (if x = s then 0 else 1000000) ≤ 1000000
        split <;> omega
      · have hf' : (if x = s then 0 else 1000000) < 1000000 := hf
        show (if x = s then 0 else 1000000) ≤ _
        by_cases c : x = s
        · rw [if_pos c]; exact Nat.zero_le _
        · rw [if_neg c] at hf'; omega
  · rintro n i w hi ⟨i0, i1⟩ ih
    refine pk_le 12 i (fun h => by omega) (fun _ => ?_)
    have go : ∀ v : Int32, v = (if i = s then 0 else -3) → wY_measure_2 post (nI s) wo n (nI (i + 1)) TH B E L (upd w (s * 12 + i) v) := by
      intro v hv
      refine ih _ ⟨fun x hx => ?_, fun j hj => ?_⟩
      · by_cases c : x = i
        · subst c; rw [pk_us]; exact hv
        · rw [pk_un (by omega)]; exact i0 x (by omega)
      · rw [pk_un (by omega)]; exact i1 j hj
    refine pk_eq s i (fun c => ⟨rt_iny hs hi, nm_r (e' := upd w (s * 12 + i) 0) (by rw [rt_cy hs hi]) (nm_r (nI_1 i) (go 0 (by rw [if_pos c.symm])))⟩) (fun c => ⟨rt_iny hs hi, nm_r (e' := upd w (s * 12 + i) (-3)) (by rw [rt_cy hs hi]) (nm_r (nI_1 i) (go (-3) (by rw [if_neg (fun z => c z.symm)])))⟩)
theorem ry_all {post : SY → Prop} {TH B E L LE : Nat → Int32} {P : Nat → Prop} (hB : rt_ok B 28 11) (hE : rt_ok E 28 11) (hL : rt_ok L 28 30) (hP : ∀ k, k < 28 → (P k ↔ (¬ TH k = 0 ∧ ¬ nI k = -1))) (hl1 : ∀ k, k < 28 → P k → 1 ≤ rt_v L k) {D : Nat → Nat → Nat} (hD : rt_AP (rt_eP P B E L) D)
    (h : ∀ LE', (∀ s, s < 12 → rt_row LE' s (D s)) → post (TH, B, E, L, LE')) : wpY_measureAll post (TH, B, E, L, LE) := by
  refine loop_0 (fun n i (w : Nat → Int32) => wY_measureAll_2 post n (nI i) TH B E L w) (fun i w => ∀ s, s < i → rt_row w s (D s)) 12 LE (fun s hs => by omega) ?_ ?_
  · intro n w i0
    exact pk_le 12 12 (fun _ => h w i0) (fun h => by omega)
  · intro n i w hi i0 ih
    refine pk_le 12 i (fun h => by omega) (fun _ => ?_)
    refine ry_measure hi hB hE hL hP hl1 (hD i hi) (fun LE' j0 j1 => nm_r (nI_1 i) ?_)
    refine ih LE' (fun s hs => ?_)
    by_cases c : s = i
    · subst c; exact j0
    · intro x hx
      rw [j1 _ (by omega)]
      exact i0 s (by omega) x hx
theorem ry_way {post : Int32 → Prop} {TH B E L LE : Nat → Int32} {s t : Nat} {x : Int32} (hs : s < 12) (ht : t < 12) (e : LE (s * 12 + t) = x) (h : post x) : wpY_way post (TH, B, E, L, LE) (nI s) (nI t) := by
  refine ⟨rt_iny hs ht, ?_⟩
  rw [rt_cy hs ht, e]; exact h
end
section
/-! walks: sound -/
def rt_bl (Q : Nat → Prop) (i : Nat) (x : Int32) : Prop := ∀ k, k < 32 → (rt_b x k ↔ k < i ∧ Q k)
theorem rt_bl_0 {Q : Nat → Prop} : rt_bl Q 0 0 := fun k hk => ⟨fun z => absurd z (rt_b_0 hk), fun z => absurd z.1 (Nat.not_lt_zero _)⟩
theorem rt_bl_set {Q : Nat → Prop} {i : Nat} {x : Int32} (h : rt_bl Q i x) (hi : i < 32) (q : Q i) : rt_bl Q (i + 1) (x ||| ((1 : Int32) <<< (nI i &&& 31))) := by
  intro k hk
  rw [rt_b_or hk hi, h k hk]
  constructor
  · rintro (⟨z1, z2⟩ | z)
    · exact ⟨by omega, z2⟩
    · subst z; exact ⟨by omega, q⟩
  · rintro ⟨z1, z2⟩
    by_cases c : k = i
    · exact Or.inr c
    · exact Or.inl ⟨by omega, z2⟩
theorem rt_bl_skip {Q : Nat → Prop} {i : Nat} {x : Int32} (h : rt_bl Q i x) (q : ¬ Q i) : rt_bl Q (i + 1) x := by
  intro k hk
  rw [h k hk]
  constructor
  · rintro ⟨z1, z2⟩; exact ⟨by omega, z2⟩
  · rintro ⟨z1, z2⟩
    by_cases c : k = i
    · subst c; exact absurd z2 q
    · exact ⟨by omega, z2⟩
theorem rt_bl_eq {Q R : Nat → Prop} {n : Nat} {x y : Int32} (h1 : rt_bl Q n x) (h2 : rt_bl R n y) (h : ∀ k, k < n → (Q k ↔ R k)) : x = y := by
  apply rt_b_ext
  intro k hk
  rw [h1 k hk, h2 k hk]
  constructor
  · rintro ⟨z1, z2⟩; exact ⟨z1, (h k z1).mp z2⟩
  · rintro ⟨z1, z2⟩; exact ⟨z1, (h k z1).mpr z2⟩
theorem rx_lastRoad {post : Int32 → Prop} {f : Int32} {B E L T MF MT C HT HF FL SG bs st up dn : Nat → Int32} (HN : rt_N f B E L) (ok : rt_ok T 144 1000000) {s t : Nat} (hs : s < 12) (ht : t < 12) (h : ∀ m, m ≤ 1000000 → (∀ k, k < 28 → rt_b f k → rt_v E k = t → m ≤ rt_t T s (rt_v B k) + rt_v L k) → (m = 1000000 ∨ ∃ k, k < 28 ∧ rt_b f k ∧ rt_v E k = t ∧ m = rt_t T s (rt_v B k) + rt_v L k) → post (nI m)) : wpX_leastOverLastRoad post (f, B, E, L, T, MF, MT, C, HT, HF, FL, SG, bs, st, up, dn) (nI s) (nI t) := by
  obtain ⟨hB, hE, hL, hl1⟩ := HN
  refine loop_0 (fun n i (w : Int32) => wX_leastOverLastRoad_6 post (nI s) (nI t) f B E L T MF MT C HT HF FL SG bs st up dn n w (nI i)) (fun i w => ∃ m, w = nI m ∧ m ≤ 1000000 ∧ (∀ k, k < i → rt_b f k → rt_v E k = t → m ≤ rt_t T s (rt_v B k) + rt_v L k) ∧ (m = 1000000 ∨ ∃ k, k < 28 ∧ rt_b f k ∧ rt_v E k = t ∧ m = rt_t T s (rt_v B k) + rt_v L k)) 28 1000000 ⟨1000000, rfl, Nat.le_refl _, fun k hk => by omega, Or.inl rfl⟩ ?_ ?_
  · rintro n w ⟨m, e, k1, k2, k3⟩
    subst e
    exact pk_le 28 28 (fun _ => h m k1 k2 k3) (fun h => by omega)
  · rintro n i w hi ⟨m, e, k1, k2, k3⟩ ih
    subst e
    have b1 := (hB i hi).2
    have b2 := (hE i hi).2
    have b3 := (hL i hi).2
    have hb0 : rt_v B i < 12 := by omega
    have b4 := (rt_tok ok hs hb0).2
    have skip : (rt_b f i → rt_v E i = t → m ≤ rt_t T s (rt_v B i) + rt_v L i) → wX_leastOverLastRoad_6 post (nI s) (nI t) f B E L T MF MT C HT HF FL SG bs st up dn n (nI m) (nI (i + 1)) := by
      intro q
      refine ih _ ⟨m, rfl, k1, fun k hk z1 z2 => ?_, k3⟩
      by_cases c : k = i
      · subst c; exact q z1 z2
      · exact k2 k (by omega) z1 z2
    refine pk_le 28 i (fun h => by omega) (fun _ => ?_)
    refine rx_isRoad hi (fun hb => br_f rt_10 ⟨vp_in_nI hi (by omega), ?_⟩) (fun hb => br_t rfl (nm_r (nI_1 i) (skip (fun z => absurd z hb))))
    refine pk_eq (rt_v E i) t (fun c => ⟨vp_in_nI hi (by omega), ?_, vp_in_nI hi (by omega), nm_r (e' := nI (rt_t T s (rt_v B i) + rt_v L i)) (by rw [rt_rd hB hi, rt_rdx ok hs hb0, rt_rd hL hi, nI_add]) ?_⟩) (fun c => nm_r (nI_1 i) (skip (fun _ z => absurd z c))) (rt_rd hE hi) rfl
    · rw [rt_rd hB hi]; exact rt_inx hs hb0
    · refine pk_le m (rt_t T s (rt_v B i) + rt_v L i) (fun hle => nm_r (nI_1 i) (skip (fun _ _ => hle))) (fun hlt => nm_r (nI_1 i) ?_)
      refine ih _ ⟨_, rfl, by omega, fun k hk z1 z2 => ?_, Or.inr ⟨i, hi, hb, c, rfl⟩⟩
      by_cases ck : k = i
      · subst ck; exact Nat.le_refl _
      · have := k2 k (by omega) z1 z2
        omega
theorem rx_tableSound {post : Int32 → Prop} {f : Int32} {B E L T MF MT C HT HF FL SG bs st up dn : Nat → Int32} (HN : rt_N f B E L) (ok : rt_ok T 144 1000000) (hD : rt_AP (rt_eP (rt_b f) B E L) (rt_t T)) (h : post 1) : wpX_isTableSound post (f, B, E, L, T, MF, MT, C, HT, HF, FL, SG, bs, st, up, dn) := by
  refine loop_0 (fun n i (_ : Unit) => wX_isTableSound_2 post f B E L T MF MT C HT HF FL SG bs st up dn n (nI i)) (fun _ _ => True) 12 () trivial ?_ ?_
  · intro n _ _
    exact pk_le 12 12 (fun _ => h) (fun h => by omega)
  · intro n s _ hs _ ih
    refine pk_le 12 s (fun h => by omega) (fun _ => ?_)
    refine loop_0 (fun m i (_ : Unit) => wX_isTableSound_10 post (wX_isTableSound_2 post f B E L T MF MT C HT HF FL SG bs st up dn n) (nI s) f B E L T MF MT C HT HF FL SG bs st up dn m (nI i)) (fun _ _ => True) 12 () trivial ?_ ?_
    · intro m _ _
      exact pk_le 12 12 (fun _ => nm_r (nI_1 s) (ih () trivial)) (fun h => by omega)
    · intro m t _ ht _ ih2
      have fin : ∀ z : Int32, z = nI (rt_t T s t) → wX_isTableSound_31 post (wX_isTableSound_2 post f B E L T MF MT C HT HF FL SG bs st up dn n) (wX_isTableSound_10 post (wX_isTableSound_2 post f B E L T MF MT C HT HF FL SG bs st up dn n) (nI s) f B E L T MF MT C HT HF FL SG bs st up dn m) (nI s) (nI t) z f B E L T MF MT C HT HF FL SG bs st up dn := by
        intro z e
        subst e
        exact ⟨rt_inx hs ht, br_t (rt_rdx ok hs ht) (nm_r (nI_1 t) (ih2 () trivial))⟩
      refine pk_le 12 t (fun h => by omega) (fun _ => ?_)
      refine pk_eq s t (fun c => fin 0 ?_) (fun c => ?_)
      · subst c
        rw [(hD s hs).1]; rfl
      · refine rx_lastRoad HN ok hs ht (fun m' k1 k2 k3 => fin _ (congrArg nI ?_))
        have hf := (hD s hs).2.1 t ht
        apply Nat.le_antisymm
        · rcases (hD s hs).2.2.2 t ht (fun z => c z.symm) with w | ⟨a, l, ⟨k, hk, w1, w2, w3, w4⟩, r⟩
          · omega
          · have := k2 k hk w1 w3
            rw [w2, w4] at this
            omega
        · rcases k3 with w | ⟨k, hk, w1, w2, w3⟩
          · omega
          · have := (hD s hs).2.2.1 (rt_v B k) t (rt_v L k) ⟨k, hk, w1, rfl, w2, rfl⟩
            omega
theorem rx_marksSound {post : Int32 → Prop} {f : Int32} {B E L T MF MT C HT HF FL SG bs st up dn : Nat → Int32} (ok : rt_ok T 144 1000000) (mk : rt_MK (rt_t T) MF MT 3) (h : post 1) : wpX_areMarksSound post (f, B, E, L, T, MF, MT, C, HT, HF, FL, SG, bs, st, up, dn) := by
  refine loop_0 (fun n i (_ : Unit) => wX_areMarksSound_2 post f B E L T MF MT C HT HF FL SG bs st up dn n (nI i)) (fun _ _ => True) 3 () trivial ?_ ?_
  · intro n _ _
    exact pk_le 3 3 (fun _ => h) (fun h => by omega)
  · intro n m _ hm _ ih
    refine pk_le 3 m (fun h => by omega) (fun _ => nm_r (pk_mul m 4) ?_)
    have h4 : m * 4 < 12 := by omega
    refine loop_0 (fun j i (_ : Unit) => wX_areMarksSound_13 post (wX_areMarksSound_2 post f B E L T MF MT C HT HF FL SG bs st up dn n) (nI m) (nI (m * 4)) f B E L T MF MT C HT HF FL SG bs st up dn j (nI i)) (fun _ _ => True) 12 () trivial ?_ ?_
    · intro j _ _
      exact pk_le 12 12 (fun _ => nm_r (nI_1 m) (ih () trivial)) (fun h => by omega)
    · intro j x _ hx _ ih2
      have hm12 : m < 12 := by omega
      have c1 : (nI m * 12 + nI x).toNatClampNeg = m * 12 + x := rt_cx hm12 hx
      have e1 : MF (nI m * 12 + nI x).toNatClampNeg = T (nI (m * 4) * 12 + nI x).toNatClampNeg := by
        rw [c1, (mk m x hm hx).1, rt_rdx ok h4 hx]
      have e2 : MT (nI m * 12 + nI x).toNatClampNeg = T (nI x * 12 + nI (m * 4)).toNatClampNeg := by
        rw [c1, (mk m x hm hx).2, rt_rdx ok hx h4]
      have i36 : vp_in (nI m * 12 + nI x) 36 := pk_in (m * 12 + x) 36 (by omega) (rt_ix m x)
      refine pk_le 12 x (fun h => by omega) (fun _ => ⟨i36, rt_inx h4 hx, br_t e1 ⟨i36, rt_inx hx h4, br_t e2 (nm_r (nI_1 x) (ih2 () trivial))⟩⟩)
theorem rx_overLower {post : Int32 → Prop} {f : Int32} {B E L T MF MT C HT HF FL SG bs st up dn : Nat → Int32} (ok : rt_ok C 144 1000000) {a b : Nat} (ha : a < 12) (hb : b < 12) (h : ∀ m, m ≤ 1000000 → (a = b → m = 0) → (∀ q, q < a → q < b → m ≤ rt_t C a q + rt_t C q b) → (m = 1000000 ∨ (a = b ∧ m = 0) ∨ ∃ q, q < a ∧ q < b ∧ m = rt_t C a q + rt_t C q b) → post (nI m)) : wpX_leastOverLower post (f, B, E, L, T, MF, MT, C, HT, HF, FL, SG, bs, st, up, dn) (nI a) (nI b) := by
  have loop : ∀ (x : Int32) (m0 : Nat), x = nI m0 → m0 ≤ 1000000 → (a = b → m0 = 0) → (m0 = 1000000 ∨ (a = b ∧ m0 = 0)) → ∃ n, wX_leastOverLower_15 post (nI a) (nI b) f B E L T MF MT C HT HF FL SG bs st up dn n x 0 := by
    intro x m0 ex hm0 hz hd
    refine loop_0 (fun n i (w : Int32) => wX_leastOverLower_15 post (nI a) (nI b) f B E L T MF MT C HT HF FL SG bs st up dn n w (nI i)) (fun i w => ∃ m, w = nI m ∧ m ≤ 1000000 ∧ (a = b → m = 0) ∧ (∀ q, q < i → m ≤ rt_t C a q + rt_t C q b) ∧ (m = 1000000 ∨ (a = b ∧ m = 0) ∨ ∃ q, q < a ∧ q < b ∧ m = rt_t C a q + rt_t C q b)) (min a b) x ⟨m0, ex, hm0, hz, fun q hq => by omega, ?_⟩ ?_ ?_
    · rcases hd with w | w
      · exact Or.inl w
      · exact Or.inr (Or.inl w)
    · rintro n w ⟨m, e, k1, k2, k3, k4⟩
      subst e
      have fin := h m k1 k2 (fun q q1 q2 => k3 q (by omega)) k4
      exact pk_le a (min a b) (fun _ => fin) (fun c => pk_le b (min a b) (fun _ => fin) (fun c2 => by omega))
    · rintro n i w hi ⟨m, e, k1, k2, k3, k4⟩ ih
      subst e
      have hia : i < a := by omega
      have hib : i < b := by omega
      have hi12 : i < 12 := by omega
      have b1 := (rt_tok ok ha hi12).2
      have b2 := (rt_tok ok hi12 hb).2
      refine pk_le a i (fun h => by omega) (fun _ => pk_le b i (fun h => by omega) (fun _ => ⟨rt_inx ha hi12, rt_inx hi12 hb, nm_r (e' := nI (rt_t C a i + rt_t C i b)) (by rw [rt_rdx ok ha hi12, rt_rdx ok hi12 hb, nI_add]) ?_⟩))
      refine pk_le m (rt_t C a i + rt_t C i b) (fun hle => nm_r (nI_1 i) ?_) (fun hlt => nm_r (nI_1 i) ?_)
      · refine ih _ ⟨m, rfl, k1, k2, fun q hq => ?_, k4⟩
        by_cases c : q = i
        · subst c; exact hle
        · exact k3 q (by omega)
      · refine ih _ ⟨_, rfl, by omega, fun c => ?_, fun q hq => ?_, Or.inr (Or.inr ⟨i, hia, hib, rfl⟩)⟩
        · have := k2 c; omega
        · by_cases c : q = i
          · subst c; exact Nat.le_refl _
          · have := k3 q (by omega)
            omega
  unfold wpX_leastOverLower
  refine pk_eq a b (fun c => loop 0 0 rfl (by omega) (fun _ => rfl) (Or.inr ⟨c, rfl⟩)) (fun c => loop 1000000 1000000 rfl (by omega) (fun z => absurd z c) (Or.inl rfl))
theorem rx_byRoad {post : Int32 → Prop} {f : Int32} {B E L T MF MT C HT HF FL SG bs st up dn : Nat → Int32} (HN : rt_N f B E L) {a b : Nat} (ha : a < 12) (hb : b < 12) (h : ∀ m, m ≤ 1000000 → (∀ l, rt_eP (rt_b f) B E L a b l → m ≤ l) → (m = 1000000 ∨ rt_eP (rt_b f) B E L a b m) → post (nI m)) : wpX_leastByRoad post (f, B, E, L, T, MF, MT, C, HT, HF, FL, SG, bs, st, up, dn) (nI a) (nI b) := by
  obtain ⟨hB, hE, hL, hl1⟩ := HN
  refine loop_0 (fun n i (w : Int32) => wX_leastByRoad_6 post (nI a) (nI b) f B E L T MF MT C HT HF FL SG bs st up dn n w (nI i)) (fun i w => ∃ m, w = nI m ∧ m ≤ 1000000 ∧ (∀ k, k < i → rt_b f k → rt_v B k = a → rt_v E k = b → m ≤ rt_v L k) ∧ (m = 1000000 ∨ rt_eP (rt_b f) B E L a b m)) 28 1000000 ⟨1000000, rfl, Nat.le_refl _, fun k hk => by omega, Or.inl rfl⟩ ?_ ?_
  · rintro n w ⟨m, e, k1, k2, k3⟩
    subst e
    refine pk_le 28 28 (fun _ => h m k1 ?_ k3) (fun h => by omega)
    rintro l ⟨k, hk, w1, w2, w3, w4⟩
    have := k2 k hk w1 w2 w3
    omega
  · rintro n i w hi ⟨m, e, k1, k2, k3⟩ ih
    subst e
    have b1 := (hB i hi).2
    have b2 := (hE i hi).2
    have b3 := (hL i hi).2
    have skip : (rt_b f i → rt_v B i = a → rt_v E i = b → m ≤ rt_v L i) → wX_leastByRoad_6 post (nI a) (nI b) f B E L T MF MT C HT HF FL SG bs st up dn n (nI m) (nI (i + 1)) := by
      intro q
      refine ih _ ⟨m, rfl, k1, fun k hk z1 z2 z3 => ?_, k3⟩
      by_cases c : k = i
      · subst c; exact q z1 z2 z3
      · exact k2 k (by omega) z1 z2 z3
    refine pk_le 28 i (fun h => by omega) (fun _ => ?_)
    refine rx_isRoad hi (fun hr => br_f rt_10 ⟨vp_in_nI hi (by omega), ?_⟩) (fun hr => br_t rfl (nm_r (nI_1 i) (skip (fun z => absurd z hr))))
    refine pk_eq (rt_v B i) a (fun c => ⟨vp_in_nI hi (by omega), ?_⟩) (fun c => nm_r (nI_1 i) (skip (fun _ z => absurd z c))) (rt_rd hB hi) rfl
    refine pk_eq (rt_v E i) b (fun c2 => ⟨vp_in_nI hi (by omega), ?_⟩) (fun c2 => nm_r (nI_1 i) (skip (fun _ _ z => absurd z c2))) (rt_rd hE hi) rfl
    refine pk_le m (rt_v L i) (fun hle => nm_r (nI_1 i) (skip (fun _ _ _ => hle))) (fun hlt => ⟨vp_in_nI hi (by omega), nm_r (rt_rd hL hi) (nm_r (nI_1 i) ?_)⟩) rfl (rt_rd hL hi)
    refine ih _ ⟨_, rfl, by omega, fun k hk z1 z2 z3 => ?_, Or.inr ⟨i, hi, hr, c, c2, rfl⟩⟩
    by_cases ck : k = i
    · subst ck; exact Nat.le_refl _
    · have := k2 k (by omega) z1 z2 z3
      omega
theorem rx_climbSound {post : Int32 → Prop} {f : Int32} {B E L T MF MT C HT HF FL SG bs st up dn : Nat → Int32} (HN : rt_N f B E L) (ok : rt_ok C 144 1000000) {D : Nat → Nat → Nat} (hC : rt_CL (rt_eP (rt_b f) B E L) D 12 (rt_t C)) (h : post 1) : wpX_isClimbSound post (f, B, E, L, T, MF, MT, C, HT, HF, FL, SG, bs, st, up, dn) := by
  obtain ⟨h1, h2, h3, h5, h6, h7⟩ := hC
  refine loop_0 (fun n i (_ : Unit) => wX_isClimbSound_2 post f B E L T MF MT C HT HF FL SG bs st up dn n (nI i)) (fun _ _ => True) 12 () trivial ?_ ?_
  · intro n _ _
    exact pk_le 12 12 (fun _ => h) (fun h => by omega)
  · intro n a _ ha _ ih
    refine pk_le 12 a (fun h => by omega) (fun _ => ?_)
    refine loop_0 (fun m i (_ : Unit) => wX_isClimbSound_10 post (wX_isClimbSound_2 post f B E L T MF MT C HT HF FL SG bs st up dn n) (nI a) f B E L T MF MT C HT HF FL SG bs st up dn m (nI i)) (fun _ _ => True) 12 () trivial ?_ ?_
    · intro m _ _
      exact pk_le 12 12 (fun _ => nm_r (nI_1 a) (ih () trivial)) (fun h => by omega)
    · intro m b _ hb _ ih2
      have fin : ∀ z : Nat, z = rt_t C a b → wX_isClimbSound_43 post (wX_isClimbSound_2 post f B E L T MF MT C HT HF FL SG bs st up dn n) (wX_isClimbSound_10 post (wX_isClimbSound_2 post f B E L T MF MT C HT HF FL SG bs st up dn n) (nI a) f B E L T MF MT C HT HF FL SG bs st up dn m) (nI a) (nI b) (nI z) f B E L T MF MT C HT HF FL SG bs st up dn := by
        intro z e
        subst e
        exact ⟨rt_inx ha hb, br_t (rt_rdx ok ha hb) (nm_r (nI_1 b) (ih2 () trivial))⟩
      refine pk_le 12 b (fun h => by omega) (fun _ => ?_)
      refine rx_overLower ok ha hb (fun m1 p1 p2 p3 p4 => ?_)
      refine rx_byRoad HN ha hb (fun m2 q1 q2 q3 => ?_)
      have l1 : rt_t C a b ≤ m1 := by
        rcases p4 with w | ⟨w1, w2⟩ | ⟨q, w1, w2, w3⟩
        · have := h2 a b ha hb; omega
        · subst w1; have := h1 a ha; omega
        · have := h6 q a b (by omega) ha hb w1 w2; omega
      have l2 : rt_t C a b ≤ m2 := by
        rcases q3 with w | w
        · have := h2 a b ha hb; omega
        · exact h3 a b m2 w
      have l3 : min m1 m2 ≤ rt_t C a b := by
        by_cases c : a = b
        · have := p2 c; omega
        · rcases h5 a b ha hb c with w | ⟨l, w1, w2⟩ | ⟨q, w1, w2, w3⟩
          · omega
          · have := q2 l w1; omega
          · have := p3 q w1 w2; omega
      exact pk_le m1 m2 (fun hle => fin m1 (by omega)) (fun hlt => fin m2 (by omega))
theorem rx_label {post : Int32 → Prop} {x y : Int32} (hx : x = 1000000 ∨ x = y) (h : post 1) : wpX_isLabelSound post x y := by
  by_cases c : x = 1000000
  · exact br_t c h
  · exact br_f c (br_t (hx.resolve_left c) h)
theorem rx_hubsSound {post : Int32 → Prop} {f : Int32} {B E L T MF MT C HT HF FL SG bs st up dn : Nat → Int32} (HN : rt_N f B E L) (ok : rt_ok T 144 1000000) (hD : rt_AP (rt_eP (rt_b f) B E L) (rt_t T)) (ok1 : rt_ok HT 144 1000000) (ok2 : rt_ok HF 144 1000000) (l1 : rt_LI (rt_tr (rt_t T)) (rt_t HT) 12) (l2 : rt_LI (rt_t T) (rt_t HF) 12) (h : post 1) : wpX_areHubsSound post (f, B, E, L, T, MF, MT, C, HT, HF, FL, SG, bs, st, up, dn) := by
  refine loop_0 (fun n i (_ : Unit) => wX_areHubsSound_2 post f B E L T MF MT C HT HF FL SG bs st up dn n (nI i)) (fun _ _ => True) 12 () trivial ?_ ?_
  · intro n _ _
    exact pk_le 12 12 (fun _ => h) (fun h => by omega)
  · intro n p _ hp _ ih
    refine pk_le 12 p (fun h => by omega) (fun _ => ?_)
    refine loop_0 (fun m i (_ : Unit) => wX_areHubsSound_10 post (wX_areHubsSound_2 post f B E L T MF MT C HT HF FL SG bs st up dn n) (nI p) f B E L T MF MT C HT HF FL SG bs st up dn m (nI i)) (fun _ _ => True) 12 () trivial ?_ ?_
    · intro m _ _
      exact pk_le 12 12 (fun _ => nm_r (nI_1 p) (ih () trivial)) (fun h => by omega)
    · intro m q _ hq _ ih2
      have e1 : HT (nI p * 12 + nI q).toNatClampNeg = 1000000 ∨ HT (nI p * 12 + nI q).toNatClampNeg = T (nI p * 12 + nI q).toNatClampNeg := by
        rw [rt_rdx ok1 hp hq, rt_rdx ok hp hq]
        rcases (l1 p q hp hq).1 with w | w
        · rw [w]; exact Or.inl rfl
        · rw [w]; exact Or.inr rfl
      have e2 : HF (nI p * 12 + nI q).toNatClampNeg = 1000000 ∨ HF (nI p * 12 + nI q).toNatClampNeg = T (nI q * 12 + nI p).toNatClampNeg := by
        rw [rt_rdx ok2 hp hq, rt_rdx ok hq hp]
        rcases (l2 p q hp hq).1 with w | w
        · rw [w]; exact Or.inl rfl
        · rw [w]; exact Or.inr rfl
      refine pk_le 12 q (fun h => by omega) (fun _ => ⟨rt_inx hp hq, rt_inx hp hq, rx_label e1 (br_f rt_10 ⟨rt_inx hp hq, rt_inx hq hp, rx_label e2 (br_f rt_10 ?_)⟩)⟩)
      refine rx_fbh_toHub_fromHub hp hq ok1 ok2 (fun r hr => ⟨rt_inx hp hq, br_t ?_ (nm_r (nI_1 q) (ih2 () trivial))⟩)
      rw [rt_rdx ok hp hq, rt_hubs (rt_N_net HN) hD hp hq (rt_LI_LO l1 (Nat.le_refl _)) (rt_LI_LO l2 (Nat.le_refl _)) hr]
def rt_LD (B E L : Nat → Int32) (D : Nat → Nat → Nat) (t k : Nat) : Prop := D (rt_v B k) t = rt_v L k + D (rt_v E k) t
theorem rx_leads {post : Int32 → Prop} {f : Int32} {B E L T MF MT C HT HF FL SG bs st up dn : Nat → Int32} (HN : rt_N f B E L) (ok : rt_ok T 144 1000000) {k t : Nat} (hk : k < 28) (ht : t < 12) (h1 : rt_LD B E L (rt_t T) t k → post 1) (h0 : ¬ rt_LD B E L (rt_t T) t k → post 0) : wpX_leadsTo post (f, B, E, L, T, MF, MT, C, HT, HF, FL, SG, bs, st, up, dn) (nI k) (nI t) := by
  obtain ⟨hB, hE, hL, hl1⟩ := HN
  have b1 := (hB k hk).2
  have b2 := (hE k hk).2
  have b3 := (hL k hk).2
  have hb0 : rt_v B k < 12 := by omega
  have he0 : rt_v E k < 12 := by omega
  have b4 := (rt_tok ok hb0 ht).2
  have b5 := (rt_tok ok he0 ht).2
  refine ⟨vp_in_nI hk (by omega), ?_, vp_in_nI hk (by omega), vp_in_nI hk (by omega), ?_, ?_⟩
  · rw [rt_rd hB hk]; exact rt_inx hb0 ht
  · rw [rt_rd hE hk]; exact rt_inx he0 ht
  · refine pk_eq (rt_t T (rt_v B k) t) (rt_v L k + rt_t T (rt_v E k) t) (fun c => h1 c) (fun c => h0 c) ?_ ?_
    · rw [rt_rd hB hk, rt_rdx ok hb0 ht]
    · rw [rt_rd hE hk, rt_rdx ok he0 ht, rt_rd hL hk, nI_add]
theorem rx_leadsR {post : Int32 → Prop} {f : Int32} {B E L T MF MT C HT HF FL SG bs st up dn : Nat → Int32} (HN : rt_N f B E L) (ok : rt_ok T 144 1000000) {k r : Nat} (hk : k < 28) (hr : r < 4) (h1 : (∃ i, i < 3 ∧ rt_LD B E L (rt_t T) (r * 3 + i) k) → post 1) (h0 : (¬ ∃ i, i < 3 ∧ rt_LD B E L (rt_t T) (r * 3 + i) k) → post 0) : wpX_leadsToRegion post (f, B, E, L, T, MF, MT, C, HT, HF, FL, SG, bs, st, up, dn) (nI k) (nI r) := by
  refine loop_0 (fun n i (_ : Unit) => wX_leadsToRegion_2 post (nI k) (nI r) f B E L T MF MT C HT HF FL SG bs st up dn n (nI i)) (fun i _ => ∀ j, j < i → ¬ rt_LD B E L (rt_t T) (r * 3 + j) k) 3 () (fun j hj => by omega) ?_ ?_
  · intro n _ hj
    exact pk_le 3 3 (fun _ => h0 (fun ⟨i, hi, z⟩ => hj i hi z)) (fun h => by omega)
  · intro n i _ hi hj ih
    refine pk_le 3 i (fun h => by omega) (fun _ => ?_)
    have e : nI r * 3 + nI i = nI (r * 3 + i) := by
      show nI r * nI 3 + nI i = _
      rw [pk_mul, nI_add]
    rw [e]
    refine rx_leads HN ok hk (by omega) (fun z => br_f rt_10 (h1 ⟨i, hi, z⟩)) (fun z => br_t rfl (nm_r (nI_1 i) (ih () (fun j hj' => ?_))))
    by_cases c : j = i
    · subst c; exact z
    · exact hj j (by omega)
theorem rx_flagsSound {post : Int32 → Prop} {f : Int32} {B E L T MF MT C HT HF FL SG bs st up dn : Nat → Int32} (HN : rt_N f B E L) (ok : rt_ok T 144 1000000) (hF : rt_FG f B E L (rt_t T) FL 12) (h : post 1) : wpX_areFlagsSound post (f, B, E, L, T, MF, MT, C, HT, HF, FL, SG, bs, st, up, dn) := by
  refine loop_0 (fun n i (_ : Unit) => wX_areFlagsSound_2 post f B E L T MF MT C HT HF FL SG bs st up dn n (nI i)) (fun _ _ => True) 4 () trivial ?_ ?_
  · intro n _ _
    exact pk_le 4 4 (fun _ => h) (fun h => by omega)
  · intro n r _ hr _ ih
    refine pk_le 4 r (fun h => by omega) (fun _ => ?_)
    refine loop_0 (fun m i (x : Int32) => wX_areFlagsSound_11 post (wX_areFlagsSound_2 post f B E L T MF MT C HT HF FL SG bs st up dn n) (nI r) f B E L T MF MT C HT HF FL SG bs st up dn m x (nI i)) (fun i x => rt_bl (fun k => rt_b f k ∧ ∃ i, i < 3 ∧ rt_LD B E L (rt_t T) (r * 3 + i) k) i x) 28 0 rt_bl_0 ?_ ?_
    · intro m x hx
      have e : FL (nI r).toNatClampNeg = x := by
        rw [nI_clamp (by omega)]
        apply rt_b_ext
        intro k hk
        rw [hF r k hr hk, hx k hk]
        constructor
        · rintro ⟨z1, t, z2, z3, z4, z5⟩
          exact ⟨z1, z4, t - r * 3, by omega, by rw [show r * 3 + (t - r * 3) = t by omega]; exact z5⟩
        · rintro ⟨z1, z2, i, z3, z4⟩
          exact ⟨z1, r * 3 + i, by omega, by omega, z2, z4⟩
      exact pk_le 28 28 (fun _ => ⟨vp_in_nI hr (by omega), br_t e (nm_r (nI_1 r) (ih () trivial))⟩) (fun h => by omega)
    · intro m i x hi hx ih2
      refine pk_le 28 i (fun h => by omega) (fun _ => ?_)
      refine rx_isRoad hi (fun hb => br_f rt_10 ?_) (fun hb => br_t rfl (nm_r (nI_1 i) (ih2 _ (rt_bl_skip hx (fun z => hb z.1)))))
      refine rx_leadsR HN ok hi hr (fun z => br_f rt_10 (nm_e (nm_r (nI_1 i) (ih2 _ (rt_bl_set hx (by omega) ⟨hb, z⟩))))) (fun z => br_t rfl (nm_r (nI_1 i) (ih2 _ (rt_bl_skip hx (fun q => z q.2)))))
theorem rx_signSound {post : Int32 → Prop} {f : Int32} {B E L T MF MT C HT HF FL SG bs st up dn : Nat → Int32} (HN : rt_N f B E L) (ok : rt_ok T 144 1000000) (hW : rt_FW (rt_eP (rt_b f) B E L) 12 (rt_t T)) (hS : ∀ s t, s < 12 → t < 12 → rt_SGN f B E L (rt_t T) SG s t 28) {s t : Nat} (hs : s < 12) (ht : t < 12) (h : post 1) : wpX_isSignSound post (f, B, E, L, T, MF, MT, C, HT, HF, FL, SG, bs, st, up, dn) (nI s) (nI t) := by
  have N := rt_N_net HN
  have hD := rt_FW_end N hW
  have hst := (hD s hs).2.1 t ht
  have bd : 30 * 2 ^ 12 = 122880 := by decide
  have none : (s = t ∨ rt_t T s t = 1000000) → SG (nI s * 12 + nI t).toNatClampNeg = -1 := by
    intro c
    rw [rt_cx hs ht]
    rcases hS s t hs ht with ⟨z1, _⟩ | ⟨k, hk, z1, z2, z3⟩
    · exact z1
    · exfalso
      have q := z2.2
      rw [z3] at q
      have q1 := HN.2.2.2 k hk z2.1
      have q2 := (HN.2.2.1 k hk).2
      have q3 := (HN.2.1 k hk).2
      have q4 := hW.2.2.2.2.2.2 (rt_v E k) t (by omega) ht
      rcases c with c | c
      · subst c
        have := (hD s hs).1
        omega
      · omega
  unfold wpX_isSignSound
  by_cases c : s = t
  · refine ⟨rt_inx hs ht, nm_r (none (Or.inl c)) (br_t (congrArg nI c) ?_)⟩
    exact br_t rfl h
  · by_cases c2 : rt_t T s t = 1000000
    · refine ⟨rt_inx hs ht, nm_r (none (Or.inr c2)) (br_f (fun z => c ((nI_eq (by omega) (by omega)).mp z)) ⟨rt_inx hs ht, br_t ?_ ?_⟩)⟩
      · rw [rt_rdx ok hs ht, c2]; rfl
      · exact br_t rfl h
    · rcases hS s t hs ht with ⟨z1, z2⟩ | ⟨k, hk, z1, z2, z3⟩
      · exfalso
        rcases rt_first N hD hs ht c with w | ⟨b, l', ⟨k, hk, w1, w2, w3, w4⟩, r⟩
        · exact c2 w
        · refine absurd ⟨⟨w1, ?_⟩, w2⟩ (z2 k hk)
          rw [w2, w3, w4]; exact r
      · have b1 := (HN.1 k hk).2
        refine ⟨rt_inx hs ht, nm_r (e' := nI k) (by rw [rt_cx hs ht]; exact z1) (br_f (fun z => c ((nI_eq (by omega) (by omega)).mp z)) ⟨rt_inx hs ht, ?_⟩)⟩
        refine pk_eq (rt_t T s t) 1000000 (fun z => absurd z c2) (fun _ => ?_) (rt_rdx ok hs ht) rfl
        refine rx_isRoad hk (fun hb => br_f rt_10 ⟨vp_in_nI hk (by omega), ?_⟩) (fun hb => absurd z2.1 hb)
        refine pk_eq (rt_v B k) s (fun _ => ?_) (fun z => absurd z3 z) (rt_rd HN.1 hk) rfl
        exact rx_leads HN ok hk ht (fun _ => br_f rt_10 h) (fun z => absurd z2.2 z)
theorem rx_signsSound {post : Int32 → Prop} {f : Int32} {B E L T MF MT C HT HF FL SG bs st up dn : Nat → Int32} (HN : rt_N f B E L) (ok : rt_ok T 144 1000000) (hW : rt_FW (rt_eP (rt_b f) B E L) 12 (rt_t T)) (hS : ∀ s t, s < 12 → t < 12 → rt_SGN f B E L (rt_t T) SG s t 28) (h : post 1) : wpX_areSignsSound post (f, B, E, L, T, MF, MT, C, HT, HF, FL, SG, bs, st, up, dn) := by
  refine loop_0 (fun n i (_ : Unit) => wX_areSignsSound_2 post f B E L T MF MT C HT HF FL SG bs st up dn n (nI i)) (fun _ _ => True) 12 () trivial ?_ ?_
  · intro n _ _
    exact pk_le 12 12 (fun _ => h) (fun h => by omega)
  · intro n s _ hs _ ih
    refine pk_le 12 s (fun h => by omega) (fun _ => ?_)
    refine loop_0 (fun m i (_ : Unit) => wX_areSignsSound_10 post (wX_areSignsSound_2 post f B E L T MF MT C HT HF FL SG bs st up dn n) (nI s) f B E L T MF MT C HT HF FL SG bs st up dn m (nI i)) (fun _ _ => True) 12 () trivial ?_ ?_
    · intro m _ _
      exact pk_le 12 12 (fun _ => nm_r (nI_1 s) (ih () trivial)) (fun h => by omega)
    · intro m t _ ht _ ih2
      refine pk_le 12 t (fun h => by omega) (fun _ => ?_)
      exact rx_signSound HN ok hW hS hs ht (br_f rt_10 (nm_r (nI_1 t) (ih2 () trivial)))
theorem rx_sound {post : Int32 → Prop} {f : Int32} {B E L T MF MT C HT HF FL SG bs st up dn : Nat → Int32} (HP : rt_P f B E L T MF MT C HT HF FL SG) (h : post 1) : wpX_sound post (f, B, E, L, T, MF, MT, C, HT, HF, FL, SG, bs, st, up, dn) := by
  obtain ⟨HN, p1, p2, p3, p4, p5, p6, p7, p8, p9, p10, p11⟩ := HP
  have hD := rt_FW_end (rt_N_net HN) p2
  unfold wpX_sound
  refine rx_tableSound HN p1 hD (br_f rt_10 ?_)
  refine rx_marksSound p1 p3 (br_f rt_10 ?_)
  refine rx_climbSound HN p4 p5 (br_f rt_10 ?_)
  refine rx_hubsSound HN p1 hD p6 p7 p8 p9 (br_f rt_10 ?_)
  refine rx_flagsSound HN p1 p10 (br_f rt_10 ?_)
  exact rx_signsSound HN p1 p2 p11 (br_f rt_10 h)
end
section
/-! walks: arguments and questions of both sides -/
def rt_badP (v : Int32) : Prop := v < 0 ∨ nI 12 ≤ v
def rt_badE (v : Int32) : Prop := v < 0 ∨ nI 7 ≤ v
def rt_badL (v : Int32) : Prop := v < 1 ∨ 30 < v
def rt_badR (f v : Int32) : Prop := v < 0 ∨ nI 28 ≤ v ∨ ∃ k, k < 28 ∧ v = nI k ∧ ¬ rt_b f k
theorem rt_pt (v : Int32) : rt_badP v ∨ ∃ p, p < 12 ∧ v = nI p := by
  rcases pk_ix v (n := 12) (by omega) with h | h | h
  · exact Or.inl (Or.inl h)
  · exact Or.inl (Or.inr h)
  · exact Or.inr h
theorem rt_eng (v : Int32) : rt_badE v ∨ ∃ p, p < 7 ∧ v = nI p := by
  rcases pk_ix v (n := 7) (by omega) with h | h | h
  · exact Or.inl (Or.inl h)
  · exact Or.inl (Or.inr h)
  · exact Or.inr h
theorem rt_len (v : Int32) : rt_badL v ∨ ∃ l, 1 ≤ l ∧ l ≤ 30 ∧ v = nI l := by
  by_cases h1 : v < 1
  · exact Or.inl (Or.inl h1)
  · by_cases h2 : 30 < v
    · exact Or.inl (Or.inr h2)
    · have h0 : ¬ v < 0 := fun z => h1 (Int32.lt_trans z (by decide))
      obtain ⟨j, hj, rfl⟩ := nI_of h0
      refine Or.inr ⟨j, ?_, ?_, rfl⟩
      · have : ¬ nI j < nI 1 := h1
        rw [nI_ltI hj (by omega)] at this
        omega
      · have : ¬ nI 30 < nI j := h2
        rw [nI_ltI (by omega) hj] at this
        omega
theorem rt_rd28 (f v : Int32) : rt_badR f v ∨ ∃ k, k < 28 ∧ v = nI k ∧ rt_b f k := by
  rcases pk_ix v (n := 28) (by omega) with h | h | ⟨k, hk, e⟩
  · exact Or.inl (Or.inl h)
  · exact Or.inl (Or.inr (Or.inl h))
  · by_cases c : rt_b f k
    · exact Or.inr ⟨k, hk, e, c⟩
    · exact Or.inl (Or.inr (Or.inr ⟨k, hk, e, c⟩))
theorem rt_nneg {v : Int32} {n : Nat} (h : nI n ≤ v) (hn : n < 2 ^ 31) : ¬ v < 0 := Int32.not_lt.mpr (Int32.le_trans (nI_pos' hn) h)
theorem rx_pt_bad {post : Int32 → Prop} {v : Int32} (h : rt_badP v) (hp : post 0) : wpX_isPoint post v := by
  rcases h with z | z
  · exact br_t z hp
  · exact br_f (rt_nneg z (by omega)) (br_t z hp)
theorem rx_pt {post : Int32 → Prop} {p : Nat} (h : p < 12) (hp : post 1) : wpX_isPoint post (nI p) := br_f (nI_pos (by omega)) (br_f (nI_ge (b := 12) h (by decide)) hp)
theorem rx_eng_bad {post : Int32 → Prop} {v : Int32} (h : rt_badE v) (hp : post 0) : wpX_isEngine post v := by
  rcases h with z | z
  · exact br_t z hp
  · exact br_f (rt_nneg z (by omega)) (br_t z hp)
theorem rx_eng {post : Int32 → Prop} {p : Nat} (h : p < 7) (hp : post 1) : wpX_isEngine post (nI p) := br_f (nI_pos (by omega)) (br_f (nI_ge (b := 7) h (by decide)) hp)
theorem rx_len_bad {post : Int32 → Prop} {v : Int32} (h : rt_badL v) (hp : post 0) : wpX_isLength post v := by
  by_cases c : v < 1
  · exact br_t c hp
  · exact br_f c (br_t (h.resolve_left c) hp)
theorem rx_len {post : Int32 → Prop} {l : Nat} (h1 : 1 ≤ l) (h2 : l ≤ 30) (hp : post 1) : wpX_isLength post (nI l) := br_f (nI_nlt (b := 1) h1 (by omega)) (br_f (nI_nlt (a := 30) h2 (by omega)) hp)
theorem rx_rd_bad {post : Int32 → Prop} {f : Int32} {B E L T MF MT C HT HF FL SG bs st up dn : Nat → Int32} {v : Int32} (h : rt_badR f v) (hp : post 0) : wpX_isRoad post (f, B, E, L, T, MF, MT, C, HT, HF, FL, SG, bs, st, up, dn) v := by
  rcases h with z | z | ⟨k, hk, e, z⟩
  · exact br_t z hp
  · exact br_f (rt_nneg z (by omega)) (br_t z hp)
  · subst e; exact rx_isRoad hk (fun q => absurd q z) (fun _ => hp)
theorem ry_pt_bad {post : Int32 → Prop} {TH B E L LE : Nat → Int32} {v : Int32} (h : rt_badP v) (hp : post 0) : wpY_point post (TH, B, E, L, LE) v := by
  rcases h with z | z
  · exact br_t z hp
  · exact br_f (rt_nneg z (by omega)) (br_t (Int32.lt_of_lt_of_le (nI_lt (a := 11) (b := 12) (by omega) (by omega)) z) hp)
theorem ry_pt {post : Int32 → Prop} {TH B E L LE : Nat → Int32} {p : Nat} (h : p < 12) (hp : post 1) : wpY_point post (TH, B, E, L, LE) (nI p) := br_f (nI_pos (by omega)) (br_f (nI_nlt (a := 11) (by omega) (by omega)) hp)
theorem ry_eng_bad {post : Int32 → Prop} {TH B E L LE : Nat → Int32} {v : Int32} (h : rt_badE v) (hp : post 0) : wpY_engine post (TH, B, E, L, LE) v := by
  rcases h with z | z
  · exact br_t z hp
  · exact br_f (rt_nneg z (by omega)) (br_t (Int32.lt_of_lt_of_le (nI_lt (a := 6) (b := 7) (by omega) (by omega)) z) hp)
theorem ry_eng {post : Int32 → Prop} {TH B E L LE : Nat → Int32} {p : Nat} (h : p < 7) (hp : post 1) : wpY_engine post (TH, B, E, L, LE) (nI p) := br_f (nI_pos (by omega)) (br_f (nI_nlt (a := 6) (by omega) (by omega)) hp)
theorem ry_len_bad {post : Int32 → Prop} {TH B E L LE : Nat → Int32} {v : Int32} (h : rt_badL v) (hp : post 0) : wpY_isLength post (TH, B, E, L, LE) v := by
  by_cases c : v < 1
  · exact br_t c hp
  · exact br_f c (br_t (h.resolve_left c) hp)
theorem ry_len {post : Int32 → Prop} {TH B E L LE : Nat → Int32} {l : Nat} (h1 : 1 ≤ l) (h2 : l ≤ 30) (hp : post 1) : wpY_isLength post (TH, B, E, L, LE) (nI l) := br_f (nI_nlt (b := 1) h1 (by omega)) (br_f (nI_nlt (a := 30) h2 (by omega)) hp)
def rt_TH (f : Int32) (TH : Nat → Int32) : Prop := ∀ k, k < 28 → (TH k = 0 ↔ ¬ rt_b f k)
theorem ry_is {post : Int32 → Prop} {TH B E L LE : Nat → Int32} {f : Int32} (hT : rt_TH f TH) {k : Nat} (hk : k < 28) (h1 : rt_b f k → post 1) (h0 : ¬ rt_b f k → post 0) : wpY_is post (TH, B, E, L, LE) (nI k) := by
  refine br_f (nI_pos (by omega)) (br_f (nI_ge (b := 28) hk (by decide)) ⟨vp_in_nI hk (by omega), ?_⟩)
  by_cases c : rt_b f k
  · exact br_f (show ¬ TH (nI k).toNatClampNeg = 0 by rw [nI_clamp (by omega)]; exact fun z => (hT k hk).mp z c) (h1 c)
  · exact br_t (show TH (nI k).toNatClampNeg = 0 by rw [nI_clamp (by omega)]; exact (hT k hk).mpr c) (h0 c)
theorem ry_is_bad {post : Int32 → Prop} {TH B E L LE : Nat → Int32} {f : Int32} (hT : rt_TH f TH) {v : Int32} (h : rt_badR f v) (hp : post 0) : wpY_is post (TH, B, E, L, LE) v := by
  rcases h with z | z | ⟨k, hk, e, z⟩
  · exact br_t z hp
  · exact br_f (rt_nneg z (by omega)) (br_t z hp)
  · subst e; exact ry_is hT hk (fun q => absurd q z) (fun _ => hp)
theorem rt_TH_P {f : Int32} {TH : Nat → Int32} (hT : rt_TH f TH) : ∀ k, k < 28 → (rt_b f k ↔ (¬ TH k = 0 ∧ ¬ nI k = -1)) := by
  intro k hk
  constructor
  · intro h; exact ⟨fun z => (hT k hk).mp z h, rt_nm1 (by omega)⟩
  · rintro ⟨h, _⟩
    exact Classical.byContradiction (fun z => h ((hT k hk).mpr z))
theorem rt_TH_Q {f : Int32} {TH : Nat → Int32} (hT : rt_TH f TH) {j : Nat} (hj : j < 28) : ∀ k, k < 28 → (rt_b (f &&& (((1 : Int32) <<< (nI j &&& 31)) ^^^ (-1))) k ↔ (¬ TH k = 0 ∧ ¬ nI k = nI j)) := by
  intro k hk
  rw [rt_b_clr (by omega) (by omega), nI_eq (by omega) (by omega)]
  constructor
  · rintro ⟨h, h2⟩; exact ⟨fun z => (hT k hk).mp z h, h2⟩
  · rintro ⟨h, h2⟩
    exact ⟨Classical.byContradiction (fun z => h ((hT k hk).mpr z)), h2⟩
theorem rx_orNone {post : Int32 → Prop} {d : Nat} (hd : d < 2 ^ 31) (h1 : d < 1000000 → post (nI d)) (h2 : 1000000 ≤ d → post (-3)) : wpX_orNone post (nI d) := pk_lt d 1000000 h1 h2
/-! the greatest -/
def rt_mx (d : Nat → Nat) (n m : Nat) : Prop := m ≤ 1000000 ∧ (∀ t, t < n → d t < 1000000 → d t ≤ m) ∧ (m = 0 ∨ ∃ t, t < n ∧ d t < 1000000 ∧ d t = m)
theorem rt_mx_0 {d : Nat → Nat} : rt_mx d 0 0 := ⟨by omega, fun t ht => by omega, Or.inl rfl⟩
theorem rt_mx_eq {d : Nat → Nat} {n m m' : Nat} (h : rt_mx d n m) (h' : rt_mx d n m') : m = m' := by
  obtain ⟨_, a1, a2⟩ := h
  obtain ⟨_, b1, b2⟩ := h'
  apply Nat.le_antisymm
  · rcases a2 with w | ⟨t, w1, w2, w3⟩
    · omega
    · have := b1 t w1 w2; omega
  · rcases b2 with w | ⟨t, w1, w2, w3⟩
    · omega
    · have := a1 t w1 w2; omega
theorem rt_mx_skip {d : Nat → Nat} {n m : Nat} (h : rt_mx d n m) (hs : d n < 1000000 → d n ≤ m) : rt_mx d (n + 1) m := by
  obtain ⟨a0, a1, a2⟩ := h
  refine ⟨a0, fun t ht hf => ?_, ?_⟩
  · by_cases c : t = n
    · subst c; exact hs hf
    · exact a1 t (by omega) hf
  · rcases a2 with w | ⟨t, w1, w2⟩
    · exact Or.inl w
    · exact Or.inr ⟨t, by omega, w2⟩
theorem rt_mx_put {d : Nat → Nat} {n m : Nat} (h : rt_mx d n m) (hf : d n < 1000000) (hs : m < d n) : rt_mx d (n + 1) (d n) := by
  obtain ⟨a0, a1, a2⟩ := h
  refine ⟨by omega, fun t ht hf' => ?_, Or.inr ⟨n, by omega, hf, rfl⟩⟩
  by_cases c : t = n
  · subst c; exact Nat.le_refl _
  · have := a1 t (by omega) hf'
    omega
theorem rx_great {post : Int32 → Prop} {f : Int32} {B E L T MF MT C HT HF FL SG bs st up dn : Nat → Int32} (ok : rt_ok T 144 1000000) {s : Nat} (hs : s < 12) (h : ∀ m, rt_mx (rt_t T s) 12 m → post (nI m)) : wpX_greatestFrom post (f, B, E, L, T, MF, MT, C, HT, HF, FL, SG, bs, st, up, dn) (nI s) := by
  refine loop_0 (fun n i (w : Int32) => wX_greatestFrom_4 post (nI s) f B E L T MF MT C HT HF FL SG bs st up dn n w (nI i)) (fun i w => ∃ m, w = nI m ∧ rt_mx (rt_t T s) i m) 12 0 ⟨0, rfl, rt_mx_0⟩ ?_ ?_
  · rintro n w ⟨m, e, k⟩
    subst e
    exact pk_le 12 12 (fun _ => h m k) (fun h => by omega)
  · rintro n i w hi ⟨m, e, k⟩ ih
    subst e
    have b := (rt_tok ok hs hi).2
    have b2 := k.1
    refine pk_le 12 i (fun h => by omega) (fun _ => ⟨rt_inx hs hi, nm_r (rt_rdx ok hs hi) ?_⟩)
    refine pk_le 1000000 (rt_t T s i) (fun c => nm_r (nI_1 i) (ih _ ⟨m, rfl, rt_mx_skip k (fun z => by omega)⟩)) (fun c => ?_)
    refine pk_le (rt_t T s i) m (fun c2 => nm_r (nI_1 i) (ih _ ⟨m, rfl, rt_mx_skip k (fun z => c2)⟩)) (fun c2 => nm_r (nI_1 i) (ih _ ⟨_, rfl, rt_mx_put k c c2⟩))
theorem ry_far_loop {post : Int32 → SY → Prop} {TH B E L LE : Nat → Int32} {s : Nat} (hs : s < 12) {d : Nat → Nat} (hf : ∀ x, x < 12 → d x ≤ 1000000) (hr : rt_row LE s d) (h : ∀ m, rt_mx d 12 m → post (nI m) (TH, B, E, L, LE)) : ∃ n, wY_farthest_20 post (nI s) TH B E L LE n 0 0 := by
  refine loop_0 (fun n i (w : Int32) => wY_farthest_20 post (nI s) TH B E L LE n w (nI i)) (fun i w => ∃ m, w = nI m ∧ rt_mx d i m) 12 0 ⟨0, rfl, rt_mx_0⟩ ?_ ?_
  · rintro n w ⟨m, e, k⟩
    subst e
    exact pk_le 12 12 (fun _ => h m k) (fun h => by omega)
  · rintro n i w hi ⟨m, e, k⟩ ih
    subst e
    have b := hf i hi
    have b2 := k.1
    refine pk_le 12 i (fun h => by omega) (fun _ => ry_way hs hi (hr i hi) ?_)
    by_cases c : d i = 1000000
    · have e3 : rt_en (d i) ≤ nI m := by
        rw [c, rt_en_far]
        exact Int32.le_trans (by decide) (nI_pos' (by omega))
      exact br_t e3 (nm_r (nI_1 i) (ih _ ⟨m, rfl, rt_mx_skip k (fun z => by omega)⟩))
    · rw [rt_en_lt c]
      refine pk_le (d i) m (fun c2 => nm_r (nI_1 i) (ih _ ⟨m, rfl, rt_mx_skip k (fun z => c2)⟩)) (fun c2 => ?_)
      refine ry_way hs hi ((hr i hi).trans (rt_en_lt c)) (nm_r (nI_1 i) (ih _ ⟨_, rfl, rt_mx_put k (by omega) c2⟩))
theorem ry_farthest {post : Int32 → SY → Prop} {TH B E L LE : Nat → Int32} {f : Int32} {s : Nat} (hs : s < 12) (HN : rt_N f B E L) (hT : rt_TH f TH) {d : Nat → Nat} (hd : rt_SS (rt_eP (rt_b f) B E L) s d) (h : ∀ m LE', rt_mx d 12 m → post (nI m) (TH, B, E, L, LE')) : wpY_farthest post (TH, B, E, L, LE) (nI s) := by
  unfold wpY_farthest
  refine ry_pt hs (br_f rt_10 ?_)
  refine ry_measure hs HN.1 HN.2.1 HN.2.2.1 (rt_TH_P hT) HN.2.2.2 hd (fun LE' k1 _ => ?_)
  exact ry_far_loop hs hd.2.1 k1 (fun m k => h m LE' k)
def rt_mx2 (D : Nat → Nat → Nat) (n m : Nat) : Prop := m ≤ 1000000 ∧ (∀ s t, s < n → t < 12 → D s t < 1000000 → D s t ≤ m) ∧ (m = 0 ∨ ∃ s t, s < n ∧ t < 12 ∧ D s t < 1000000 ∧ D s t = m)
theorem rt_mx2_eq {D : Nat → Nat → Nat} {n m m' : Nat} (h : rt_mx2 D n m) (h' : rt_mx2 D n m') : m = m' := by
  obtain ⟨_, a1, a2⟩ := h
  obtain ⟨_, b1, b2⟩ := h'
  apply Nat.le_antisymm
  · rcases a2 with w | ⟨s, t, w0, w1, w2, w3⟩
    · omega
    · have := b1 s t w0 w1 w2; omega
  · rcases b2 with w | ⟨s, t, w0, w1, w2, w3⟩
    · omega
    · have := a1 s t w0 w1 w2; omega
theorem rt_mx2_step {D : Nat → Nat → Nat} {n m r : Nat} (h : rt_mx2 D n m) (hr : rt_mx (D n) 12 r) : (r ≤ m → rt_mx2 D (n + 1) m) ∧ (m < r → rt_mx2 D (n + 1) r) := by
  obtain ⟨a0, a1, a2⟩ := h
  obtain ⟨b0, b1, b2⟩ := hr
  constructor
  · intro c
    refine ⟨a0, fun s t hs ht hf => ?_, ?_⟩
    · by_cases q : s = n
      · subst q; have := b1 t ht hf; omega
      · exact a1 s t (by omega) ht hf
    · rcases a2 with w | ⟨s, t, w0, w1⟩
      · exact Or.inl w
      · exact Or.inr ⟨s, t, by omega, w1⟩
  · intro c
    refine ⟨b0, fun s t hs ht hf => ?_, ?_⟩
    · by_cases q : s = n
      · subst q; exact b1 t ht hf
      · have := a1 s t (by omega) ht hf; omega
    · rcases b2 with w | ⟨t, w1, w2, w3⟩
      · omega
      · exact Or.inr ⟨n, t, by omega, w1, w2, w3⟩
theorem rx_widest {post : Int32 → Prop} {f : Int32} {B E L T MF MT C HT HF FL SG bs st up dn : Nat → Int32} (ok : rt_ok T 144 1000000) (h : ∀ m, rt_mx2 (rt_t T) 12 m → post (nI m)) : wpX_widest post (f, B, E, L, T, MF, MT, C, HT, HF, FL, SG, bs, st, up, dn) := by
  refine loop_0 (fun n i (w : Int32) => wX_widest_4 post f B E L T MF MT C HT HF FL SG bs st up dn n w (nI i)) (fun i w => ∃ m, w = nI m ∧ rt_mx2 (rt_t T) i m) 12 0 ⟨0, rfl, by omega, fun s t hs => by omega, Or.inl rfl⟩ ?_ ?_
  · rintro n w ⟨m, e, k⟩
    subst e
    exact pk_le 12 12 (fun _ => h m k) (fun h => by omega)
  · rintro n i w hi ⟨m, e, k⟩ ih
    subst e
    have b2 := k.1
    refine pk_le 12 i (fun h => by omega) (fun _ => rx_great ok hi (fun r hr => ?_))
    have b3 := hr.1
    have st := rt_mx2_step k hr
    exact pk_le r m (fun c => nm_r (nI_1 i) (ih _ ⟨m, rfl, st.1 c⟩)) (fun c => nm_r (nI_1 i) (ih _ ⟨r, rfl, st.2 c⟩))
theorem ry_widest {post : Int32 → SY → Prop} {TH B E L LE : Nat → Int32} {f : Int32} (HN : rt_N f B E L) (hT : rt_TH f TH) {D : Nat → Nat → Nat} (hD : rt_AP (rt_eP (rt_b f) B E L) D) (h : ∀ m LE', rt_mx2 D 12 m → post (nI m) (TH, B, E, L, LE')) : wpY_widest post (TH, B, E, L, LE) := by
  refine loop_0 (fun n i (w : Int32 × (Nat → Int32)) => wY_widest_4 post n w.1 (nI i) TH B E L w.2) (fun i w => ∃ m, w.1 = nI m ∧ rt_mx2 D i m) 12 (0, LE) ⟨0, rfl, by omega, fun s t hs => by omega, Or.inl rfl⟩ ?_ ?_
  · rintro n ⟨x, w⟩ ⟨m, e, k⟩
    have e' : x = nI m := e
    subst e'
    exact pk_le 12 12 (fun _ => h m w k) (fun h => by omega)
  · rintro n i ⟨x, w⟩ hi ⟨m, e, k⟩ ih
    have e' : x = nI m := e
    subst e'
    have b2 := k.1
    refine pk_le 12 i (fun h => by omega) (fun _ => ry_farthest hi HN hT (hD i hi) (fun r LE' hr => ?_))
    have b3 := hr.1
    have st := rt_mx2_step k hr
    exact pk_le r m (fun c => nm_r (nI_1 i) (ih (nI m, LE') ⟨m, rfl, st.1 c⟩)) (fun c => nm_r (nI_1 i) (ih (nI r, LE') ⟨r, rfl, st.2 c⟩))
/-! sets of points and roads -/
theorem rx_between {post : Int32 → Prop} {f : Int32} {B E L T MF MT C HT HF FL SG bs st up dn : Nat → Int32} (ok : rt_ok T 144 1000000) {s t : Nat} (hs : s < 12) (ht : t < 12) (h0 : rt_t T s t = 1000000 → post 0) (h : rt_t T s t ≠ 1000000 → ∀ r, rt_bl (fun p => rt_t T s p + rt_t T p t = rt_t T s t) 12 r → post r) : wpX_between post (f, B, E, L, T, MF, MT, C, HT, HF, FL, SG, bs, st, up, dn) (nI s) (nI t) := by
  have b0 := (rt_tok ok hs ht).2
  unfold wpX_between
  refine rx_pt hs (br_f rt_10 (rx_pt ht (br_f rt_10 ⟨rt_inx hs ht, nm_r (rt_rdx ok hs ht) ?_⟩)))
  refine pk_eq (rt_t T s t) 1000000 (fun c => h0 c) (fun c => ?_)
  refine loop_0 (fun n i (w : Int32) => wX_between_42 post (nI s) (nI t) (nI (rt_t T s t)) f B E L T MF MT C HT HF FL SG bs st up dn n w (nI i)) (fun i w => rt_bl (fun p => rt_t T s p + rt_t T p t = rt_t T s t) i w) 12 0 rt_bl_0 ?_ ?_
  · intro n w k
    exact pk_le 12 12 (fun _ => h c w k) (fun h => by omega)
  · intro n i w hi k ih
    have b1 := (rt_tok ok hs hi).2
    have b2 := (rt_tok ok hi ht).2
    refine pk_le 12 i (fun h => by omega) (fun _ => ⟨rt_inx hs hi, rt_inx hi ht, ?_⟩)
    exact pk_eq (rt_t T s i + rt_t T i t) (rt_t T s t) (fun q => nm_e (nm_r (nI_1 i) (ih _ (rt_bl_set k (by omega) q)))) (fun q => nm_r (nI_1 i) (ih _ (rt_bl_skip k q))) (by rw [rt_rdx ok hs hi, rt_rdx ok hi ht, nI_add]) rfl
theorem ry_between_loop {post : Int32 → SY → Prop} {TH B E L LE : Nat → Int32} {D : Nat → Nat → Nat} (hf : ∀ a b, a < 12 → b < 12 → D a b ≤ 1000000) (hr : ∀ s, s < 12 → rt_row LE s (D s)) {s t : Nat} (hs : s < 12) (ht : t < 12) (h : ∀ r, rt_bl (fun p => D s p ≠ 1000000 ∧ D p t ≠ 1000000 ∧ nI (D s p + D p t) = rt_en (D s t)) 12 r → post r (TH, B, E, L, LE)) : ∃ n, wY_between_27 post (nI s) (nI t) TH B E L LE n 0 0 := by
  refine loop_0 (fun n i (w : Int32) => wY_between_27 post (nI s) (nI t) TH B E L LE n w (nI i)) (fun i w => rt_bl (fun p => D s p ≠ 1000000 ∧ D p t ≠ 1000000 ∧ nI (D s p + D p t) = rt_en (D s t)) i w) 12 0 rt_bl_0 ?_ ?_
  · intro n w k
    exact pk_le 12 12 (fun _ => h w k) (fun h => by omega)
  · intro n i w hi k ih
    have b1 := hf s i hs hi
    have b2 := hf i t hi ht
    have skip : ¬ (D s i ≠ 1000000 ∧ D i t ≠ 1000000 ∧ nI (D s i + D i t) = rt_en (D s t)) → wY_between_82 post (wY_between_27 post (nI s) (nI t) TH B E L LE n) (nI s) (nI t) w (nI i) TH B E L LE := by
      intro q
      unfold wY_between_82 wY_between_83
      exact br_t rfl (nm_r (nI_1 i) (ih _ (rt_bl_skip k q)))
    refine pk_le 12 i (fun h => by omega) (fun _ => ry_way hs hi (hr s hs i hi) ?_)
    by_cases c1 : D s i = 1000000
    · have t1 : rt_en (D s i) < 0 := by rw [c1, rt_en_far]; decide
      exact br_t t1 (skip (fun z => z.1 c1))
    · rw [rt_en_lt c1]
      refine br_f (nI_pos (by omega)) (ry_way hi ht (hr i hi t ht) ?_)
      by_cases c2 : D i t = 1000000
      · have t2 : rt_en (D i t) < 0 := by rw [c2, rt_en_far]; decide
        exact br_t t2 (skip (fun z => z.2.1 c2))
      · rw [rt_en_lt c2]
        refine br_f (nI_pos (by omega)) (ry_way hs hi ((hr s hs i hi).trans (rt_en_lt c1)) (ry_way hi ht ((hr i hi t ht).trans (rt_en_lt c2)) (ry_way hs ht (hr s hs t ht) ?_)))
        rw [nI_add]
        by_cases c3 : nI (D s i + D i t) = rt_en (D s t)
        · refine br_t c3 ?_
          unfold wY_between_83
          exact br_f rt_10 (nm_e (nm_r (nI_1 i) (ih _ (rt_bl_set k (by omega) ⟨c1, c2, c3⟩))))
        · exact br_f c3 (skip (fun z => c3 z.2.2))
theorem rx_around {post : Int32 → Prop} {f : Int32} {B E L T MF MT C HT HF FL SG bs st up dn : Nat → Int32} (ok : rt_ok T 144 1000000) {s : Nat} {v : Int32} (hs : s < 12) (h : ∀ r, rt_bl (fun t => rt_t T s t ≠ 1000000 ∧ ¬ v < nI (rt_t T s t)) 12 r → post r) : wpX_around post (f, B, E, L, T, MF, MT, C, HT, HF, FL, SG, bs, st, up, dn) (nI s) v := by
  unfold wpX_around
  refine rx_pt hs (br_f rt_10 ?_)
  refine loop_0 (fun n i (w : Int32) => wX_around_14 post (nI s) v f B E L T MF MT C HT HF FL SG bs st up dn n w (nI i)) (fun i w => rt_bl (fun t => rt_t T s t ≠ 1000000 ∧ ¬ v < nI (rt_t T s t)) i w) 12 0 rt_bl_0 ?_ ?_
  · intro n w k
    exact pk_le 12 12 (fun _ => h w k) (fun h => by omega)
  · intro n i w hi k ih
    have b1 := (rt_tok ok hs hi).2
    refine pk_le 12 i (fun h => by omega) (fun _ => ⟨rt_inx hs hi, nm_r (rt_rdx ok hs hi) ?_⟩)
    refine pk_le 1000000 (rt_t T s i) (fun q => nm_r (nI_1 i) (ih _ (rt_bl_skip k (fun z => z.1 (by omega))))) (fun q => ?_)
    by_cases c : v < nI (rt_t T s i)
    · exact br_t c (nm_r (nI_1 i) (ih _ (rt_bl_skip k (fun z => z.2 c))))
    · exact br_f c (nm_e (nm_r (nI_1 i) (ih _ (rt_bl_set k (by omega) ⟨by omega, c⟩))))
theorem ry_around_loop {post : Int32 → SY → Prop} {TH B E L LE : Nat → Int32} {s : Nat} {v : Int32} (hs : s < 12) {d : Nat → Nat} (hf : ∀ x, x < 12 → d x ≤ 1000000) (hr : rt_row LE s d) (h : ∀ r, rt_bl (fun t => d t ≠ 1000000 ∧ ¬ v < nI (d t)) 12 r → post r (TH, B, E, L, LE)) : ∃ n, wY_around_21 post (nI s) v TH B E L LE n 0 0 := by
  refine loop_0 (fun n i (w : Int32) => wY_around_21 post (nI s) v TH B E L LE n w (nI i)) (fun i w => rt_bl (fun t => d t ≠ 1000000 ∧ ¬ v < nI (d t)) i w) 12 0 rt_bl_0 ?_ ?_
  · intro n w k
    exact pk_le 12 12 (fun _ => h w k) (fun h => by omega)
  · intro n i w hi k ih
    have b1 := hf i hi
    refine pk_le 12 i (fun h => by omega) (fun _ => ry_way hs hi (hr i hi) ?_)
    by_cases c1 : d i = 1000000
    · have t1 : rt_en (d i) < 0 := by rw [c1, rt_en_far]; decide
      exact br_t t1 (nm_r (nI_1 i) (ih _ (rt_bl_skip k (fun z => z.1 c1))))
    · rw [rt_en_lt c1]
      refine br_f (nI_pos (by omega)) (ry_way hs hi ((hr i hi).trans (rt_en_lt c1)) ?_)
      by_cases c : v < nI (d i)
      · exact br_t c (nm_r (nI_1 i) (ih _ (rt_bl_skip k (fun z => z.2 c))))
      · exact br_f c (nm_e (nm_r (nI_1 i) (ih _ (rt_bl_set k (by omega) ⟨c1, c⟩))))
theorem rx_needless {post : Int32 → Prop} {f : Int32} {B E L T MF MT C HT HF FL SG bs st up dn : Nat → Int32} (HN : rt_N f B E L) (ok : rt_ok T 144 1000000) (h : ∀ r, rt_bl (fun k => rt_b f k ∧ rt_t T (rt_v B k) (rt_v E k) < rt_v L k) 28 r → post r) : wpX_needless post (f, B, E, L, T, MF, MT, C, HT, HF, FL, SG, bs, st, up, dn) := by
  obtain ⟨hB, hE, hL, hl1⟩ := HN
  refine loop_0 (fun n i (w : Int32) => wX_needless_4 post f B E L T MF MT C HT HF FL SG bs st up dn n w (nI i)) (fun i w => rt_bl (fun k => rt_b f k ∧ rt_t T (rt_v B k) (rt_v E k) < rt_v L k) i w) 28 0 rt_bl_0 ?_ ?_
  · intro n w k
    exact pk_le 28 28 (fun _ => h w k) (fun h => by omega)
  · intro n i w hi k ih
    have b1 := (hB i hi).2
    have b2 := (hE i hi).2
    have b3 := (hL i hi).2
    have hb0 : rt_v B i < 12 := by omega
    have he0 : rt_v E i < 12 := by omega
    have b4 := (rt_tok ok hb0 he0).2
    refine pk_le 28 i (fun h => by omega) (fun _ => ?_)
    refine rx_isRoad hi (fun hb => br_f rt_10 ⟨vp_in_nI hi (by omega), vp_in_nI hi (by omega), vp_in_nI hi (by omega), ?_, ?_⟩) (fun hb => br_t rfl (nm_r (nI_1 i) (ih _ (rt_bl_skip k (fun z => hb z.1)))))
    · rw [rt_rd hB hi, rt_rd hE hi]; exact rt_inx hb0 he0
    · exact pk_le (rt_v L i) (rt_t T (rt_v B i) (rt_v E i)) (fun q => nm_r (nI_1 i) (ih _ (rt_bl_skip k (fun z => by have := z.2; omega)))) (fun q => nm_e (nm_r (nI_1 i) (ih _ (rt_bl_set k (by omega) ⟨hb, q⟩)))) (rt_rd hL hi) (by rw [rt_rd hB hi, rt_rd hE hi]; exact rt_rdx ok hb0 he0)
theorem ry_needless {post : Int32 → SY → Prop} {TH B E L LE : Nat → Int32} {f : Int32} (HN : rt_N f B E L) (hT : rt_TH f TH) {D : Nat → Nat → Nat} (hD : rt_AP (rt_eP (rt_b f) B E L) D) (h : ∀ r LE', rt_bl (fun k => rt_b f k ∧ D (rt_v B k) (rt_v E k) < rt_v L k) 28 r → post r (TH, B, E, L, LE')) : wpY_needless post (TH, B, E, L, LE) := by
  have N := rt_N_net HN
  unfold wpY_needless
  refine ry_all HN.1 HN.2.1 HN.2.2.1 (rt_TH_P hT) HN.2.2.2 hD (fun LE' hr => ?_)
  obtain ⟨hB, hE, hL, hl1⟩ := HN
  refine loop_0 (fun n i (w : Int32) => wY_needless_8 post TH B E L LE' n w (nI i)) (fun i w => rt_bl (fun k => rt_b f k ∧ D (rt_v B k) (rt_v E k) < rt_v L k) i w) 28 0 rt_bl_0 ?_ ?_
  · intro n w k
    exact pk_le 28 28 (fun _ => h w LE' k) (fun h => by omega)
  · intro n i w hi k ih
    have b1 := (hB i hi).2
    have b2 := (hE i hi).2
    have b3 := (hL i hi).2
    have hb0 : rt_v B i < 12 := by omega
    have he0 : rt_v E i < 12 := by omega
    refine pk_le 28 i (fun h => by omega) (fun _ => ⟨vp_in_nI hi (by omega), ?_⟩)
    by_cases c : rt_b f i
    · refine br_f (show ¬ TH (nI i).toNatClampNeg = 0 by rw [nI_clamp (by omega)]; exact fun z => (hT i hi).mp z c) ⟨vp_in_nI hi (by omega), vp_in_nI hi (by omega), vp_in_nI hi (by omega), ?_⟩
      have hle := rt_el N hD ⟨i, hi, c, rfl, rfl, rfl⟩
      rw [rt_rd hB hi, rt_rd hE hi]
      refine ry_way hb0 he0 ((hr _ hb0 _ he0).trans (rt_en_lt (by omega))) ?_
      exact pk_le (rt_v L i) (D (rt_v B i) (rt_v E i)) (fun q => nm_r (nI_1 i) (ih _ (rt_bl_skip k (fun z => by have := z.2; omega)))) (fun q => nm_e (nm_r (nI_1 i) (ih _ (rt_bl_set k (by omega) ⟨c, q⟩)))) (rt_rd hL hi) rfl
    · exact br_t (show TH (nI i).toNatClampNeg = 0 by rw [nI_clamp (by omega)]; exact (hT i hi).mpr c) (nm_r (nI_1 i) (ih _ (rt_bl_skip k (fun z => c z.1))))
theorem ry_roads {post : Int32 → Prop} {TH B E L LE : Nat → Int32} (h : ∀ r, rt_bl (fun k => ¬ TH k = 0) 28 r → post r) : wpY_roads post (TH, B, E, L, LE) := by
  refine loop_0 (fun n i (w : Int32) => wY_roads_4 post TH B E L LE n w (nI i)) (fun i w => rt_bl (fun k => ¬ TH k = 0) i w) 28 0 rt_bl_0 ?_ ?_
  · intro n w k
    exact pk_le 28 28 (fun _ => h w k) (fun h => by omega)
  · intro n i w hi k ih
    refine pk_le 28 i (fun h => by omega) (fun _ => ⟨vp_in_nI hi (by omega), ?_⟩)
    by_cases c : TH i = 0
    · exact br_t (show TH (nI i).toNatClampNeg = 0 by rw [nI_clamp (by omega)]; exact c) (nm_r (nI_1 i) (ih _ (rt_bl_skip k (fun z => z c))))
    · exact br_f (show ¬ TH (nI i).toNatClampNeg = 0 by rw [nI_clamp (by omega)]; exact c) (nm_e (nm_r (nI_1 i) (ih _ (rt_bl_set k (by omega) c))))
end
section
/-! the relation, and the changes of the net -/
/-- the same net on both sides (begins, ends, lengths as the same functions), and all that the class has prepared fits it -/
def i_Rel (k : Nat) (u : SX) (v : SY) : Prop := ∃ (f : Int32) (B E L T MF MT C HT HF FL SG bs st up dn TH LE : Nat → Int32), u = (f, B, E, L, T, MF, MT, C, HT, HF, FL, SG, bs, st, up, dn) ∧ v = (TH, B, E, L, LE) ∧ rt_P f B E L T MF MT C HT HF FL SG ∧ rt_TH f TH ∧ ∀ j, 28 ≤ j → j < 32 → ¬ rt_b f j
theorem i_up {k : Nat} {u : SX} {v : SY} (h : i_Rel k u v) : i_Rel (k + 4) u v := h
theorem rt_rel {k : Nat} {f : Int32} {B E L T MF MT C HT HF FL SG bs st up dn : Nat → Int32} {TH LE : Nat → Int32} (HP : rt_P f B E L T MF MT C HT HF FL SG) (hT : rt_TH f TH) (hb : ∀ j, 28 ≤ j → j < 32 → ¬ rt_b f j) : i_Rel k (f, B, E, L, T, MF, MT, C, HT, HF, FL, SG, bs, st, up, dn) (TH, B, E, L, LE) := ⟨f, B, E, L, T, MF, MT, C, HT, HF, FL, SG, bs, st, up, dn, TH, LE, rfl, rfl, HP, hT, hb⟩
theorem rt_bd {e : Nat → Nat → Nat → Prop} {D : Nat → Nat → Nat} (h : rt_FW e 12 D) {a b : Nat} (ha : a < 12) (hb : b < 12) : D a b = 1000000 ∨ D a b ≤ 122880 := by
  have h1 := h.2.1 a b ha hb
  have h2 := h.2.2.2.2.2.2 a b ha hb
  have bd : 30 * 2 ^ 12 = 122880 := by decide
  omega
theorem rt_ok0 {n M : Nat} : rt_ok (fun _ => 0) n M := by
  intro j _
  have e : rt_v (fun _ => 0) j = 0 := rt_v_of (a := fun _ => 0) (j := j) (v := 0) rfl (by decide)
  rw [e]
  exact ⟨rfl, Nat.zero_le _⟩
theorem i_vc0 : wpX_init (fun u => wpY_init (fun v => i_Rel 0 u v)) := by
  unfold wpX_init
  refine rx_prepare ⟨rt_ok0, rt_ok0, rt_ok0, fun k hk z => absurd z (rt_b_0 (by omega))⟩ (fun T MF MT C HT HF FL SG bs st HP => ?_)
  exact rt_rel (k := 0) HP (fun k hk => ⟨fun _ => rt_b_0 (by omega), fun _ => rfl⟩) (fun j _ hj => rt_b_0 hj)
theorem rt_N_add {f : Int32} {B E L : Nat → Int32} (h : rt_N f B E L) {k a b l : Nat} (hk : k < 28) (ha : a < 12) (hb : b < 12) (h1 : 1 ≤ l) (h2 : l ≤ 30) : rt_N (f ||| ((1 : Int32) <<< (nI k &&& 31))) (upd B k (nI a)) (upd E k (nI b)) (upd L k (nI l)) := by
  obtain ⟨hB, hE, hL, hl⟩ := h
  refine ⟨rt_oku hB (by omega) (by decide), rt_oku hE (by omega) (by decide), rt_oku hL (by omega) (by decide), fun j hj z => ?_⟩
  rw [rt_vu (by omega)]
  by_cases c : j = k
  · rw [if_pos c]; exact h1
  · rw [if_neg c]
    rcases (rt_b_or (by omega) (by omega)).mp z with w | w
    · exact hl j hj w
    · exact absurd w c
theorem rt_N_rem {f : Int32} {B E L : Nat → Int32} (h : rt_N f B E L) {k : Nat} (hk : k < 28) : rt_N (f &&& (((1 : Int32) <<< (nI k &&& 31)) ^^^ (-1))) B E L := by
  obtain ⟨hB, hE, hL, hl⟩ := h
  refine ⟨hB, hE, hL, fun j hj z => hl j hj ((rt_b_clr (by omega) (by omega)).mp z).1⟩
theorem rt_N_chg {f : Int32} {B E L : Nat → Int32} (h : rt_N f B E L) {k l : Nat} (h1 : 1 ≤ l) (h2 : l ≤ 30) : rt_N f B E (upd L k (nI l)) := by
  obtain ⟨hB, hE, hL, hl⟩ := h
  refine ⟨hB, hE, rt_oku hL (by omega) (by decide), fun j hj z => ?_⟩
  rw [rt_vu (by omega)]
  by_cases c : j = k
  · rw [if_pos c]; exact h1
  · rw [if_neg c]; exact hl j hj z
theorem rx_add_loop {post : Int32 → SX → Prop} {f : Int32} {B E L T MF MT C HT HF FL SG bs st up dn : Nat → Int32} (HN : rt_N f B E L) {a b l : Nat} (ha : a < 12) (hb : b < 12) (h1 : 1 ≤ l) (h2 : l ≤ 30) (hfull : (∀ k, k < 28 → rt_b f k) → post (-2) (f, B, E, L, T, MF, MT, C, HT, HF, FL, SG, bs, st, up, dn))
    (hfree : ∀ k, k < 28 → ¬ rt_b f k → (∀ j, j < k → rt_b f j) → ∀ T' MF' MT' C' HT' HF' FL' SG' bs' st', rt_P (f ||| ((1 : Int32) <<< (nI k &&& 31))) (upd B k (nI a)) (upd E k (nI b)) (upd L k (nI l)) T' MF' MT' C' HT' HF' FL' SG' → post (nI k) (f ||| ((1 : Int32) <<< (nI k &&& 31)), upd B k (nI a), upd E k (nI b), upd L k (nI l), T', MF', MT', C', HT', HF', FL', SG', bs', st', up, dn)) : ∃ n, wX_add_31 post (nI a) (nI b) (nI l) f B E L T MF MT C HT HF FL SG bs st up dn n 0 := by
  refine loop_0 (fun n i (_ : Unit) => wX_add_31 post (nI a) (nI b) (nI l) f B E L T MF MT C HT HF FL SG bs st up dn n (nI i)) (fun i _ => ∀ j, j < i → rt_b f j) 28 () (fun j hj => by omega) ?_ ?_
  · intro n _ k
    exact pk_le 28 28 (fun _ => hfull k) (fun h => by omega)
  · intro n i _ hi k ih
    refine pk_le 28 i (fun h => by omega) (fun _ => ?_)
    refine rx_isRoad hi (fun z => br_f rt_10 (nm_r (nI_1 i) (ih () (fun j hj => ?_)))) (fun z => br_t rfl ⟨vp_in_nI hi (by omega), nm_r (rt_uc (by omega)) ⟨vp_in_nI hi (by omega), nm_r (rt_uc (by omega)) ⟨vp_in_nI hi (by omega), nm_r (rt_uc (by omega)) (nm_e ?_)⟩⟩⟩)
    · by_cases c : j = i
      · subst c; exact z
      · exact k j (by omega)
    · refine rx_prepare (rt_N_add HN hi ha hb h1 h2) (fun T' MF' MT' C' HT' HF' FL' SG' bs' st' HP => ?_)
      exact hfree i hi z k T' MF' MT' C' HT' HF' FL' SG' bs' st' HP
theorem ry_add_full {post : Int32 → SY → Prop} {TH B E L LE : Nat → Int32} {x1 x2 x3 : Int32} (hf : ∀ j, j < 28 → ¬ TH j = 0) (h : post (-2) (TH, B, E, L, LE)) : ∃ n, wY_add_34 post x1 x2 x3 TH B E L LE n 0 := by
  refine loop_0 (fun n i (_ : Unit) => wY_add_34 post x1 x2 x3 TH B E L LE n (nI i)) (fun _ _ => True) 28 () trivial ?_ ?_
  · intro n _ _
    exact pk_le 28 28 (fun _ => h) (fun h => by omega)
  · intro n i _ hi _ ih
    exact pk_le 28 i (fun h => by omega) (fun _ => ⟨vp_in_nI hi (by omega), br_f (show ¬ TH (nI i).toNatClampNeg = 0 by rw [nI_clamp (by omega)]; exact hf i hi) (nm_r (nI_1 i) (ih () trivial))⟩)
theorem ry_add_at {post : Int32 → SY → Prop} {TH B E L LE : Nat → Int32} {x1 x2 x3 : Int32} {k : Nat} (hk : k < 28) (h0 : TH k = 0) (hf : ∀ j, j < k → ¬ TH j = 0) (h : post (nI k) (upd TH k 1, upd B k x1, upd E k x2, upd L k x3, LE)) : ∃ n, wY_add_34 post x1 x2 x3 TH B E L LE n 0 := by
  refine loop_0 (fun n i (_ : Unit) => wY_add_34 post x1 x2 x3 TH B E L LE n (nI i)) (fun _ _ => True) k () trivial ?_ ?_
  · intro n _ _
    exact pk_le 28 k (fun h => by omega) (fun _ => ⟨vp_in_nI hk (by omega), br_t (show TH (nI k).toNatClampNeg = 0 by rw [nI_clamp (by omega)]; exact h0) ⟨vp_in_nI hk (by omega), nm_r (rt_uc (by omega) rt_n1) ⟨vp_in_nI hk (by omega), nm_r (rt_uc (by omega)) ⟨vp_in_nI hk (by omega), nm_r (rt_uc (by omega)) ⟨vp_in_nI hk (by omega), nm_r (rt_uc (by omega)) h⟩⟩⟩⟩⟩)
  · intro n i _ hi _ ih
    exact pk_le 28 i (fun h => by omega) (fun _ => ⟨vp_in_nI (by omega) (by omega), br_f (show ¬ TH (nI i).toNatClampNeg = 0 by rw [nI_clamp (by omega)]; exact hf i hi) (nm_r (nI_1 i) (ih () trivial))⟩)
theorem rx_agree {post : Int32 → SX → Prop} {f : Int32} {B E L T MF MT C HT HF FL SG bs st up dn : Nat → Int32} (HP : rt_P f B E L T MF MT C HT HF FL SG) {g1 g2 : Nat} (hg1 : g1 < 7) (hg2 : g2 < 7) (h : ∀ bs' st' up' dn', post 1 (f, B, E, L, T, MF, MT, C, HT, HF, FL, SG, bs', st', up', dn')) : wpX_agree post (f, B, E, L, T, MF, MT, C, HT, HF, FL, SG, bs, st, up, dn) (nI g1) (nI g2) := by
  unfold wpX_agree
  refine rx_eng hg1 (br_f rt_10 (rx_eng hg2 (br_f rt_10 ?_)))
  refine loop_0 (fun n i (w : (Nat → Int32) × (Nat → Int32) × (Nat → Int32) × (Nat → Int32)) => wX_agree_18 post (nI g1) (nI g2) n (nI i) f B E L T MF MT C HT HF FL SG w.1 w.2.1 w.2.2.1 w.2.2.2) (fun _ _ => True) 12 (bs, st, up, dn) trivial ?_ ?_
  · intro n w _
    exact pk_le 12 12 (fun _ => h _ _ _ _) (fun h => by omega)
  · intro n s w hs _ ih
    refine pk_le 12 s (fun h => by omega) (fun _ => ?_)
    refine loop_0 (fun m i (w : (Nat → Int32) × (Nat → Int32) × (Nat → Int32) × (Nat → Int32)) => wX_agree_27 post (wX_agree_18 post (nI g1) (nI g2) n) (nI g1) (nI g2) (nI s) m (nI i) f B E L T MF MT C HT HF FL SG w.1 w.2.1 w.2.2.1 w.2.2.2) (fun _ _ => True) 12 w trivial ?_ ?_
    · intro m w2 _
      exact pk_le 12 12 (fun _ => nm_r (nI_1 s) (ih w2 trivial)) (fun h => by omega)
    · intro m t w2 ht _ ih2
      refine pk_le 12 t (fun h => by omega) (fun _ => ?_)
      refine rx_find HP hg1 hs ht (fun b1 s1 u1 d1 => ?_)
      refine rx_find HP hg2 hs ht (fun b2 s2 u2 d2 => ?_)
      exact br_t rfl (nm_r (nI_1 t) (ih2 (b2, s2, u2, d2) trivial))
theorem ry_detour {post : Int32 → SY → Prop} {TH B E L LE : Nat → Int32} {f : Int32} {j : Nat} (HN : rt_N f B E L) (hT : rt_TH f TH) (hj : j < 28) (hbj : rt_b f j) {D : Nat → Nat → Nat} {d : Nat → Nat} (hD : rt_AP (rt_eP (rt_b f) B E L) D) (hd : rt_SS (rt_eP (rt_b (f &&& (((1 : Int32) <<< (nI j &&& 31)) ^^^ (-1)))) B E L) (rt_v B j) d) (h : ∀ LE', post (if d (rt_v E j) = 1000000 then -3 else nI (d (rt_v E j)) - nI (D (rt_v B j) (rt_v E j))) (TH, B, E, L, LE')) : wpY_detour post (TH, B, E, L, LE) (nI j) := by
  have N := rt_N_net HN
  have hN2 := rt_N_rem HN hj
  have q1 := (HN.1 j hj).2
  have q2 := (HN.2.1 j hj).2
  have q3 := (HN.2.2.1 j hj).2
  have hs : rt_v B j < 12 := by omega
  have ht : rt_v E j < 12 := by omega
  have hle := rt_el N hD ⟨j, hj, hbj, rfl, rfl, rfl⟩
  have hdf := hd.2.1 _ ht
  unfold wpY_detour
  refine ry_is hT hj (fun _ => br_f rt_10 ⟨vp_in_nI hj (by omega), nm_r (rt_rd HN.1 hj) ⟨vp_in_nI hj (by omega), nm_r (rt_rd HN.2.1 hj) ?_⟩⟩) (fun z => absurd hbj z)
  refine ry_measure hs HN.1 HN.2.1 HN.2.2.1 (rt_TH_P hT) HN.2.2.2 (hD _ hs) (fun LE1 m1 _ => ?_)
  refine ry_way hs ht ((m1 _ ht).trans (rt_en_lt (by omega))) ?_
  refine ry_measure hs HN.1 HN.2.1 HN.2.2.1 (rt_TH_Q hT hj) hN2.2.2.2 hd (fun LE2 m2 _ => ?_)
  refine ry_way hs ht (m2 _ ht) ?_
  have h' := h LE2
  by_cases c : d (rt_v E j) = 1000000
  · rw [if_pos c] at h'
    have t1 : ¬ 0 ≤ rt_en (d (rt_v E j)) := by rw [c, rt_en_far]; decide
    exact br_f t1 h'
  · rw [if_neg c] at h'
    rw [rt_en_lt c]
    exact br_t (nI_pos' (by omega)) h'
end
section
/-! what is owed -/
theorem i_vc_add {k : Nat} {u : SX} {v : SY} (I : i_Rel k u v) (hk : k + 4 ≤ 2048) (v1 : Int32) (v2 : Int32) (v3 : Int32) : wpX_add (fun r u' => wpY_add (fun r' v' => r' = r ∧ i_Rel (k + 4) u' v') v v1 v2 v3) u v1 v2 v3 := by
  obtain ⟨f, B, E, L, T, MF, MT, C, HT, HF, FL, SG, bs, st, up, dn, TH, LE, rfl, rfl, HP, hT, hb⟩ := I
  have R : i_Rel (k + 4) (f, B, E, L, T, MF, MT, C, HT, HF, FL, SG, bs, st, up, dn) (TH, B, E, L, LE) := rt_rel HP hT hb
  unfold wpX_add wpY_add
  rcases rt_pt v1 with b1 | ⟨a, ha, rfl⟩
  · exact rx_pt_bad b1 (br_t rfl (ry_pt_bad b1 (br_t rfl ⟨rfl, R⟩)))
  rcases rt_pt v2 with b2 | ⟨b, hb', rfl⟩
  · exact rx_pt ha (br_f rt_10 (rx_pt_bad b2 (br_t rfl (ry_pt ha (br_f rt_10 (ry_pt_bad b2 (br_t rfl ⟨rfl, R⟩)))))))
  refine rx_pt ha (br_f rt_10 (rx_pt hb' (br_f rt_10 ?_)))
  refine pk_eq a b (fun c => ry_pt ha (br_f rt_10 (ry_pt hb' (br_f rt_10 (br_t (congrArg nI c) ⟨rfl, R⟩))))) (fun c => ?_)
  have c' : ¬ nI a = nI b := fun z => c ((nI_eq (by omega) (by omega)).mp z)
  rcases rt_len v3 with b3 | ⟨l, h1, h2, rfl⟩
  · exact rx_len_bad b3 (br_t rfl (ry_pt ha (br_f rt_10 (ry_pt hb' (br_f rt_10 (br_f c' (ry_len_bad b3 (br_t rfl ⟨rfl, R⟩))))))))
  refine rx_len h1 h2 (br_f rt_10 ?_)
  refine rx_add_loop HP.1 ha hb' h1 h2 (fun hf => ?_) (fun j hj z1 z2 T' MF' MT' C' HT' HF' FL' SG' bs' st' HP' => ?_)
  · refine ry_pt ha (br_f rt_10 (ry_pt hb' (br_f rt_10 (br_f c' (ry_len h1 h2 (br_f rt_10 ?_))))))
    exact ry_add_full (fun j hj z => (hT j hj).mp z (hf j hj)) ⟨rfl, R⟩
  · refine ry_pt ha (br_f rt_10 (ry_pt hb' (br_f rt_10 (br_f c' (ry_len h1 h2 (br_f rt_10 ?_))))))
    refine ry_add_at hj ((hT j hj).mpr z1) (fun i hi z => (hT i (by omega)).mp z (z2 i hi)) ⟨rfl, ?_⟩
    refine rt_rel HP' (fun i hi => ?_) (fun i h28 h32 z => ?_)
    · rw [rt_b_or (by omega) (by omega)]
      by_cases c : i = j
      · subst c
        rw [pk_us]
        exact ⟨fun z => absurd z (by decide), fun z => absurd (Or.inr rfl) z⟩
      · rw [pk_un c, hT i hi]
        exact ⟨fun z w => w.elim z c, fun z w => z (Or.inl w)⟩
    · rcases (rt_b_or h32 (by omega)).mp z with w | w
      · exact hb i h28 h32 w
      · omega
theorem i_vc_remove {k : Nat} {u : SX} {v : SY} (I : i_Rel k u v) (hk : k + 4 ≤ 2048) (v1 : Int32) : wpX_remove (fun r u' => wpY_remove (fun r' v' => r' = r ∧ i_Rel (k + 4) u' v') v v1) u v1 := by
  obtain ⟨f, B, E, L, T, MF, MT, C, HT, HF, FL, SG, bs, st, up, dn, TH, LE, rfl, rfl, HP, hT, hb⟩ := I
  have R : i_Rel (k + 4) (f, B, E, L, T, MF, MT, C, HT, HF, FL, SG, bs, st, up, dn) (TH, B, E, L, LE) := rt_rel HP hT hb
  unfold wpX_remove wpY_remove
  rcases rt_rd28 f v1 with b1 | ⟨j, hj, rfl, hbj⟩
  · exact rx_rd_bad b1 (br_t rfl (ry_is_bad hT b1 (br_t rfl ⟨rfl, R⟩)))
  refine rx_isRoad hj (fun _ => br_f rt_10 (nm_e ?_)) (fun z => absurd hbj z)
  refine rx_prepare (rt_N_rem HP.1 hj) (fun T' MF' MT' C' HT' HF' FL' SG' bs' st' HP' => ⟨vp_in_nI hj (by omega), ?_⟩)
  refine ry_is hT hj (fun _ => br_f rt_10 ⟨vp_in_nI hj (by omega), nm_r (rt_uc (y := 0) (by omega) rt_n0) ⟨vp_in_nI hj (by omega), rfl, ?_⟩⟩) (fun z => absurd hbj z)
  refine rt_rel HP' (fun i hi => ?_) (fun i h28 h32 z => hb i h28 h32 ((rt_b_clr h32 (by omega)).mp z).1)
  rw [rt_b_clr (by omega) (by omega)]
  by_cases c : i = j
  · subst c
    rw [pk_us]
    exact ⟨fun _ z => z.2 rfl, fun _ => rfl⟩
  · rw [pk_un c, hT i hi]
    exact ⟨fun z w => z w.1, fun z w => z ⟨w, c⟩⟩
theorem i_vc_change {k : Nat} {u : SX} {v : SY} (I : i_Rel k u v) (hk : k + 4 ≤ 2048) (v1 : Int32) (v2 : Int32) : wpX_change (fun r u' => wpY_change (fun r' v' => r' = r ∧ i_Rel (k + 4) u' v') v v1 v2) u v1 v2 := by
  obtain ⟨f, B, E, L, T, MF, MT, C, HT, HF, FL, SG, bs, st, up, dn, TH, LE, rfl, rfl, HP, hT, hb⟩ := I
  have R : i_Rel (k + 4) (f, B, E, L, T, MF, MT, C, HT, HF, FL, SG, bs, st, up, dn) (TH, B, E, L, LE) := rt_rel HP hT hb
  unfold wpX_change wpY_change
  rcases rt_rd28 f v1 with b1 | ⟨j, hj, rfl, hbj⟩
  · exact rx_rd_bad b1 (br_t rfl (ry_is_bad hT b1 (br_t rfl ⟨rfl, R⟩)))
  refine rx_isRoad hj (fun _ => br_f rt_10 ?_) (fun z => absurd hbj z)
  rcases rt_len v2 with b3 | ⟨l, h1, h2, rfl⟩
  · exact rx_len_bad b3 (br_t rfl (ry_is hT hj (fun _ => br_f rt_10 (ry_len_bad b3 (br_t rfl ⟨rfl, R⟩))) (fun z => absurd hbj z)))
  refine rx_len h1 h2 (br_f rt_10 ⟨vp_in_nI hj (by omega), nm_e ⟨vp_in_nI hj (by omega), nm_r (rt_uc (by omega)) ?_⟩⟩)
  refine rx_prepare (rt_N_chg HP.1 h1 h2) (fun T' MF' MT' C' HT' HF' FL' SG' bs' st' HP' => ?_)
  refine ry_is hT hj (fun _ => br_f rt_10 (ry_len h1 h2 (br_f rt_10 ⟨vp_in_nI hj (by omega), nm_e ⟨vp_in_nI hj (by omega), nm_r (rt_uc (by omega)) ⟨rfl, ?_⟩⟩⟩))) (fun z => absurd hbj z)
  exact rt_rel HP' hT hb
theorem i_vc_roads {k : Nat} {u : SX} {v : SY} (I : i_Rel k u v) (hk : k + 4 ≤ 2048) : wpX_roads (fun r => wpY_roads (fun r' => r' = r ∧ i_Rel (k + 4) u v) v) u := by
  obtain ⟨f, B, E, L, T, MF, MT, C, HT, HF, FL, SG, bs, st, up, dn, TH, LE, rfl, rfl, HP, hT, hb⟩ := I
  refine ry_roads (fun r hr => ⟨?_, rt_rel HP hT hb⟩)
  apply rt_b_ext
  intro j hj
  rw [hr j hj]
  show (j < 28 ∧ ¬ TH j = 0) ↔ rt_b f j
  by_cases c : j < 28
  · rw [hT j c]
    exact ⟨fun z => Classical.byContradiction z.2, fun z => ⟨c, fun w => w z⟩⟩
  · exact ⟨fun z => absurd z.1 c, fun z => absurd z (hb j (by omega) hj)⟩
theorem i_vc_distance {k : Nat} {u : SX} {v : SY} (I : i_Rel k u v) (hk : k + 4 ≤ 2048) (v1 : Int32) (v2 : Int32) (v3 : Int32) : wpX_distance (fun r u' => wpY_distance (fun r' v' => r' = r ∧ i_Rel (k + 4) u' v') v v1 v2 v3) u v1 v2 v3 := by
  obtain ⟨f, B, E, L, T, MF, MT, C, HT, HF, FL, SG, bs, st, up, dn, TH, LE, rfl, rfl, HP, hT, hb⟩ := I
  have R : i_Rel (k + 4) (f, B, E, L, T, MF, MT, C, HT, HF, FL, SG, bs, st, up, dn) (TH, B, E, L, LE) := rt_rel HP hT hb
  have HN := HP.1
  have hD := rt_FW_end (rt_N_net HN) HP.2.2.1
  unfold wpX_distance wpY_distance
  rcases rt_eng v1 with b1 | ⟨g, hg, rfl⟩
  · exact rx_eng_bad b1 (br_t rfl (ry_eng_bad b1 (br_t rfl ⟨rfl, R⟩)))
  rcases rt_pt v2 with b2 | ⟨s, hs, rfl⟩
  · exact rx_eng hg (br_f rt_10 (rx_pt_bad b2 (br_t rfl (ry_eng hg (br_f rt_10 (ry_pt_bad b2 (br_t rfl ⟨rfl, R⟩)))))))
  rcases rt_pt v3 with b3 | ⟨t, ht, rfl⟩
  · exact rx_eng hg (br_f rt_10 (rx_pt hs (br_f rt_10 (rx_pt_bad b3 (br_t rfl (ry_eng hg (br_f rt_10 (ry_pt hs (br_f rt_10 (ry_pt_bad b3 (br_t rfl ⟨rfl, R⟩)))))))))))
  have hf := (hD s hs).2.1 t ht
  refine rx_eng hg (br_f rt_10 (rx_pt hs (br_f rt_10 (rx_pt ht (br_f rt_10 ?_)))))
  refine rx_find HP hg hs ht (fun bs' st' up' dn' => ?_)
  refine rx_orNone (by omega) (fun c => ?_) (fun c => ?_)
  · refine ry_eng hg (br_f rt_10 (ry_pt hs (br_f rt_10 (ry_pt ht (br_f rt_10 ?_)))))
    refine ry_measure hs HN.1 HN.2.1 HN.2.2.1 (rt_TH_P hT) HN.2.2.2 (hD s hs) (fun LE' k1 _ => ?_)
    exact ry_way hs ht ((k1 t ht).trans (rt_en_lt (by omega))) ⟨rfl, rt_rel HP hT hb⟩
  · refine ry_eng hg (br_f rt_10 (ry_pt hs (br_f rt_10 (ry_pt ht (br_f rt_10 ?_)))))
    refine ry_measure hs HN.1 HN.2.1 HN.2.2.1 (rt_TH_P hT) HN.2.2.2 (hD s hs) (fun LE' k1 _ => ?_)
    have e : rt_t T s t = 1000000 := by omega
    have k2 := k1 t ht
    rw [e, rt_en_far] at k2
    exact ry_way hs ht k2 ⟨rfl, rt_rel HP hT hb⟩
theorem i_vc_agree {k : Nat} {u : SX} {v : SY} (I : i_Rel k u v) (hk : k + 4 ≤ 2048) (v1 : Int32) (v2 : Int32) : wpX_agree (fun r u' => wpY_agree (fun r' => r' = r ∧ i_Rel (k + 4) u' v) v v1 v2) u v1 v2 := by
  obtain ⟨f, B, E, L, T, MF, MT, C, HT, HF, FL, SG, bs, st, up, dn, TH, LE, rfl, rfl, HP, hT, hb⟩ := I
  have R : i_Rel (k + 4) (f, B, E, L, T, MF, MT, C, HT, HF, FL, SG, bs, st, up, dn) (TH, B, E, L, LE) := rt_rel HP hT hb
  unfold wpY_agree
  rcases rt_eng v1 with b1 | ⟨g, hg, rfl⟩
  · unfold wpX_agree
    exact rx_eng_bad b1 (br_t rfl (ry_eng_bad b1 (br_t rfl ⟨rfl, R⟩)))
  rcases rt_eng v2 with b2 | ⟨g2, hg2, rfl⟩
  · unfold wpX_agree
    exact rx_eng hg (br_f rt_10 (rx_eng_bad b2 (br_t rfl (ry_eng hg (br_f rt_10 (ry_eng_bad b2 (br_t rfl ⟨rfl, R⟩)))))))
  refine rx_agree HP hg hg2 (fun bs' st' up' dn' => ?_)
  exact ry_eng hg (br_f rt_10 (ry_eng hg2 (br_f rt_10 ⟨rfl, rt_rel HP hT hb⟩)))
theorem i_vc_between {k : Nat} {u : SX} {v : SY} (I : i_Rel k u v) (hk : k + 4 ≤ 2048) (v1 : Int32) (v2 : Int32) : wpX_between (fun r => wpY_between (fun r' v' => r' = r ∧ i_Rel (k + 4) u v') v v1 v2) u v1 v2 := by
  obtain ⟨f, B, E, L, T, MF, MT, C, HT, HF, FL, SG, bs, st, up, dn, TH, LE, rfl, rfl, HP, hT, hb⟩ := I
  have R : i_Rel (k + 4) (f, B, E, L, T, MF, MT, C, HT, HF, FL, SG, bs, st, up, dn) (TH, B, E, L, LE) := rt_rel HP hT hb
  have HN := HP.1
  have hD := rt_FW_end (rt_N_net HN) HP.2.2.1
  have hfar : ∀ a b, a < 12 → b < 12 → rt_t T a b ≤ 1000000 := fun a b ha hb => (hD a ha).2.1 b hb
  unfold wpY_between
  rcases rt_pt v1 with b1 | ⟨s, hs, rfl⟩
  · unfold wpX_between
    exact rx_pt_bad b1 (br_t rfl (ry_pt_bad b1 (br_t rfl ⟨rfl, R⟩)))
  rcases rt_pt v2 with b2 | ⟨t, ht, rfl⟩
  · unfold wpX_between
    exact rx_pt hs (br_f rt_10 (rx_pt_bad b2 (br_t rfl (ry_pt hs (br_f rt_10 (ry_pt_bad b2 (br_t rfl ⟨rfl, R⟩)))))))
  refine rx_between HP.2.1 hs ht (fun c => ?_) (fun c r hr => ?_)
  · refine ry_pt hs (br_f rt_10 (ry_pt ht (br_f rt_10 ?_)))
    refine ry_all HN.1 HN.2.1 HN.2.2.1 (rt_TH_P hT) HN.2.2.2 hD (fun LE' k1 => ?_)
    refine ry_between_loop hfar k1 hs ht (fun r' hr' => ⟨?_, rt_rel HP hT hb⟩)
    refine rt_bl_eq (R := fun _ => False) hr' (fun j hj => ⟨fun z => absurd z (rt_b_0 hj), fun z => z.2.elim⟩) (fun j hj => ⟨fun z => ?_, fun z => z.elim⟩)
    have h1 := hfar s j hs hj
    have h2 := hfar j t hj ht
    have h3 := z.2.2
    rw [c, rt_en_far] at h3
    have h4 : (nI (rt_t T s j + rt_t T j t)).toInt = (-3 : Int32).toInt := by rw [h3]
    rw [nI_toInt (by omega)] at h4
    have h5 : (-3 : Int32).toInt = -3 := by decide
    omega
  · refine ry_pt hs (br_f rt_10 (ry_pt ht (br_f rt_10 ?_)))
    refine ry_all HN.1 HN.2.1 HN.2.2.1 (rt_TH_P hT) HN.2.2.2 hD (fun LE' k1 => ?_)
    refine ry_between_loop hfar k1 hs ht (fun r' hr' => ⟨?_, rt_rel HP hT hb⟩)
    refine rt_bl_eq hr' hr (fun j hj => ?_)
    have h0 := hfar s t hs ht
    have h1 := hfar s j hs hj
    have h2 := hfar j t hj ht
    rw [rt_en_lt c, nI_eq (by omega) (by omega)]
    exact ⟨fun z => z.2.2, fun z => ⟨by omega, by omega, z⟩⟩
theorem i_vc_around {k : Nat} {u : SX} {v : SY} (I : i_Rel k u v) (hk : k + 4 ≤ 2048) (v1 : Int32) (v2 : Int32) : wpX_around (fun r => wpY_around (fun r' v' => r' = r ∧ i_Rel (k + 4) u v') v v1 v2) u v1 v2 := by
  obtain ⟨f, B, E, L, T, MF, MT, C, HT, HF, FL, SG, bs, st, up, dn, TH, LE, rfl, rfl, HP, hT, hb⟩ := I
  have R : i_Rel (k + 4) (f, B, E, L, T, MF, MT, C, HT, HF, FL, SG, bs, st, up, dn) (TH, B, E, L, LE) := rt_rel HP hT hb
  have HN := HP.1
  have hD := rt_FW_end (rt_N_net HN) HP.2.2.1
  unfold wpY_around
  rcases rt_pt v1 with b1 | ⟨s, hs, rfl⟩
  · unfold wpX_around
    exact rx_pt_bad b1 (br_t rfl (ry_pt_bad b1 (br_t rfl ⟨rfl, R⟩)))
  refine rx_around HP.2.1 hs (fun r hr => ?_)
  refine ry_pt hs (br_f rt_10 ?_)
  refine ry_measure hs HN.1 HN.2.1 HN.2.2.1 (rt_TH_P hT) HN.2.2.2 (hD s hs) (fun LE' k1 _ => ?_)
  refine ry_around_loop hs (hD s hs).2.1 k1 (fun r' hr' => ⟨?_, rt_rel HP hT hb⟩)
  exact rt_bl_eq hr' hr (fun j hj => Iff.rfl)
theorem i_vc_detour {k : Nat} {u : SX} {v : SY} (I : i_Rel k u v) (hk : k + 4 ≤ 2048) (v1 : Int32) : wpX_detour (fun r u' => wpY_detour (fun r' v' => r' = r ∧ i_Rel (k + 4) u' v') v v1) u v1 := by
  obtain ⟨f, B, E, L, T, MF, MT, C, HT, HF, FL, SG, bs, st, up, dn, TH, LE, rfl, rfl, HP, hT, hb⟩ := I
  have R : i_Rel (k + 4) (f, B, E, L, T, MF, MT, C, HT, HF, FL, SG, bs, st, up, dn) (TH, B, E, L, LE) := rt_rel HP hT hb
  have HN := HP.1
  have hD := rt_FW_end (rt_N_net HN) HP.2.2.1
  have ok := HP.2.1
  unfold wpX_detour
  rcases rt_rd28 f v1 with b1 | ⟨j, hj, rfl, hbj⟩
  · unfold wpY_detour
    exact rx_rd_bad b1 (br_t rfl (ry_is_bad hT b1 (br_t rfl ⟨rfl, R⟩)))
  have q1 := (HN.1 j hj).2
  have q2 := (HN.2.1 j hj).2
  have hs : rt_v B j < 12 := by omega
  have ht : rt_v E j < 12 := by omega
  refine rx_isRoad hj (fun _ => br_f rt_10 ⟨vp_in_nI hj (by omega), nm_r (rt_rd HN.1 hj) ⟨vp_in_nI hj (by omega), nm_r (rt_rd HN.2.1 hj) ?_⟩⟩) (fun z => absurd hbj z)
  refine rx_search_begins_ends hs HN.1 HN.2.1 HN.2.2.1 (rt_N_rem HN hj).2.2.2 (fun bs' st' k1 k2 => ⟨vp_in_nI ht (by omega), ?_⟩)
  have b5 := (k1 (rt_v E j) ht).2
  refine pk_eq (rt_v bs' (rt_v E j)) 1000000 (fun c => ?_) (fun c => ⟨vp_in_nI ht (by omega), rt_inx hs ht, ?_⟩) (rt_rd k1 ht) rfl
  · refine ry_detour HN hT hj hbj hD k2 (fun LE' => ⟨?_, rt_rel HP hT hb⟩)
    rw [if_pos c]
  · refine ry_detour HN hT hj hbj hD k2 (fun LE' => ⟨?_, rt_rel HP hT hb⟩)
    rw [if_neg c, rt_rd k1 ht, rt_rdx ok hs ht]
theorem i_vc_farthest {k : Nat} {u : SX} {v : SY} (I : i_Rel k u v) (hk : k + 4 ≤ 2048) (v1 : Int32) : wpX_farthest (fun r => wpY_farthest (fun r' v' => r' = r ∧ i_Rel (k + 4) u v') v v1) u v1 := by
  obtain ⟨f, B, E, L, T, MF, MT, C, HT, HF, FL, SG, bs, st, up, dn, TH, LE, rfl, rfl, HP, hT, hb⟩ := I
  have R : i_Rel (k + 4) (f, B, E, L, T, MF, MT, C, HT, HF, FL, SG, bs, st, up, dn) (TH, B, E, L, LE) := rt_rel HP hT hb
  have HN := HP.1
  have hD := rt_FW_end (rt_N_net HN) HP.2.2.1
  unfold wpX_farthest
  rcases rt_pt v1 with b1 | ⟨s, hs, rfl⟩
  · unfold wpY_farthest
    exact rx_pt_bad b1 (br_t rfl (ry_pt_bad b1 (br_t rfl ⟨rfl, R⟩)))
  refine rx_pt hs (br_f rt_10 (rx_great HP.2.1 hs (fun m hm => ?_)))
  exact ry_farthest hs HN hT (hD s hs) (fun m' LE' hm' => ⟨congrArg nI (rt_mx_eq hm' hm), rt_rel HP hT hb⟩)
theorem i_vc_widest {k : Nat} {u : SX} {v : SY} (I : i_Rel k u v) (hk : k + 4 ≤ 2048) : wpX_widest (fun r => wpY_widest (fun r' v' => r' = r ∧ i_Rel (k + 4) u v') v) u := by
  obtain ⟨f, B, E, L, T, MF, MT, C, HT, HF, FL, SG, bs, st, up, dn, TH, LE, rfl, rfl, HP, hT, hb⟩ := I
  have hD := rt_FW_end (rt_N_net HP.1) HP.2.2.1
  refine rx_widest HP.2.1 (fun m hm => ?_)
  exact ry_widest HP.1 hT hD (fun m' LE' hm' => ⟨congrArg nI (rt_mx2_eq hm' hm), rt_rel HP hT hb⟩)
theorem i_vc_needless {k : Nat} {u : SX} {v : SY} (I : i_Rel k u v) (hk : k + 4 ≤ 2048) : wpX_needless (fun r => wpY_needless (fun r' v' => r' = r ∧ i_Rel (k + 4) u v') v) u := by
  obtain ⟨f, B, E, L, T, MF, MT, C, HT, HF, FL, SG, bs, st, up, dn, TH, LE, rfl, rfl, HP, hT, hb⟩ := I
  have hD := rt_FW_end (rt_N_net HP.1) HP.2.2.1
  refine rx_needless HP.1 HP.2.1 (fun r hr => ?_)
  exact ry_needless HP.1 hT hD (fun r' LE' hr' => ⟨rt_bl_eq hr' hr (fun j hj => Iff.rfl), rt_rel HP hT hb⟩)
theorem i_vc_over {k : Nat} {u : SX} {v : SY} (I : i_Rel k u v) (hk : k + 4 ≤ 2048) (v1 : Int32) (v2 : Int32) (v3 : Int32) : wpX_over (fun r => wpY_over (fun r' v' => r' = r ∧ i_Rel (k + 4) u v') v v1 v2 v3) u v1 v2 v3 := by
  obtain ⟨f, B, E, L, T, MF, MT, C, HT, HF, FL, SG, bs, st, up, dn, TH, LE, rfl, rfl, HP, hT, hb⟩ := I
  have R : i_Rel (k + 4) (f, B, E, L, T, MF, MT, C, HT, HF, FL, SG, bs, st, up, dn) (TH, B, E, L, LE) := rt_rel HP hT hb
  have HN := HP.1
  have ok := HP.2.1
  have hD := rt_FW_end (rt_N_net HN) HP.2.2.1
  unfold wpX_over wpY_over
  rcases rt_pt v1 with b1 | ⟨s, hs, rfl⟩
  · exact rx_pt_bad b1 (br_t rfl (ry_pt_bad b1 (br_t rfl ⟨rfl, R⟩)))
  rcases rt_pt v2 with b2 | ⟨p, hp, rfl⟩
  · exact rx_pt hs (br_f rt_10 (rx_pt_bad b2 (br_t rfl (ry_pt hs (br_f rt_10 (ry_pt_bad b2 (br_t rfl ⟨rfl, R⟩)))))))
  rcases rt_pt v3 with b3 | ⟨t, ht, rfl⟩
  · exact rx_pt hs (br_f rt_10 (rx_pt hp (br_f rt_10 (rx_pt_bad b3 (br_t rfl (ry_pt hs (br_f rt_10 (ry_pt hp (br_f rt_10 (ry_pt_bad b3 (br_t rfl ⟨rfl, R⟩)))))))))))
  have d1 := rt_bd HP.2.2.1 hs hp
  have d2 := rt_bd HP.2.2.1 hp ht
  refine rx_pt hs (br_f rt_10 (rx_pt hp (br_f rt_10 (rx_pt ht (br_f rt_10 ⟨rt_inx hs hp, rt_inx hp ht, ?_⟩)))))
  rw [rt_rdx ok hs hp, rt_rdx ok hp ht, nI_add]
  refine rx_orNone (by omega) (fun c => ?_) (fun c => ?_)
  · refine ry_pt hs (br_f rt_10 (ry_pt hp (br_f rt_10 (ry_pt ht (br_f rt_10 ?_)))))
    refine ry_all HN.1 HN.2.1 HN.2.2.1 (rt_TH_P hT) HN.2.2.2 hD (fun LE' k1 => ?_)
    have e1 := (k1 s hs p hp).trans (rt_en_lt (by omega))
    have e2 := (k1 p hp t ht).trans (rt_en_lt (by omega))
    exact ry_way hs hp e1 (br_f (nI_pos (by omega)) (ry_way hp ht e2 (br_f (nI_pos (by omega)) (ry_way hs hp e1 (ry_way hp ht e2 ⟨nI_add _ _, rt_rel HP hT hb⟩)))))
  · refine ry_pt hs (br_f rt_10 (ry_pt hp (br_f rt_10 (ry_pt ht (br_f rt_10 ?_)))))
    refine ry_all HN.1 HN.2.1 HN.2.2.1 (rt_TH_P hT) HN.2.2.2 hD (fun LE' k1 => ?_)
    by_cases c1 : rt_t T s p = 1000000
    · have e1 := k1 s hs p hp
      rw [c1, rt_en_far] at e1
      exact ry_way hs hp e1 (br_t (by decide) ⟨rfl, rt_rel HP hT hb⟩)
    · have e1 := (k1 s hs p hp).trans (rt_en_lt c1)
      have e2 := k1 p hp t ht
      rw [show rt_t T p t = 1000000 by omega, rt_en_far] at e2
      exact ry_way hs hp e1 (br_f (nI_pos (by omega)) (ry_way hp ht e2 (br_t (by decide) ⟨rfl, rt_rel HP hT hb⟩)))
theorem i_vc_sound {k : Nat} {u : SX} {v : SY} (I : i_Rel k u v) (hk : k + 4 ≤ 2048) : wpX_sound (fun r => wpY_sound (fun r' => r' = r ∧ i_Rel (k + 4) u v) v) u := by
  obtain ⟨f, B, E, L, T, MF, MT, C, HT, HF, FL, SG, bs, st, up, dn, TH, LE, rfl, rfl, HP, hT, hb⟩ := I
  exact rx_sound HP ⟨rfl, rt_rel HP hT hb⟩
end
