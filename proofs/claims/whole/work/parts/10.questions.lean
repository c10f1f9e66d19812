/-! walks: arguments and questions of both sides -/
def rt_badP (v : Int32) : Prop := v < 0 ∨ nI 12 ≤ v
def rt_badE (v : Int32) : Prop := v < 0 ∨ nI 7 ≤ v
def rt_badL (v : Int32) : Prop := v < 1 ∨ 30 < v
def rt_badR (f v : Int32) : Prop := v < 0 ∨ nI 28 ≤ v ∨ ∃ k, k < 28 ∧ v = nI k ∧ ¬ rt_b f k
theorem rt_pt (v : Int32) : rt_badP v ∨ ∃ p, p < 12 ∧ v = nI p := by
  rcases pk_ix v (n := 12) (by omega) with h | h | h
  · exact Or.inl (Or.inl h)
  · exact Or.inl (Or.inr h)
  · exact Or.inr h
theorem rt_eng (v : Int32) : rt_badE v ∨ ∃ p, p < 7 ∧ v = nI p := by
  rcases pk_ix v (n := 7) (by omega) with h | h | h
  · exact Or.inl (Or.inl h)
  · exact Or.inl (Or.inr h)
  · exact Or.inr h
theorem rt_len (v : Int32) : rt_badL v ∨ ∃ l, 1 ≤ l ∧ l ≤ 30 ∧ v = nI l := by
  by_cases h1 : v < 1
  · exact Or.inl (Or.inl h1)
  · by_cases h2 : 30 < v
    · exact Or.inl (Or.inr h2)
    · have h0 : ¬ v < 0 := fun z => h1 (Int32.lt_trans z (by decide))
      obtain ⟨j, hj, rfl⟩ := nI_of h0
      refine Or.inr ⟨j, ?_, ?_, rfl⟩
      · have : ¬ nI j < nI 1 := h1
        rw [nI_ltI hj (by omega)] at this
        omega
      · have : ¬ nI 30 < nI j := h2
        rw [nI_ltI (by omega) hj] at this
        omega
theorem rt_rd28 (f v : Int32) : rt_badR f v ∨ ∃ k, k < 28 ∧ v = nI k ∧ rt_b f k := by
  rcases pk_ix v (n := 28) (by omega) with h | h | ⟨k, hk, e⟩
  · exact Or.inl (Or.inl h)
  · exact Or.inl (Or.inr (Or.inl h))
  · by_cases c : rt_b f k
    · exact Or.inr ⟨k, hk, e, c⟩
    · exact Or.inl (Or.inr (Or.inr ⟨k, hk, e, c⟩))
theorem rt_nneg {v : Int32} {n : Nat} (h : nI n ≤ v) (hn : n < 2 ^ 31) : ¬ v < 0 := Int32.not_lt.mpr (Int32.le_trans (nI_pos' hn) h)
theorem rx_pt_bad {post : Int32 → Prop} {v : Int32} (h : rt_badP v) (hp : post 0) : wpX_isPoint post v := by
  rcases h with z | z
  · exact br_t z hp
  · exact br_f (rt_nneg z (by omega)) (br_t z hp)
theorem rx_pt {post : Int32 → Prop} {p : Nat} (h : p < 12) (hp : post 1) : wpX_isPoint post (nI p) := br_f (nI_pos (by omega)) (br_f (nI_ge (b := 12) h (by decide)) hp)
theorem rx_eng_bad {post : Int32 → Prop} {v : Int32} (h : rt_badE v) (hp : post 0) : wpX_isEngine post v := by
  rcases h with z | z
  · exact br_t z hp
  · exact br_f (rt_nneg z (by omega)) (br_t z hp)
theorem rx_eng {post : Int32 → Prop} {p : Nat} (h : p < 7) (hp : post 1) : wpX_isEngine post (nI p) := br_f (nI_pos (by omega)) (br_f (nI_ge (b := 7) h (by decide)) hp)
theorem rx_len_bad {post : Int32 → Prop} {v : Int32} (h : rt_badL v) (hp : post 0) : wpX_isLength post v := by
  by_cases c : v < 1
  · exact br_t c hp
  · exact br_f c (br_t (h.resolve_left c) hp)
theorem rx_len {post : Int32 → Prop} {l : Nat} (h1 : 1 ≤ l) (h2 : l ≤ 30) (hp : post 1) : wpX_isLength post (nI l) := br_f (nI_nlt (b := 1) h1 (by omega)) (br_f (nI_nlt (a := 30) h2 (by omega)) hp)
theorem rx_rd_bad {post : Int32 → Prop} {f : Int32} {B E L T MF MT C HT HF FL SG bs st up dn : Nat → Int32} {v : Int32} (h : rt_badR f v) (hp : post 0) : wpX_isRoad post (f, B, E, L, T, MF, MT, C, HT, HF, FL, SG, bs, st, up, dn) v := by
  rcases h with z | z | ⟨k, hk, e, z⟩
  · exact br_t z hp
  · exact br_f (rt_nneg z (by omega)) (br_t z hp)
  · subst e; exact rx_isRoad hk (fun q => absurd q z) (fun _ => hp)
theorem ry_pt_bad {post : Int32 → Prop} {TH B E L LE : Nat → Int32} {v : Int32} (h : rt_badP v) (hp : post 0) : wpY_point post (TH, B, E, L, LE) v := by
  rcases h with z | z
  · exact br_t z hp
  · exact br_f (rt_nneg z (by omega)) (br_t (Int32.lt_of_lt_of_le (nI_lt (a := 11) (b := 12) (by omega) (by omega)) z) hp)
theorem ry_pt {post : Int32 → Prop} {TH B E L LE : Nat → Int32} {p : Nat} (h : p < 12) (hp : post 1) : wpY_point post (TH, B, E, L, LE) (nI p) := br_f (nI_pos (by omega)) (br_f (nI_nlt (a := 11) (by omega) (by omega)) hp)
theorem ry_eng_bad {post : Int32 → Prop} {TH B E L LE : Nat → Int32} {v : Int32} (h : rt_badE v) (hp : post 0) : wpY_engine post (TH, B, E, L, LE) v := by
  rcases h with z | z
  · exact br_t z hp
  · exact br_f (rt_nneg z (by omega)) (br_t (Int32.lt_of_lt_of_le (nI_lt (a := 6) (b := 7) (by omega) (by omega)) z) hp)
theorem ry_eng {post : Int32 → Prop} {TH B E L LE : Nat → Int32} {p : Nat} (h : p < 7) (hp : post 1) : wpY_engine post (TH, B, E, L, LE) (nI p) := br_f (nI_pos (by omega)) (br_f (nI_nlt (a := 6) (by omega) (by omega)) hp)
theorem ry_len_bad {post : Int32 → Prop} {TH B E L LE : Nat → Int32} {v : Int32} (h : rt_badL v) (hp : post 0) : wpY_isLength post (TH, B, E, L, LE) v := by
  by_cases c : v < 1
  · exact br_t c hp
  · exact br_f c (br_t (h.resolve_left c) hp)
theorem ry_len {post : Int32 → Prop} {TH B E L LE : Nat → Int32} {l : Nat} (h1 : 1 ≤ l) (h2 : l ≤ 30) (hp : post 1) : wpY_isLength post (TH, B, E, L, LE) (nI l) := br_f (nI_nlt (b := 1) h1 (by omega)) (br_f (nI_nlt (a := 30) h2 (by omega)) hp)
def rt_TH (f : Int32) (TH : Nat → Int32) : Prop := ∀ k, k < 28 → (TH k = 0 ↔ ¬ rt_b f k)
theorem ry_is {post : Int32 → Prop} {TH B E L LE : Nat → Int32} {f : Int32} (hT : rt_TH f TH) {k : Nat} (hk : k < 28) (h1 : rt_b f k → post 1) (h0 : ¬ rt_b f k → post 0) : wpY_is post (TH, B, E, L, LE) (nI k) := by
  refine br_f (nI_pos (by omega)) (br_f (nI_ge (b := 28) hk (by decide)) ⟨vp_in_nI hk (by omega), ?_⟩)
  by_cases c : rt_b f k
  · exact br_f (show ¬ TH (nI k).toNatClampNeg = 0 by rw [nI_clamp (by omega)]; exact fun z => (hT k hk).mp z c) (h1 c)
  · exact br_t (show TH (nI k).toNatClampNeg = 0 by rw [nI_clamp (by omega)]; exact (hT k hk).mpr c) (h0 c)
theorem ry_is_bad {post : Int32 → Prop} {TH B E L LE : Nat → Int32} {f : Int32} (hT : rt_TH f TH) {v : Int32} (h : rt_badR f v) (hp : post 0) : wpY_is post (TH, B, E, L, LE) v := by
  rcases h with z | z | ⟨k, hk, e, z⟩
  · exact br_t z hp
  · exact br_f (rt_nneg z (by omega)) (br_t z hp)
  · subst e; exact ry_is hT hk (fun q => absurd q z) (fun _ => hp)
theorem rt_TH_P {f : Int32} {TH : Nat → Int32} (hT : rt_TH f TH) : ∀ k, k < 28 → (rt_b f k ↔ (¬ TH k = 0 ∧ ¬ nI k = -1)) := by
  intro k hk
  constructor
  · intro h; exact ⟨fun z => (hT k hk).mp z h, rt_nm1 (by omega)⟩
  · rintro ⟨h, _⟩
    exact Classical.byContradiction (fun z => h ((hT k hk).mpr z))
theorem rt_TH_Q {f : Int32} {TH : Nat → Int32} (hT : rt_TH f TH) {j : Nat} (hj : j < 28) : ∀ k, k < 28 → (rt_b (f &&& (((1 : Int32) <<< (nI j &&& 31)) ^^^ (-1))) k ↔ (¬ TH k = 0 ∧ ¬ nI k = nI j)) := by
  intro k hk
  rw [rt_b_clr (by omega) (by omega), nI_eq (by omega) (by omega)]
  constructor
  · rintro ⟨h, h2⟩; exact ⟨fun z => (hT k hk).mp z h, h2⟩
  · rintro ⟨h, h2⟩
    exact ⟨Classical.byContradiction (fun z => h ((hT k hk).mpr z)), h2⟩
theorem rx_orNone {post : Int32 → Prop} {d : Nat} (hd : d < 2 ^ 31) (h1 : d < 1000000 → post (nI d)) (h2 : 1000000 ≤ d → post (-3)) : wpX_orNone post (nI d) := pk_lt d 1000000 h1 h2
/-! the greatest -/
def rt_mx (d : Nat → Nat) (n m : Nat) : Prop := m ≤ 1000000 ∧ (∀ t, t < n → d t < 1000000 → d t ≤ m) ∧ (m = 0 ∨ ∃ t, t < n ∧ d t < 1000000 ∧ d t = m)
theorem rt_mx_0 {d : Nat → Nat} : rt_mx d 0 0 := ⟨by omega, fun t ht => by omega, Or.inl rfl⟩
theorem rt_mx_eq {d : Nat → Nat} {n m m' : Nat} (h : rt_mx d n m) (h' : rt_mx d n m') : m = m' := by
  obtain ⟨_, a1, a2⟩ := h
  obtain ⟨_, b1, b2⟩ := h'
  apply Nat.le_antisymm
  · rcases a2 with w | ⟨t, w1, w2, w3⟩
    · omega
    · have := b1 t w1 w2; omega
  · rcases b2 with w | ⟨t, w1, w2, w3⟩
    · omega
    · have := a1 t w1 w2; omega
theorem rt_mx_skip {d : Nat → Nat} {n m : Nat} (h : rt_mx d n m) (hs : d n < 1000000 → d n ≤ m) : rt_mx d (n + 1) m := by
  obtain ⟨a0, a1, a2⟩ := h
  refine ⟨a0, fun t ht hf => ?_, ?_⟩
  · by_cases c : t = n
    · subst c; exact hs hf
    · exact a1 t (by omega) hf
  · rcases a2 with w | ⟨t, w1, w2⟩
    · exact Or.inl w
    · exact Or.inr ⟨t, by omega, w2⟩
theorem rt_mx_put {d : Nat → Nat} {n m : Nat} (h : rt_mx d n m) (hf : d n < 1000000) (hs : m < d n) : rt_mx d (n + 1) (d n) := by
  obtain ⟨a0, a1, a2⟩ := h
  refine ⟨by omega, fun t ht hf' => ?_, Or.inr ⟨n, by omega, hf, rfl⟩⟩
  by_cases c : t = n
  · subst c; exact Nat.le_refl _
  · have := a1 t (by omega) hf'
    omega
theorem rx_great {post : Int32 → Prop} {f : Int32} {B E L T MF MT C HT HF FL SG bs st up dn : Nat → Int32} (ok : rt_ok T 144 1000000) {s : Nat} (hs : s < 12) (h : ∀ m, rt_mx (rt_t T s) 12 m → post (nI m)) : wpX_greatestFrom post (f, B, E, L, T, MF, MT, C, HT, HF, FL, SG, bs, st, up, dn) (nI s) := by
  refine loop_0 (fun n i (w : Int32) => wX_greatestFrom_4 post (nI s) f B E L T MF MT C HT HF FL SG bs st up dn n w (nI i)) (fun i w => ∃ m, w = nI m ∧ rt_mx (rt_t T s) i m) 12 0 ⟨0, rfl, rt_mx_0⟩ ?_ ?_
  · rintro n w ⟨m, e, k⟩
    subst e
    exact pk_le 12 12 (fun _ => h m k) (fun h => by omega)
  · rintro n i w hi ⟨m, e, k⟩ ih
    subst e
    have b := (rt_tok ok hs hi).2
    have b2 := k.1
    refine pk_le 12 i (fun h => by omega) (fun _ => ⟨rt_inx hs hi, nm_r (rt_rdx ok hs hi) ?_⟩)
    refine pk_le 1000000 (rt_t T s i) (fun c => nm_r (nI_1 i) (ih _ ⟨m, rfl, rt_mx_skip k (fun z => by omega)⟩)) (fun c => ?_)
    refine pk_le (rt_t T s i) m (fun c2 => nm_r (nI_1 i) (ih _ ⟨m, rfl, rt_mx_skip k (fun z => c2)⟩)) (fun c2 => nm_r (nI_1 i) (ih _ ⟨_, rfl, rt_mx_put k c c2⟩))
theorem ry_far_loop {post : Int32 → SY → Prop} {TH B E L LE : Nat → Int32} {s : Nat} (hs : s < 12) {d : Nat → Nat} (hf : ∀ x, x < 12 → d x ≤ 1000000) (hr : rt_row LE s d) (h : ∀ m, rt_mx d 12 m → post (nI m) (TH, B, E, L, LE)) : ∃ n, wY_farthest_20 post (nI s) TH B E L LE n 0 0 := by
  refine loop_0 (fun n i (w : Int32) => wY_farthest_20 post (nI s) TH B E L LE n w (nI i)) (fun i w => ∃ m, w = nI m ∧ rt_mx d i m) 12 0 ⟨0, rfl, rt_mx_0⟩ ?_ ?_
  · rintro n w ⟨m, e, k⟩
    subst e
    exact pk_le 12 12 (fun _ => h m k) (fun h => by omega)
  · rintro n i w hi ⟨m, e, k⟩ ih
    subst e
    have b := hf i hi
    have b2 := k.1
    refine pk_le 12 i (fun h => by omega) (fun _ => ry_way hs hi (hr i hi) ?_)
    by_cases c : d i = 1000000
    · have e3 : rt_en (d i) ≤ nI m := by
        rw [c, rt_en_far]
        exact Int32.le_trans (by decide) (nI_pos' (by omega))
      exact br_t e3 (nm_r (nI_1 i) (ih _ ⟨m, rfl, rt_mx_skip k (fun z => by omega)⟩))
    · rw [rt_en_lt c]
      refine pk_le (d i) m (fun c2 => nm_r (nI_1 i) (ih _ ⟨m, rfl, rt_mx_skip k (fun z => c2)⟩)) (fun c2 => ?_)
      refine ry_way hs hi ((hr i hi).trans (rt_en_lt c)) (nm_r (nI_1 i) (ih _ ⟨_, rfl, rt_mx_put k (by omega) c2⟩))
theorem ry_farthest {post : Int32 → SY → Prop} {TH B E L LE : Nat → Int32} {f : Int32} {s : Nat} (hs : s < 12) (HN : rt_N f B E L) (hT : rt_TH f TH) {d : Nat → Nat} (hd : rt_SS (rt_eP (rt_b f) B E L) s d) (h : ∀ m LE', rt_mx d 12 m → post (nI m) (TH, B, E, L, LE')) : wpY_farthest post (TH, B, E, L, LE) (nI s) := by
  unfold wpY_farthest
  refine ry_pt hs (br_f rt_10 ?_)
  refine ry_measure hs HN.1 HN.2.1 HN.2.2.1 (rt_TH_P hT) HN.2.2.2 hd (fun LE' k1 _ => ?_)
  exact ry_far_loop hs hd.2.1 k1 (fun m k => h m LE' k)
def rt_mx2 (D : Nat → Nat → Nat) (n m : Nat) : Prop := m ≤ 1000000 ∧ (∀ s t, s < n → t < 12 → D s t < 1000000 → D s t ≤ m) ∧ (m = 0 ∨ ∃ s t, s < n ∧ t < 12 ∧ D s t < 1000000 ∧ D s t = m)
theorem rt_mx2_eq {D : Nat → Nat → Nat} {n m m' : Nat} (h : rt_mx2 D n m) (h' : rt_mx2 D n m') : m = m' := by
  obtain ⟨_, a1, a2⟩ := h
  obtain ⟨_, b1, b2⟩ := h'
  apply Nat.le_antisymm
  · rcases a2 with w | ⟨s, t, w0, w1, w2, w3⟩
    · omega
    · have := b1 s t w0 w1 w2; omega
  · rcases b2 with w | ⟨s, t, w0, w1, w2, w3⟩
    · omega
    · have := a1 s t w0 w1 w2; omega
theorem rt_mx2_step {D : Nat → Nat → Nat} {n m r : Nat} (h : rt_mx2 D n m) (hr : rt_mx (D n) 12 r) : (r ≤ m → rt_mx2 D (n + 1) m) ∧ (m < r → rt_mx2 D (n + 1) r) := by
  obtain ⟨a0, a1, a2⟩ := h
  obtain ⟨b0, b1, b2⟩ := hr
  constructor
  · intro c
    refine ⟨a0, fun s t hs ht hf => ?_, ?_⟩
    · by_cases q : s = n
      · subst q; have := b1 t ht hf; omega
      · exact a1 s t (by omega) ht hf
    · rcases a2 with w | ⟨s, t, w0, w1⟩
      · exact Or.inl w
      · exact Or.inr ⟨s, t, by omega, w1⟩
  · intro c
    refine ⟨b0, fun s t hs ht hf => ?_, ?_⟩
    · by_cases q : s = n
      · subst q; exact b1 t ht hf
      · have := a1 s t (by omega) ht hf; omega
    · rcases b2 with w | ⟨t, w1, w2, w3⟩
      · omega
      · exact Or.inr ⟨n, t, by omega, w1, w2, w3⟩
theorem rx_widest {post : Int32 → Prop} {f : Int32} {B E L T MF MT C HT HF FL SG bs st up dn : Nat → Int32} (ok : rt_ok T 144 1000000) (h : ∀ m, rt_mx2 (rt_t T) 12 m → post (nI m)) : wpX_widest post (f, B, E, L, T, MF, MT, C, HT, HF, FL, SG, bs, st, up, dn) := by
  refine loop_0 (fun n i (w : Int32) => wX_widest_4 post f B E L T MF MT C HT HF FL SG bs st up dn n w (nI i)) (fun i w => ∃ m, w = nI m ∧ rt_mx2 (rt_t T) i m) 12 0 ⟨0, rfl, by omega, fun s t hs => by omega, Or.inl rfl⟩ ?_ ?_
  · rintro n w ⟨m, e, k⟩
    subst e
    exact pk_le 12 12 (fun _ => h m k) (fun h => by omega)
  · rintro n i w hi ⟨m, e, k⟩ ih
    subst e
    have b2 := k.1
    refine pk_le 12 i (fun h => by omega) (fun _ => rx_great ok hi (fun r hr => ?_))
    have b3 := hr.1
    have st := rt_mx2_step k hr
    exact pk_le r m (fun c => nm_r (nI_1 i) (ih _ ⟨m, rfl, st.1 c⟩)) (fun c => nm_r (nI_1 i) (ih _ ⟨r, rfl, st.2 c⟩))
theorem ry_widest {post : Int32 → SY → Prop} {TH B E L LE : Nat → Int32} {f : Int32} (HN : rt_N f B E L) (hT : rt_TH f TH) {D : Nat → Nat → Nat} (hD : rt_AP (rt_eP (rt_b f) B E L) D) (h : ∀ m LE', rt_mx2 D 12 m → post (nI m) (TH, B, E, L, LE')) : wpY_widest post (TH, B, E, L, LE) := by
  refine loop_0 (fun n i (w : Int32 × (Nat → Int32)) => wY_widest_4 post n w.1 (nI i) TH B E L w.2) (fun i w => ∃ m, w.1 = nI m ∧ rt_mx2 D i m) 12 (0, LE) ⟨0, rfl, by omega, fun s t hs => by omega, Or.inl rfl⟩ ?_ ?_
  · rintro n ⟨x, w⟩ ⟨m, e, k⟩
    have e' : x = nI m := e
    subst e'
    exact pk_le 12 12 (fun _ => h m w k) (fun h => by omega)
  · rintro n i ⟨x, w⟩ hi ⟨m, e, k⟩ ih
    have e' : x = nI m := e
    subst e'
    have b2 := k.1
    refine pk_le 12 i (fun h => by omega) (fun _ => ry_farthest hi HN hT (hD i hi) (fun r LE' hr => ?_))
    have b3 := hr.1
    have st := rt_mx2_step k hr
    exact pk_le r m (fun c => nm_r (nI_1 i) (ih (nI m, LE') ⟨m, rfl, st.1 c⟩)) (fun c => nm_r (nI_1 i) (ih (nI r, LE') ⟨r, rfl, st.2 c⟩))
/-! sets of points and roads -/
theorem rx_between {post : Int32 → Prop} {f : Int32} {B E L T MF MT C HT HF FL SG bs st up dn : Nat → Int32} (ok : rt_ok T 144 1000000) {s t : Nat} (hs : s < 12) (ht : t < 12) (h0 : rt_t T s t = 1000000 → post 0) (h : rt_t T s t ≠ 1000000 → ∀ r, rt_bl (fun p => rt_t T s p + rt_t T p t = rt_t T s t) 12 r → post r) : wpX_between post (f, B, E, L, T, MF, MT, C, HT, HF, FL, SG, bs, st, up, dn) (nI s) (nI t) := by
  have b0 := (rt_tok ok hs ht).2
  unfold wpX_between
  refine rx_pt hs (br_f rt_10 (rx_pt ht (br_f rt_10 ⟨rt_inx hs ht, nm_r (rt_rdx ok hs ht) ?_⟩)))
  refine pk_eq (rt_t T s t) 1000000 (fun c => h0 c) (fun c => ?_)
  refine loop_0 (fun n i (w : Int32) => wX_between_42 post (nI s) (nI t) (nI (rt_t T s t)) f B E L T MF MT C HT HF FL SG bs st up dn n w (nI i)) (fun i w => rt_bl (fun p => rt_t T s p + rt_t T p t = rt_t T s t) i w) 12 0 rt_bl_0 ?_ ?_
  · intro n w k
    exact pk_le 12 12 (fun _ => h c w k) (fun h => by omega)
  · intro n i w hi k ih
    have b1 := (rt_tok ok hs hi).2
    have b2 := (rt_tok ok hi ht).2
    refine pk_le 12 i (fun h => by omega) (fun _ => ⟨rt_inx hs hi, rt_inx hi ht, ?_⟩)
    exact pk_eq (rt_t T s i + rt_t T i t) (rt_t T s t) (fun q => nm_e (nm_r (nI_1 i) (ih _ (rt_bl_set k (by omega) q)))) (fun q => nm_r (nI_1 i) (ih _ (rt_bl_skip k q))) (by rw [rt_rdx ok hs hi, rt_rdx ok hi ht, nI_add]) rfl
theorem ry_between_loop {post : Int32 → SY → Prop} {TH B E L LE : Nat → Int32} {D : Nat → Nat → Nat} (hf : ∀ a b, a < 12 → b < 12 → D a b ≤ 1000000) (hr : ∀ s, s < 12 → rt_row LE s (D s)) {s t : Nat} (hs : s < 12) (ht : t < 12) (h : ∀ r, rt_bl (fun p => D s p ≠ 1000000 ∧ D p t ≠ 1000000 ∧ nI (D s p + D p t) = rt_en (D s t)) 12 r → post r (TH, B, E, L, LE)) : ∃ n, wY_between_27 post (nI s) (nI t) TH B E L LE n 0 0 := by
  refine loop_0 (fun n i (w : Int32) => wY_between_27 post (nI s) (nI t) TH B E L LE n w (nI i)) (fun i w => rt_bl (fun p => D s p ≠ 1000000 ∧ D p t ≠ 1000000 ∧ nI (D s p + D p t) = rt_en (D s t)) i w) 12 0 rt_bl_0 ?_ ?_
  · intro n w k
    exact pk_le 12 12 (fun _ => h w k) (fun h => by omega)
  · intro n i w hi k ih
    have b1 := hf s i hs hi
    have b2 := hf i t hi ht
    have skip : ¬ (D s i ≠ 1000000 ∧ D i t ≠ 1000000 ∧ nI (D s i + D i t) = rt_en (D s t)) → wY_between_82 post (wY_between_27 post (nI s) (nI t) TH B E L LE n) (nI s) (nI t) w (nI i) TH B E L LE := by
      intro q
      unfold wY_between_82 wY_between_83
      exact br_t rfl (nm_r (nI_1 i) (ih _ (rt_bl_skip k q)))
    refine pk_le 12 i (fun h => by omega) (fun _ => ry_way hs hi (hr s hs i hi) ?_)
    by_cases c1 : D s i = 1000000
    · have t1 : rt_en (D s i) < 0 := by rw [c1, rt_en_far]; decide
      exact br_t t1 (skip (fun z => z.1 c1))
    · rw [rt_en_lt c1]
      refine br_f (nI_pos (by omega)) (ry_way hi ht (hr i hi t ht) ?_)
      by_cases c2 : D i t = 1000000
      · have t2 : rt_en (D i t) < 0 := by rw [c2, rt_en_far]; decide
        exact br_t t2 (skip (fun z => z.2.1 c2))
      · rw [rt_en_lt c2]
        refine br_f (nI_pos (by omega)) (ry_way hs hi ((hr s hs i hi).trans (rt_en_lt c1)) (ry_way hi ht ((hr i hi t ht).trans (rt_en_lt c2)) (ry_way hs ht (hr s hs t ht) ?_)))
        rw [nI_add]
        by_cases c3 : nI (D s i + D i t) = rt_en (D s t)
        · refine br_t c3 ?_
          unfold wY_between_83
          exact br_f rt_10 (nm_e (nm_r (nI_1 i) (ih _ (rt_bl_set k (by omega) ⟨c1, c2, c3⟩))))
        · exact br_f c3 (skip (fun z => c3 z.2.2))
theorem rx_around {post : Int32 → Prop} {f : Int32} {B E L T MF MT C HT HF FL SG bs st up dn : Nat → Int32} (ok : rt_ok T 144 1000000) {s : Nat} {v : Int32} (hs : s < 12) (h : ∀ r, rt_bl (fun t => rt_t T s t ≠ 1000000 ∧ ¬ v < nI (rt_t T s t)) 12 r → post r) : wpX_around post (f, B, E, L, T, MF, MT, C, HT, HF, FL, SG, bs, st, up, dn) (nI s) v := by
  unfold wpX_around
  refine rx_pt hs (br_f rt_10 ?_)
  refine loop_0 (fun n i (w : Int32) => wX_around_14 post (nI s) v f B E L T MF MT C HT HF FL SG bs st up dn n w (nI i)) (fun i w => rt_bl (fun t => rt_t T s t ≠ 1000000 ∧ ¬ v < nI (rt_t T s t)) i w) 12 0 rt_bl_0 ?_ ?_
  · intro n w k
    exact pk_le 12 12 (fun _ => h w k) (fun h => by omega)
  · intro n i w hi k ih
    have b1 := (rt_tok ok hs hi).2
    refine pk_le 12 i (fun h => by omega) (fun _ => ⟨rt_inx hs hi, nm_r (rt_rdx ok hs hi) ?_⟩)
    refine pk_le 1000000 (rt_t T s i) (fun q => nm_r (nI_1 i) (ih _ (rt_bl_skip k (fun z => z.1 (by omega))))) (fun q => ?_)
    by_cases c : v < nI (rt_t T s i)
    · exact br_t c (nm_r (nI_1 i) (ih _ (rt_bl_skip k (fun z => z.2 c))))
    · exact br_f c (nm_e (nm_r (nI_1 i) (ih _ (rt_bl_set k (by omega) ⟨by omega, c⟩))))
theorem ry_around_loop {post : Int32 → SY → Prop} {TH B E L LE : Nat → Int32} {s : Nat} {v : Int32} (hs : s < 12) {d : Nat → Nat} (hf : ∀ x, x < 12 → d x ≤ 1000000) (hr : rt_row LE s d) (h : ∀ r, rt_bl (fun t => d t ≠ 1000000 ∧ ¬ v < nI (d t)) 12 r → post r (TH, B, E, L, LE)) : ∃ n, wY_around_21 post (nI s) v TH B E L LE n 0 0 := by
  refine loop_0 (fun n i (w : Int32) => wY_around_21 post (nI s) v TH B E L LE n w (nI i)) (fun i w => rt_bl (fun t => d t ≠ 1000000 ∧ ¬ v < nI (d t)) i w) 12 0 rt_bl_0 ?_ ?_
  · intro n w k
    exact pk_le 12 12 (fun _ => h w k) (fun h => by omega)
  · intro n i w hi k ih
    have b1 := hf i hi
    refine pk_le 12 i (fun h => by omega) (fun _ => ry_way hs hi (hr i hi) ?_)
    by_cases c1 : d i = 1000000
    · have t1 : rt_en (d i) < 0 := by rw [c1, rt_en_far]; decide
      exact br_t t1 (nm_r (nI_1 i) (ih _ (rt_bl_skip k (fun z => z.1 c1))))
    · rw [rt_en_lt c1]
      refine br_f (nI_pos (by omega)) (ry_way hs hi ((hr i hi).trans (rt_en_lt c1)) ?_)
      by_cases c : v < nI (d i)
      · exact br_t c (nm_r (nI_1 i) (ih _ (rt_bl_skip k (fun z => z.2 c))))
      · exact br_f c (nm_e (nm_r (nI_1 i) (ih _ (rt_bl_set k (by omega) ⟨c1, c⟩))))
theorem rx_needless {post : Int32 → Prop} {f : Int32} {B E L T MF MT C HT HF FL SG bs st up dn : Nat → Int32} (HN : rt_N f B E L) (ok : rt_ok T 144 1000000) (h : ∀ r, rt_bl (fun k => rt_b f k ∧ rt_t T (rt_v B k) (rt_v E k) < rt_v L k) 28 r → post r) : wpX_needless post (f, B, E, L, T, MF, MT, C, HT, HF, FL, SG, bs, st, up, dn) := by
  obtain ⟨hB, hE, hL, hl1⟩ := HN
  refine loop_0 (fun n i (w : Int32) => wX_needless_4 post f B E L T MF MT C HT HF FL SG bs st up dn n w (nI i)) (fun i w => rt_bl (fun k => rt_b f k ∧ rt_t T (rt_v B k) (rt_v E k) < rt_v L k) i w) 28 0 rt_bl_0 ?_ ?_
  · intro n w k
    exact pk_le 28 28 (fun _ => h w k) (fun h => by omega)
  · intro n i w hi k ih
    have b1 := (hB i hi).2
    have b2 := (hE i hi).2
    have b3 := (hL i hi).2
    have hb0 : rt_v B i < 12 := by omega
    have he0 : rt_v E i < 12 := by omega
    have b4 := (rt_tok ok hb0 he0).2
    refine pk_le 28 i (fun h => by omega) (fun _ => ?_)
    refine rx_isRoad hi (fun hb => br_f rt_10 ⟨vp_in_nI hi (by omega), vp_in_nI hi (by omega), vp_in_nI hi (by omega), ?_, ?_⟩) (fun hb => br_t rfl (nm_r (nI_1 i) (ih _ (rt_bl_skip k (fun z => hb z.1)))))
    · rw [rt_rd hB hi, rt_rd hE hi]; exact rt_inx hb0 he0
    · exact pk_le (rt_v L i) (rt_t T (rt_v B i) (rt_v E i)) (fun q => nm_r (nI_1 i) (ih _ (rt_bl_skip k (fun z => by have := z.2; omega)))) (fun q => nm_e (nm_r (nI_1 i) (ih _ (rt_bl_set k (by omega) ⟨hb, q⟩)))) (rt_rd hL hi) (by rw [rt_rd hB hi, rt_rd hE hi]; exact rt_rdx ok hb0 he0)
theorem ry_needless {post : Int32 → SY → Prop} {TH B E L LE : Nat → Int32} {f : Int32} (HN : rt_N f B E L) (hT : rt_TH f TH) {D : Nat → Nat → Nat} (hD : rt_AP (rt_eP (rt_b f) B E L) D) (h : ∀ r LE', rt_bl (fun k => rt_b f k ∧ D (rt_v B k) (rt_v E k) < rt_v L k) 28 r → post r (TH, B, E, L, LE')) : wpY_needless post (TH, B, E, L, LE) := by
  have N := rt_N_net HN
  unfold wpY_needless
  refine ry_all HN.1 HN.2.1 HN.2.2.1 (rt_TH_P hT) HN.2.2.2 hD (fun LE' hr => ?_)
  obtain ⟨hB, hE, hL, hl1⟩ := HN
  refine loop_0 (fun n i (w : Int32) => wY_needless_8 post TH B E L LE' n w (nI i)) (fun i w => rt_bl (fun k => rt_b f k ∧ D (rt_v B k) (rt_v E k) < rt_v L k) i w) 28 0 rt_bl_0 ?_ ?_
  · intro n w k
    exact pk_le 28 28 (fun _ => h w LE' k) (fun h => by omega)
  · intro n i w hi k ih
    have b1 := (hB i hi).2
    have b2 := (hE i hi).2
    have b3 := (hL i hi).2
    have hb0 : rt_v B i < 12 := by omega
    have he0 : rt_v E i < 12 := by omega
    refine pk_le 28 i (fun h => by omega) (fun _ => ⟨vp_in_nI hi (by omega), ?_⟩)
    by_cases c : rt_b f i
    · refine br_f (show ¬ TH (nI i).toNatClampNeg = 0 by rw [nI_clamp (by omega)]; exact fun z => (hT i hi).mp z c) ⟨vp_in_nI hi (by omega), vp_in_nI hi (by omega), vp_in_nI hi (by omega), ?_⟩
      have hle := rt_el N hD ⟨i, hi, c, rfl, rfl, rfl⟩
      rw [rt_rd hB hi, rt_rd hE hi]
      refine ry_way hb0 he0 ((hr _ hb0 _ he0).trans (rt_en_lt (by omega))) ?_
      exact pk_le (rt_v L i) (D (rt_v B i) (rt_v E i)) (fun q => nm_r (nI_1 i) (ih _ (rt_bl_skip k (fun z => by have := z.2; omega)))) (fun q => nm_e (nm_r (nI_1 i) (ih _ (rt_bl_set k (by omega) ⟨c, q⟩)))) (rt_rd hL hi) rfl
    · exact br_t (show TH (nI i).toNatClampNeg = 0 by rw [nI_clamp (by omega)]; exact (hT i hi).mpr c) (nm_r (nI_1 i) (ih _ (rt_bl_skip k (fun z => c z.1))))
theorem ry_roads {post : Int32 → Prop} {TH B E L LE : Nat → Int32} (h : ∀ r, rt_bl (fun k => ¬ TH k = 0) 28 r → post r) : wpY_roads post (TH, B, E, L, LE) := by
  refine loop_0 (fun n i (w : Int32) => wY_roads_4 post TH B E L LE n w (nI i)) (fun i w => rt_bl (fun k => ¬ TH k = 0) i w) 28 0 rt_bl_0 ?_ ?_
  · intro n w k
    exact pk_le 28 28 (fun _ => h w k) (fun h => by omega)
  · intro n i w hi k ih
    refine pk_le 28 i (fun h => by omega) (fun _ => ⟨vp_in_nI hi (by omega), ?_⟩)
    by_cases c : TH i = 0
    · exact br_t (show TH (nI i).toNatClampNeg = 0 by rw [nI_clamp (by omega)]; exact c) (nm_r (nI_1 i) (ih _ (rt_bl_skip k (fun z => z c))))
    · exact br_f (show ¬ TH (nI i).toNatClampNeg = 0 by rw [nI_clamp (by omega)]; exact c) (nm_e (nm_r (nI_1 i) (ih _ (rt_bl_set k (by omega) c))))
