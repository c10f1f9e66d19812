/-! walks: sound -/
def rt_bl (Q : Nat → Prop) (i : Nat) (x : Int32) : Prop := ∀ k, k < 32 → (rt_b x k ↔ k < i ∧ Q k)
theorem rt_bl_0 {Q : Nat → Prop} : rt_bl Q 0 0 := fun k hk => ⟨fun z => absurd z (rt_b_0 hk), fun z => absurd z.1 (Nat.not_lt_zero _)⟩
theorem rt_bl_set {Q : Nat → Prop} {i : Nat} {x : Int32} (h : rt_bl Q i x) (hi : i < 32) (q : Q i) : rt_bl Q (i + 1) (x ||| ((1 : Int32) <<< (nI i &&& 31))) := by
  intro k hk
  rw [rt_b_or hk hi, h k hk]
  constructor
  · rintro (⟨z1, z2⟩ | z)
    · exact ⟨by omega, z2⟩
    · subst z; exact ⟨by omega, q⟩
  · rintro ⟨z1, z2⟩
    by_cases c : k = i
    · exact Or.inr c
    · exact Or.inl ⟨by omega, z2⟩
theorem rt_bl_skip {Q : Nat → Prop} {i : Nat} {x : Int32} (h : rt_bl Q i x) (q : ¬ Q i) : rt_bl Q (i + 1) x := by
  intro k hk
  rw [h k hk]
  constructor
  · rintro ⟨z1, z2⟩; exact ⟨by omega, z2⟩
  · rintro ⟨z1, z2⟩
    by_cases c : k = i
    · subst c; exact absurd z2 q
    · exact ⟨by omega, z2⟩
theorem rt_bl_eq {Q R : Nat → Prop} {n : Nat} {x y : Int32} (h1 : rt_bl Q n x) (h2 : rt_bl R n y) (h : ∀ k, k < n → (Q k ↔ R k)) : x = y := by
  apply rt_b_ext
  intro k hk
  rw [h1 k hk, h2 k hk]
  constructor
  · rintro ⟨z1, z2⟩; exact ⟨z1, (h k z1).mp z2⟩
  · rintro ⟨z1, z2⟩; exact ⟨z1, (h k z1).mpr z2⟩
theorem rx_lastRoad {post : Int32 → Prop} {f : Int32} {B E L T MF MT C HT HF FL SG bs st up dn : Nat → Int32} (HN : rt_N f B E L) (ok : rt_ok T 144 1000000) {s t : Nat} (hs : s < 12) (ht : t < 12) (h : ∀ m, m ≤ 1000000 → (∀ k, k < 28 → rt_b f k → rt_v E k = t → m ≤ rt_t T s (rt_v B k) + rt_v L k) → (m = 1000000 ∨ ∃ k, k < 28 ∧ rt_b f k ∧ rt_v E k = t ∧ m = rt_t T s (rt_v B k) + rt_v L k) → post (nI m)) : wpX_leastOverLastRoad post (f, B, E, L, T, MF, MT, C, HT, HF, FL, SG, bs, st, up, dn) (nI s) (nI t) := by
  obtain ⟨hB, hE, hL, hl1⟩ := HN
  refine loop_0 (fun n i (w : Int32) => wX_leastOverLastRoad_6 post (nI s) (nI t) f B E L T MF MT C HT HF FL SG bs st up dn n w (nI i)) (fun i w => ∃ m, w = nI m ∧ m ≤ 1000000 ∧ (∀ k, k < i → rt_b f k → rt_v E k = t → m ≤ rt_t T s (rt_v B k) + rt_v L k) ∧ (m = 1000000 ∨ ∃ k, k < 28 ∧ rt_b f k ∧ rt_v E k = t ∧ m = rt_t T s (rt_v B k) + rt_v L k)) 28 1000000 ⟨1000000, rfl, Nat.le_refl _, fun k hk => by omega, Or.inl rfl⟩ ?_ ?_
  · rintro n w ⟨m, e, k1, k2, k3⟩
    subst e
    exact pk_le 28 28 (fun _ => h m k1 k2 k3) (fun h => by omega)
  · rintro n i w hi ⟨m, e, k1, k2, k3⟩ ih
    subst e
    have b1 := (hB i hi).2
    have b2 := (hE i hi).2
    have b3 := (hL i hi).2
    have hb0 : rt_v B i < 12 := by omega
    have b4 := (rt_tok ok hs hb0).2
    have skip : (rt_b f i → rt_v E i = t → m ≤ rt_t T s (rt_v B i) + rt_v L i) → wX_leastOverLastRoad_6 post (nI s) (nI t) f B E L T MF MT C HT HF FL SG bs st up dn n (nI m) (nI (i + 1)) := by
      intro q
      refine ih _ ⟨m, rfl, k1, fun k hk z1 z2 => ?_, k3⟩
      by_cases c : k = i
      · subst c; exact q z1 z2
      · exact k2 k (by omega) z1 z2
    refine pk_le 28 i (fun h => by omega) (fun _ => ?_)
    refine rx_isRoad hi (fun hb => br_f rt_10 ⟨vp_in_nI hi (by omega), ?_⟩) (fun hb => br_t rfl (nm_r (nI_1 i) (skip (fun z => absurd z hb))))
    refine pk_eq (rt_v E i) t (fun c => ⟨vp_in_nI hi (by omega), ?_, vp_in_nI hi (by omega), nm_r (e' := nI (rt_t T s (rt_v B i) + rt_v L i)) (by rw [rt_rd hB hi, rt_rdx ok hs hb0, rt_rd hL hi, nI_add]) ?_⟩) (fun c => nm_r (nI_1 i) (skip (fun _ z => absurd z c))) (rt_rd hE hi) rfl
    · rw [rt_rd hB hi]; exact rt_inx hs hb0
    · refine pk_le m (rt_t T s (rt_v B i) + rt_v L i) (fun hle => nm_r (nI_1 i) (skip (fun _ _ => hle))) (fun hlt => nm_r (nI_1 i) ?_)
      refine ih _ ⟨_, rfl, by omega, fun k hk z1 z2 => ?_, Or.inr ⟨i, hi, hb, c, rfl⟩⟩
      by_cases ck : k = i
      · subst ck; exact Nat.le_refl _
      · have := k2 k (by omega) z1 z2
        omega
theorem rx_tableSound {post : Int32 → Prop} {f : Int32} {B E L T MF MT C HT HF FL SG bs st up dn : Nat → Int32} (HN : rt_N f B E L) (ok : rt_ok T 144 1000000) (hD : rt_AP (rt_eP (rt_b f) B E L) (rt_t T)) (h : post 1) : wpX_isTableSound post (f, B, E, L, T, MF, MT, C, HT, HF, FL, SG, bs, st, up, dn) := by
  refine loop_0 (fun n i (_ : Unit) => wX_isTableSound_2 post f B E L T MF MT C HT HF FL SG bs st up dn n (nI i)) (fun _ _ => True) 12 () trivial ?_ ?_
  · intro n _ _
    exact pk_le 12 12 (fun _ => h) (fun h => by omega)
  · intro n s _ hs _ ih
    refine pk_le 12 s (fun h => by omega) (fun _ => ?_)
    refine loop_0 (fun m i (_ : Unit) => wX_isTableSound_10 post (wX_isTableSound_2 post f B E L T MF MT C HT HF FL SG bs st up dn n) (nI s) f B E L T MF MT C HT HF FL SG bs st up dn m (nI i)) (fun _ _ => True) 12 () trivial ?_ ?_
    · intro m _ _
      exact pk_le 12 12 (fun _ => nm_r (nI_1 s) (ih () trivial)) (fun h => by omega)
    · intro m t _ ht _ ih2
      have fin : ∀ z : Int32, z = nI (rt_t T s t) → wX_isTableSound_31 post (wX_isTableSound_2 post f B E L T MF MT C HT HF FL SG bs st up dn n) (wX_isTableSound_10 post (wX_isTableSound_2 post f B E L T MF MT C HT HF FL SG bs st up dn n) (nI s) f B E L T MF MT C HT HF FL SG bs st up dn m) (nI s) (nI t) z f B E L T MF MT C HT HF FL SG bs st up dn := by
        intro z e
        subst e
        exact ⟨rt_inx hs ht, br_t (rt_rdx ok hs ht) (nm_r (nI_1 t) (ih2 () trivial))⟩
      refine pk_le 12 t (fun h => by omega) (fun _ => ?_)
      refine pk_eq s t (fun c => fin 0 ?_) (fun c => ?_)
      · subst c
        rw [(hD s hs).1]; rfl
      · refine rx_lastRoad HN ok hs ht (fun m' k1 k2 k3 => fin _ (congrArg nI ?_))
        have hf := (hD s hs).2.1 t ht
        apply Nat.le_antisymm
        · rcases (hD s hs).2.2.2 t ht (fun z => c z.symm) with w | ⟨a, l, ⟨k, hk, w1, w2, w3, w4⟩, r⟩
          · omega
          · have := k2 k hk w1 w3
            rw [w2, w4] at this
            omega
        · rcases k3 with w | ⟨k, hk, w1, w2, w3⟩
          · omega
          · have := (hD s hs).2.2.1 (rt_v B k) t (rt_v L k) ⟨k, hk, w1, rfl, w2, rfl⟩
            omega
theorem rx_marksSound {post : Int32 → Prop} {f : Int32} {B E L T MF MT C HT HF FL SG bs st up dn : Nat → Int32} (ok : rt_ok T 144 1000000) (mk : rt_MK (rt_t T) MF MT 3) (h : post 1) : wpX_areMarksSound post (f, B, E, L, T, MF, MT, C, HT, HF, FL, SG, bs, st, up, dn) := by
  refine loop_0 (fun n i (_ : Unit) => wX_areMarksSound_2 post f B E L T MF MT C HT HF FL SG bs st up dn n (nI i)) (fun _ _ => True) 3 () trivial ?_ ?_
  · intro n _ _
    exact pk_le 3 3 (fun _ => h) (fun h => by omega)
  · intro n m _ hm _ ih
    refine pk_le 3 m (fun h => by omega) (fun _ => nm_r (pk_mul m 4) ?_)
    have h4 : m * 4 < 12 := by omega
    refine loop_0 (fun j i (_ : Unit) => wX_areMarksSound_13 post (wX_areMarksSound_2 post f B E L T MF MT C HT HF FL SG bs st up dn n) (nI m) (nI (m * 4)) f B E L T MF MT C HT HF FL SG bs st up dn j (nI i)) (fun _ _ => True) 12 () trivial ?_ ?_
    · intro j _ _
      exact pk_le 12 12 (fun _ => nm_r (nI_1 m) (ih () trivial)) (fun h => by omega)
    · intro j x _ hx _ ih2
      have hm12 : m < 12 := by omega
      have c1 : (nI m * 12 + nI x).toNatClampNeg = m * 12 + x := rt_cx hm12 hx
      have e1 : MF (nI m * 12 + nI x).toNatClampNeg = T (nI (m * 4) * 12 + nI x).toNatClampNeg := by
        rw [c1, (mk m x hm hx).1, rt_rdx ok h4 hx]
      have e2 : MT (nI m * 12 + nI x).toNatClampNeg = T (nI x * 12 + nI (m * 4)).toNatClampNeg := by
        rw [c1, (mk m x hm hx).2, rt_rdx ok hx h4]
      have i36 : vp_in (nI m * 12 + nI x) 36 := pk_in (m * 12 + x) 36 (by omega) (rt_ix m x)
      refine pk_le 12 x (fun h => by omega) (fun _ => ⟨i36, rt_inx h4 hx, br_t e1 ⟨i36, rt_inx hx h4, br_t e2 (nm_r (nI_1 x) (ih2 () trivial))⟩⟩)
theorem rx_overLower {post : Int32 → Prop} {f : Int32} {B E L T MF MT C HT HF FL SG bs st up dn : Nat → Int32} (ok : rt_ok C 144 1000000) {a b : Nat} (ha : a < 12) (hb : b < 12) (h : ∀ m, m ≤ 1000000 → (a = b → m = 0) → (∀ q, q < a → q < b → m ≤ rt_t C a q + rt_t C q b) → (m = 1000000 ∨ (a = b ∧ m = 0) ∨ ∃ q, q < a ∧ q < b ∧ m = rt_t C a q + rt_t C q b) → post (nI m)) : wpX_leastOverLower post (f, B, E, L, T, MF, MT, C, HT, HF, FL, SG, bs, st, up, dn) (nI a) (nI b) := by
  have loop : ∀ (x : Int32) (m0 : Nat), x = nI m0 → m0 ≤ 1000000 → (a = b → m0 = 0) → (m0 = 1000000 ∨ (a = b ∧ m0 = 0)) → ∃ n, wX_leastOverLower_15 post (nI a) (nI b) f B E L T MF MT C HT HF FL SG bs st up dn n x 0 := by
    intro x m0 ex hm0 hz hd
    refine loop_0 (fun n i (w : Int32) => wX_leastOverLower_15 post (nI a) (nI b) f B E L T MF MT C HT HF FL SG bs st up dn n w (nI i)) (fun i w => ∃ m, w = nI m ∧ m ≤ 1000000 ∧ (a = b → m = 0) ∧ (∀ q, q < i → m ≤ rt_t C a q + rt_t C q b) ∧ (m = 1000000 ∨ (a = b ∧ m = 0) ∨ ∃ q, q < a ∧ q < b ∧ m = rt_t C a q + rt_t C q b)) (min a b) x ⟨m0, ex, hm0, hz, fun q hq => by omega, ?_⟩ ?_ ?_
    · rcases hd with w | w
      · exact Or.inl w
      · exact Or.inr (Or.inl w)
    · rintro n w ⟨m, e, k1, k2, k3, k4⟩
      subst e
      have fin := h m k1 k2 (fun q q1 q2 => k3 q (by omega)) k4
      exact pk_le a (min a b) (fun _ => fin) (fun c => pk_le b (min a b) (fun _ => fin) (fun c2 => by omega))
    · rintro n i w hi ⟨m, e, k1, k2, k3, k4⟩ ih
      subst e
      have hia : i < a := by omega
      have hib : i < b := by omega
      have hi12 : i < 12 := by omega
      have b1 := (rt_tok ok ha hi12).2
      have b2 := (rt_tok ok hi12 hb).2
      refine pk_le a i (fun h => by omega) (fun _ => pk_le b i (fun h => by omega) (fun _ => ⟨rt_inx ha hi12, rt_inx hi12 hb, nm_r (e' := nI (rt_t C a i + rt_t C i b)) (by rw [rt_rdx ok ha hi12, rt_rdx ok hi12 hb, nI_add]) ?_⟩))
      refine pk_le m (rt_t C a i + rt_t C i b) (fun hle => nm_r (nI_1 i) ?_) (fun hlt => nm_r (nI_1 i) ?_)
      · refine ih _ ⟨m, rfl, k1, k2, fun q hq => ?_, k4⟩
        by_cases c : q = i
        · subst c; exact hle
        · exact k3 q (by omega)
      · refine ih _ ⟨_, rfl, by omega, fun c => ?_, fun q hq => ?_, Or.inr (Or.inr ⟨i, hia, hib, rfl⟩)⟩
        · have := k2 c; omega
        · by_cases c : q = i
          · subst c; exact Nat.le_refl _
          · have := k3 q (by omega)
            omega
  unfold wpX_leastOverLower
  refine pk_eq a b (fun c => loop 0 0 rfl (by omega) (fun _ => rfl) (Or.inr ⟨c, rfl⟩)) (fun c => loop 1000000 1000000 rfl (by omega) (fun z => absurd z c) (Or.inl rfl))
theorem rx_byRoad {post : Int32 → Prop} {f : Int32} {B E L T MF MT C HT HF FL SG bs st up dn : Nat → Int32} (HN : rt_N f B E L) {a b : Nat} (ha : a < 12) (hb : b < 12) (h : ∀ m, m ≤ 1000000 → (∀ l, rt_eP (rt_b f) B E L a b l → m ≤ l) → (m = 1000000 ∨ rt_eP (rt_b f) B E L a b m) → post (nI m)) : wpX_leastByRoad post (f, B, E, L, T, MF, MT, C, HT, HF, FL, SG, bs, st, up, dn) (nI a) (nI b) := by
  obtain ⟨hB, hE, hL, hl1⟩ := HN
  refine loop_0 (fun n i (w : Int32) => wX_leastByRoad_6 post (nI a) (nI b) f B E L T MF MT C HT HF FL SG bs st up dn n w (nI i)) (fun i w => ∃ m, w = nI m ∧ m ≤ 1000000 ∧ (∀ k, k < i → rt_b f k → rt_v B k = a → rt_v E k = b → m ≤ rt_v L k) ∧ (m = 1000000 ∨ rt_eP (rt_b f) B E L a b m)) 28 1000000 ⟨1000000, rfl, Nat.le_refl _, fun k hk => by omega, Or.inl rfl⟩ ?_ ?_
  · rintro n w ⟨m, e, k1, k2, k3⟩
    subst e
    refine pk_le 28 28 (fun _ => h m k1 ?_ k3) (fun h => by omega)
    rintro l ⟨k, hk, w1, w2, w3, w4⟩
    have := k2 k hk w1 w2 w3
    omega
  · rintro n i w hi ⟨m, e, k1, k2, k3⟩ ih
    subst e
    have b1 := (hB i hi).2
    have b2 := (hE i hi).2
    have b3 := (hL i hi).2
    have skip : (rt_b f i → rt_v B i = a → rt_v E i = b → m ≤ rt_v L i) → wX_leastByRoad_6 post (nI a) (nI b) f B E L T MF MT C HT HF FL SG bs st up dn n (nI m) (nI (i + 1)) := by
      intro q
      refine ih _ ⟨m, rfl, k1, fun k hk z1 z2 z3 => ?_, k3⟩
      by_cases c : k = i
      · subst c; exact q z1 z2 z3
      · exact k2 k (by omega) z1 z2 z3
    refine pk_le 28 i (fun h => by omega) (fun _ => ?_)
    refine rx_isRoad hi (fun hr => br_f rt_10 ⟨vp_in_nI hi (by omega), ?_⟩) (fun hr => br_t rfl (nm_r (nI_1 i) (skip (fun z => absurd z hr))))
    refine pk_eq (rt_v B i) a (fun c => ⟨vp_in_nI hi (by omega), ?_⟩) (fun c => nm_r (nI_1 i) (skip (fun _ z => absurd z c))) (rt_rd hB hi) rfl
    refine pk_eq (rt_v E i) b (fun c2 => ⟨vp_in_nI hi (by omega), ?_⟩) (fun c2 => nm_r (nI_1 i) (skip (fun _ _ z => absurd z c2))) (rt_rd hE hi) rfl
    refine pk_le m (rt_v L i) (fun hle => nm_r (nI_1 i) (skip (fun _ _ _ => hle))) (fun hlt => ⟨vp_in_nI hi (by omega), nm_r (rt_rd hL hi) (nm_r (nI_1 i) ?_)⟩) rfl (rt_rd hL hi)
    refine ih _ ⟨_, rfl, by omega, fun k hk z1 z2 z3 => ?_, Or.inr ⟨i, hi, hr, c, c2, rfl⟩⟩
    by_cases ck : k = i
    · subst ck; exact Nat.le_refl _
    · have := k2 k (by omega) z1 z2 z3
      omega
theorem rx_climbSound {post : Int32 → Prop} {f : Int32} {B E L T MF MT C HT HF FL SG bs st up dn : Nat → Int32} (HN : rt_N f B E L) (ok : rt_ok C 144 1000000) {D : Nat → Nat → Nat} (hC : rt_CL (rt_eP (rt_b f) B E L) D 12 (rt_t C)) (h : post 1) : wpX_isClimbSound post (f, B, E, L, T, MF, MT, C, HT, HF, FL, SG, bs, st, up, dn) := by
  obtain ⟨h1, h2, h3, h5, h6, h7⟩ := hC
  refine loop_0 (fun n i (_ : Unit) => wX_isClimbSound_2 post f B E L T MF MT C HT HF FL SG bs st up dn n (nI i)) (fun _ _ => True) 12 () trivial ?_ ?_
  · intro n _ _
    exact pk_le 12 12 (fun _ => h) (fun h => by omega)
  · intro n a _ ha _ ih
    refine pk_le 12 a (fun h => by omega) (fun _ => ?_)
    refine loop_0 (fun m i (_ : Unit) => wX_isClimbSound_10 post (wX_isClimbSound_2 post f B E L T MF MT C HT HF FL SG bs st up dn n) (nI a) f B E L T MF MT C HT HF FL SG bs st up dn m (nI i)) (fun _ _ => True) 12 () trivial ?_ ?_
    · intro m _ _
      exact pk_le 12 12 (fun _ => nm_r (nI_1 a) (ih () trivial)) (fun h => by omega)
    · intro m b _ hb _ ih2
      have fin : ∀ z : Nat, z = rt_t C a b → wX_isClimbSound_43 post (wX_isClimbSound_2 post f B E L T MF MT C HT HF FL SG bs st up dn n) (wX_isClimbSound_10 post (wX_isClimbSound_2 post f B E L T MF MT C HT HF FL SG bs st up dn n) (nI a) f B E L T MF MT C HT HF FL SG bs st up dn m) (nI a) (nI b) (nI z) f B E L T MF MT C HT HF FL SG bs st up dn := by
        intro z e
        subst e
        exact ⟨rt_inx ha hb, br_t (rt_rdx ok ha hb) (nm_r (nI_1 b) (ih2 () trivial))⟩
      refine pk_le 12 b (fun h => by omega) (fun _ => ?_)
      refine rx_overLower ok ha hb (fun m1 p1 p2 p3 p4 => ?_)
      refine rx_byRoad HN ha hb (fun m2 q1 q2 q3 => ?_)
      have l1 : rt_t C a b ≤ m1 := by
        rcases p4 with w | ⟨w1, w2⟩ | ⟨q, w1, w2, w3⟩
        · have := h2 a b ha hb; omega
        · subst w1; have := h1 a ha; omega
        · have := h6 q a b (by omega) ha hb w1 w2; omega
      have l2 : rt_t C a b ≤ m2 := by
        rcases q3 with w | w
        · have := h2 a b ha hb; omega
        · exact h3 a b m2 w
      have l3 : min m1 m2 ≤ rt_t C a b := by
        by_cases c : a = b
        · have := p2 c; omega
        · rcases h5 a b ha hb c with w | ⟨l, w1, w2⟩ | ⟨q, w1, w2, w3⟩
          · omega
          · have := q2 l w1; omega
          · have := p3 q w1 w2; omega
      exact pk_le m1 m2 (fun hle => fin m1 (by omega)) (fun hlt => fin m2 (by omega))
theorem rx_label {post : Int32 → Prop} {x y : Int32} (hx : x = 1000000 ∨ x = y) (h : post 1) : wpX_isLabelSound post x y := by
  by_cases c : x = 1000000
  · exact br_t c h
  · exact br_f c (br_t (hx.resolve_left c) h)
theorem rx_hubsSound {post : Int32 → Prop} {f : Int32} {B E L T MF MT C HT HF FL SG bs st up dn : Nat → Int32} (HN : rt_N f B E L) (ok : rt_ok T 144 1000000) (hD : rt_AP (rt_eP (rt_b f) B E L) (rt_t T)) (ok1 : rt_ok HT 144 1000000) (ok2 : rt_ok HF 144 1000000) (l1 : rt_LI (rt_tr (rt_t T)) (rt_t HT) 12) (l2 : rt_LI (rt_t T) (rt_t HF) 12) (h : post 1) : wpX_areHubsSound post (f, B, E, L, T, MF, MT, C, HT, HF, FL, SG, bs, st, up, dn) := by
  refine loop_0 (fun n i (_ : Unit) => wX_areHubsSound_2 post f B E L T MF MT C HT HF FL SG bs st up dn n (nI i)) (fun _ _ => True) 12 () trivial ?_ ?_
  · intro n _ _
    exact pk_le 12 12 (fun _ => h) (fun h => by omega)
  · intro n p _ hp _ ih
    refine pk_le 12 p (fun h => by omega) (fun _ => ?_)
    refine loop_0 (fun m i (_ : Unit) => wX_areHubsSound_10 post (wX_areHubsSound_2 post f B E L T MF MT C HT HF FL SG bs st up dn n) (nI p) f B E L T MF MT C HT HF FL SG bs st up dn m (nI i)) (fun _ _ => True) 12 () trivial ?_ ?_
    · intro m _ _
      exact pk_le 12 12 (fun _ => nm_r (nI_1 p) (ih () trivial)) (fun h => by omega)
    · intro m q _ hq _ ih2
      have e1 : HT (nI p * 12 + nI q).toNatClampNeg = 1000000 ∨ HT (nI p * 12 + nI q).toNatClampNeg = T (nI p * 12 + nI q).toNatClampNeg := by
        rw [rt_rdx ok1 hp hq, rt_rdx ok hp hq]
        rcases (l1 p q hp hq).1 with w | w
        · rw [w]; exact Or.inl rfl
        · rw [w]; exact Or.inr rfl
      have e2 : HF (nI p * 12 + nI q).toNatClampNeg = 1000000 ∨ HF (nI p * 12 + nI q).toNatClampNeg = T (nI q * 12 + nI p).toNatClampNeg := by
        rw [rt_rdx ok2 hp hq, rt_rdx ok hq hp]
        rcases (l2 p q hp hq).1 with w | w
        · rw [w]; exact Or.inl rfl
        · rw [w]; exact Or.inr rfl
      refine pk_le 12 q (fun h => by omega) (fun _ => ⟨rt_inx hp hq, rt_inx hp hq, rx_label e1 (br_f rt_10 ⟨rt_inx hp hq, rt_inx hq hp, rx_label e2 (br_f rt_10 ?_)⟩)⟩)
      refine rx_fbh_toHub_fromHub hp hq ok1 ok2 (fun r hr => ⟨rt_inx hp hq, br_t ?_ (nm_r (nI_1 q) (ih2 () trivial))⟩)
      rw [rt_rdx ok hp hq, rt_hubs (rt_N_net HN) hD hp hq (rt_LI_LO l1 (Nat.le_refl _)) (rt_LI_LO l2 (Nat.le_refl _)) hr]
def rt_LD (B E L : Nat → Int32) (D : Nat → Nat → Nat) (t k : Nat) : Prop := D (rt_v B k) t = rt_v L k + D (rt_v E k) t
theorem rx_leads {post : Int32 → Prop} {f : Int32} {B E L T MF MT C HT HF FL SG bs st up dn : Nat → Int32} (HN : rt_N f B E L) (ok : rt_ok T 144 1000000) {k t : Nat} (hk : k < 28) (ht : t < 12) (h1 : rt_LD B E L (rt_t T) t k → post 1) (h0 : ¬ rt_LD B E L (rt_t T) t k → post 0) : wpX_leadsTo post (f, B, E, L, T, MF, MT, C, HT, HF, FL, SG, bs, st, up, dn) (nI k) (nI t) := by
  obtain ⟨hB, hE, hL, hl1⟩ := HN
  have b1 := (hB k hk).2
  have b2 := (hE k hk).2
  have b3 := (hL k hk).2
  have hb0 : rt_v B k < 12 := by omega
  have he0 : rt_v E k < 12 := by omega
  have b4 := (rt_tok ok hb0 ht).2
  have b5 := (rt_tok ok he0 ht).2
  refine ⟨vp_in_nI hk (by omega), ?_, vp_in_nI hk (by omega), vp_in_nI hk (by omega), ?_, ?_⟩
  · rw [rt_rd hB hk]; exact rt_inx hb0 ht
  · rw [rt_rd hE hk]; exact rt_inx he0 ht
  · refine pk_eq (rt_t T (rt_v B k) t) (rt_v L k + rt_t T (rt_v E k) t) (fun c => h1 c) (fun c => h0 c) ?_ ?_
    · rw [rt_rd hB hk, rt_rdx ok hb0 ht]
    · rw [rt_rd hE hk, rt_rdx ok he0 ht, rt_rd hL hk, nI_add]
theorem rx_leadsR {post : Int32 → Prop} {f : Int32} {B E L T MF MT C HT HF FL SG bs st up dn : Nat → Int32} (HN : rt_N f B E L) (ok : rt_ok T 144 1000000) {k r : Nat} (hk : k < 28) (hr : r < 4) (h1 : (∃ i, i < 3 ∧ rt_LD B E L (rt_t T) (r * 3 + i) k) → post 1) (h0 : (¬ ∃ i, i < 3 ∧ rt_LD B E L (rt_t T) (r * 3 + i) k) → post 0) : wpX_leadsToRegion post (f, B, E, L, T, MF, MT, C, HT, HF, FL, SG, bs, st, up, dn) (nI k) (nI r) := by
  refine loop_0 (fun n i (_ : Unit) => wX_leadsToRegion_2 post (nI k) (nI r) f B E L T MF MT C HT HF FL SG bs st up dn n (nI i)) (fun i _ => ∀ j, j < i → ¬ rt_LD B E L (rt_t T) (r * 3 + j) k) 3 () (fun j hj => by omega) ?_ ?_
  · intro n _ hj
    exact pk_le 3 3 (fun _ => h0 (fun ⟨i, hi, z⟩ => hj i hi z)) (fun h => by omega)
  · intro n i _ hi hj ih
    refine pk_le 3 i (fun h => by omega) (fun _ => ?_)
    have e : nI r * 3 + nI i = nI (r * 3 + i) := by
      show nI r * nI 3 + nI i = _
      rw [pk_mul, nI_add]
    rw [e]
    refine rx_leads HN ok hk (by omega) (fun z => br_f rt_10 (h1 ⟨i, hi, z⟩)) (fun z => br_t rfl (nm_r (nI_1 i) (ih () (fun j hj' => ?_))))
    by_cases c : j = i
    · subst c; exact z
    · exact hj j (by omega)
theorem rx_flagsSound {post : Int32 → Prop} {f : Int32} {B E L T MF MT C HT HF FL SG bs st up dn : Nat → Int32} (HN : rt_N f B E L) (ok : rt_ok T 144 1000000) (hF : rt_FG f B E L (rt_t T) FL 12) (h : post 1) : wpX_areFlagsSound post (f, B, E, L, T, MF, MT, C, HT, HF, FL, SG, bs, st, up, dn) := by
  refine loop_0 (fun n i (_ : Unit) => wX_areFlagsSound_2 post f B E L T MF MT C HT HF FL SG bs st up dn n (nI i)) (fun _ _ => True) 4 () trivial ?_ ?_
  · intro n _ _
    exact pk_le 4 4 (fun _ => h) (fun h => by omega)
  · intro n r _ hr _ ih
    refine pk_le 4 r (fun h => by omega) (fun _ => ?_)
    refine loop_0 (fun m i (x : Int32) => wX_areFlagsSound_11 post (wX_areFlagsSound_2 post f B E L T MF MT C HT HF FL SG bs st up dn n) (nI r) f B E L T MF MT C HT HF FL SG bs st up dn m x (nI i)) (fun i x => rt_bl (fun k => rt_b f k ∧ ∃ i, i < 3 ∧ rt_LD B E L (rt_t T) (r * 3 + i) k) i x) 28 0 rt_bl_0 ?_ ?_
    · intro m x hx
      have e : FL (nI r).toNatClampNeg = x := by
        rw [nI_clamp (by omega)]
        apply rt_b_ext
        intro k hk
        rw [hF r k hr hk, hx k hk]
        constructor
        · rintro ⟨z1, t, z2, z3, z4, z5⟩
          exact ⟨z1, z4, t - r * 3, by omega, by rw [show r * 3 + (t - r * 3) = t by omega]; exact z5⟩
        · rintro ⟨z1, z2, i, z3, z4⟩
          exact ⟨z1, r * 3 + i, by omega, by omega, z2, z4⟩
      exact pk_le 28 28 (fun _ => ⟨vp_in_nI hr (by omega), br_t e (nm_r (nI_1 r) (ih () trivial))⟩) (fun h => by omega)
    · intro m i x hi hx ih2
      refine pk_le 28 i (fun h => by omega) (fun _ => ?_)
      refine rx_isRoad hi (fun hb => br_f rt_10 ?_) (fun hb => br_t rfl (nm_r (nI_1 i) (ih2 _ (rt_bl_skip hx (fun z => hb z.1)))))
      refine rx_leadsR HN ok hi hr (fun z => br_f rt_10 (nm_e (nm_r (nI_1 i) (ih2 _ (rt_bl_set hx (by omega) ⟨hb, z⟩))))) (fun z => br_t rfl (nm_r (nI_1 i) (ih2 _ (rt_bl_skip hx (fun q => z q.2)))))
theorem rx_signSound {post : Int32 → Prop} {f : Int32} {B E L T MF MT C HT HF FL SG bs st up dn : Nat → Int32} (HN : rt_N f B E L) (ok : rt_ok T 144 1000000) (hW : rt_FW (rt_eP (rt_b f) B E L) 12 (rt_t T)) (hS : ∀ s t, s < 12 → t < 12 → rt_SGN f B E L (rt_t T) SG s t 28) {s t : Nat} (hs : s < 12) (ht : t < 12) (h : post 1) : wpX_isSignSound post (f, B, E, L, T, MF, MT, C, HT, HF, FL, SG, bs, st, up, dn) (nI s) (nI t) := by
  have N := rt_N_net HN
  have hD := rt_FW_end N hW
  have hst := (hD s hs).2.1 t ht
  have bd : 30 * 2 ^ 12 = 122880 := by decide
  have none : (s = t ∨ rt_t T s t = 1000000) → SG (nI s * 12 + nI t).toNatClampNeg = -1 := by
    intro c
    rw [rt_cx hs ht]
    rcases hS s t hs ht with ⟨z1, _⟩ | ⟨k, hk, z1, z2, z3⟩
    · exact z1
    · exfalso
      have q := z2.2
      rw [z3] at q
      have q1 := HN.2.2.2 k hk z2.1
      have q2 := (HN.2.2.1 k hk).2
      have q3 := (HN.2.1 k hk).2
      have q4 := hW.2.2.2.2.2.2 (rt_v E k) t (by omega) ht
      rcases c with c | c
      · subst c
        have := (hD s hs).1
        omega
      · omega
  unfold wpX_isSignSound
  by_cases c : s = t
  · refine ⟨rt_inx hs ht, nm_r (none (Or.inl c)) (br_t (congrArg nI c) ?_)⟩
    exact br_t rfl h
  · by_cases c2 : rt_t T s t = 1000000
    · refine ⟨rt_inx hs ht, nm_r (none (Or.inr c2)) (br_f (fun z => c ((nI_eq (by omega) (by omega)).mp z)) ⟨rt_inx hs ht, br_t ?_ ?_⟩)⟩
      · rw [rt_rdx ok hs ht, c2]; rfl
      · exact br_t rfl h
    · rcases hS s t hs ht with ⟨z1, z2⟩ | ⟨k, hk, z1, z2, z3⟩
      · exfalso
        rcases rt_first N hD hs ht c with w | ⟨b, l', ⟨k, hk, w1, w2, w3, w4⟩, r⟩
        · exact c2 w
        · refine absurd ⟨⟨w1, ?_⟩, w2⟩ (z2 k hk)
          rw [w2, w3, w4]; exact r
      · have b1 := (HN.1 k hk).2
        refine ⟨rt_inx hs ht, nm_r (e' := nI k) (by rw [rt_cx hs ht]; exact z1) (br_f (fun z => c ((nI_eq (by omega) (by omega)).mp z)) ⟨rt_inx hs ht, ?_⟩)⟩
        refine pk_eq (rt_t T s t) 1000000 (fun z => absurd z c2) (fun _ => ?_) (rt_rdx ok hs ht) rfl
        refine rx_isRoad hk (fun hb => br_f rt_10 ⟨vp_in_nI hk (by omega), ?_⟩) (fun hb => absurd z2.1 hb)
        refine pk_eq (rt_v B k) s (fun _ => ?_) (fun z => absurd z3 z) (rt_rd HN.1 hk) rfl
        exact rx_leads HN ok hk ht (fun _ => br_f rt_10 h) (fun z => absurd z2.2 z)
theorem rx_signsSound {post : Int32 → Prop} {f : Int32} {B E L T MF MT C HT HF FL SG bs st up dn : Nat → Int32} (HN : rt_N f B E L) (ok : rt_ok T 144 1000000) (hW : rt_FW (rt_eP (rt_b f) B E L) 12 (rt_t T)) (hS : ∀ s t, s < 12 → t < 12 → rt_SGN f B E L (rt_t T) SG s t 28) (h : post 1) : wpX_areSignsSound post (f, B, E, L, T, MF, MT, C, HT, HF, FL, SG, bs, st, up, dn) := by
  refine loop_0 (fun n i (_ : Unit) => wX_areSignsSound_2 post f B E L T MF MT C HT HF FL SG bs st up dn n (nI i)) (fun _ _ => True) 12 () trivial ?_ ?_
  · intro n _ _
    exact pk_le 12 12 (fun _ => h) (fun h => by omega)
  · intro n s _ hs _ ih
    refine pk_le 12 s (fun h => by omega) (fun _ => ?_)
    refine loop_0 (fun m i (_ : Unit) => wX_areSignsSound_10 post (wX_areSignsSound_2 post f B E L T MF MT C HT HF FL SG bs st up dn n) (nI s) f B E L T MF MT C HT HF FL SG bs st up dn m (nI i)) (fun _ _ => True) 12 () trivial ?_ ?_
    · intro m _ _
      exact pk_le 12 12 (fun _ => nm_r (nI_1 s) (ih () trivial)) (fun h => by omega)
    · intro m t _ ht _ ih2
      refine pk_le 12 t (fun h => by omega) (fun _ => ?_)
      exact rx_signSound HN ok hW hS hs ht (br_f rt_10 (nm_r (nI_1 t) (ih2 () trivial)))
theorem rx_sound {post : Int32 → Prop} {f : Int32} {B E L T MF MT C HT HF FL SG bs st up dn : Nat → Int32} (HP : rt_P f B E L T MF MT C HT HF FL SG) (h : post 1) : wpX_sound post (f, B, E, L, T, MF, MT, C, HT, HF, FL, SG, bs, st, up, dn) := by
  obtain ⟨HN, p1, p2, p3, p4, p5, p6, p7, p8, p9, p10, p11⟩ := HP
  have hD := rt_FW_end (rt_N_net HN) p2
  unfold wpX_sound
  refine rx_tableSound HN p1 hD (br_f rt_10 ?_)
  refine rx_marksSound p1 p3 (br_f rt_10 ?_)
  refine rx_climbSound HN p4 p5 (br_f rt_10 ?_)
  refine rx_hubsSound HN p1 hD p6 p7 p8 p9 (br_f rt_10 ?_)
  refine rx_flagsSound HN p1 p10 (br_f rt_10 ?_)
  exact rx_signsSound HN p1 p2 p11 (br_f rt_10 h)
