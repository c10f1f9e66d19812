/-! the relation, and the changes of the net -/
/-- the same net on both sides (begins, ends, lengths as the same functions), and all that the class has prepared fits it -/
def i_Rel (k : Nat) (u : SX) (v : SY) : Prop := ∃ (f : Int32) (B E L T MF MT C HT HF FL SG bs st up dn TH LE : Nat → Int32), u = (f, B, E, L, T, MF, MT, C, HT, HF, FL, SG, bs, st, up, dn) ∧ v = (TH, B, E, L, LE) ∧ rt_P f B E L T MF MT C HT HF FL SG ∧ rt_TH f TH ∧ ∀ j, 28 ≤ j → j < 32 → ¬ rt_b f j
theorem i_up {k : Nat} {u : SX} {v : SY} (h : i_Rel k u v) : i_Rel (k + 4) u v := h
theorem rt_rel {k : Nat} {f : Int32} {B E L T MF MT C HT HF FL SG bs st up dn : Nat → Int32} {TH LE : Nat → Int32} (HP : rt_P f B E L T MF MT C HT HF FL SG) (hT : rt_TH f TH) (hb : ∀ j, 28 ≤ j → j < 32 → ¬ rt_b f j) : i_Rel k (f, B, E, L, T, MF, MT, C, HT, HF, FL, SG, bs, st, up, dn) (TH, B, E, L, LE) := ⟨f, B, E, L, T, MF, MT, C, HT, HF, FL, SG, bs, st, up, dn, TH, LE, rfl, rfl, HP, hT, hb⟩
theorem rt_bd {e : Nat → Nat → Nat → Prop} {D : Nat → Nat → Nat} (h : rt_FW e 12 D) {a b : Nat} (ha : a < 12) (hb : b < 12) : D a b = 1000000 ∨ D a b ≤ 122880 := by
  have h1 := h.2.1 a b ha hb
  have h2 := h.2.2.2.2.2.2 a b ha hb
  have bd : 30 * 2 ^ 12 = 122880 := by decide
  omega
theorem rt_ok0 {n M : Nat} : rt_ok (fun _ => 0) n M := by
  intro j _
  have e : rt_v (fun _ => 0) j = 0 := rt_v_of (a := fun _ => 0) (j := j) (v := 0) rfl (by decide)
  rw [e]
  exact ⟨rfl, Nat.zero_le _⟩
theorem i_vc0 : wpX_init (fun u => wpY_init (fun v => i_Rel 0 u v)) := by
  unfold wpX_init
  refine rx_prepare ⟨rt_ok0, rt_ok0, rt_ok0, fun k hk z => absurd z (rt_b_0 (by omega))⟩ (fun T MF MT C HT HF FL SG bs st HP => ?_)
  exact rt_rel (k := 0) HP (fun k hk => ⟨fun _ => rt_b_0 (by omega), fun _ => rfl⟩) (fun j _ hj => rt_b_0 hj)
theorem rt_N_add {f : Int32} {B E L : Nat → Int32} (h : rt_N f B E L) {k a b l : Nat} (hk : k < 28) (ha : a < 12) (hb : b < 12) (h1 : 1 ≤ l) (h2 : l ≤ 30) : rt_N (f ||| ((1 : Int32) <<< (nI k &&& 31))) (upd B k (nI a)) (upd E k (nI b)) (upd L k (nI l)) := by
  obtain ⟨hB, hE, hL, hl⟩ := h
  refine ⟨rt_oku hB (by omega) (by decide), rt_oku hE (by omega) (by decide), rt_oku hL (by omega) (by decide), fun j hj z => ?_⟩
  rw [rt_vu (by omega)]
  by_cases c : j = k
  · rw [if_pos c]; exact h1
  · rw [if_neg c]
    rcases (rt_b_or (by omega) (by omega)).mp z with w | w
    · exact hl j hj w
    · exact absurd w c
theorem rt_N_rem {f : Int32} {B E L : Nat → Int32} (h : rt_N f B E L) {k : Nat} (hk : k < 28) : rt_N (f &&& (((1 : Int32) <<< (nI k &&& 31)) ^^^ (-1))) B E L := by
  obtain ⟨hB, hE, hL, hl⟩ := h
  refine ⟨hB, hE, hL, fun j hj z => hl j hj ((rt_b_clr (by omega) (by omega)).mp z).1⟩
theorem rt_N_chg {f : Int32} {B E L : Nat → Int32} (h : rt_N f B E L) {k l : Nat} (h1 : 1 ≤ l) (h2 : l ≤ 30) : rt_N f B E (upd L k (nI l)) := by
  obtain ⟨hB, hE, hL, hl⟩ := h
  refine ⟨hB, hE, rt_oku hL (by omega) (by decide), fun j hj z => ?_⟩
  rw [rt_vu (by omega)]
  by_cases c : j = k
  · rw [if_pos c]; exact h1
  · rw [if_neg c]; exact hl j hj z
theorem rx_add_loop {post : Int32 → SX → Prop} {f : Int32} {B E L T MF MT C HT HF FL SG bs st up dn : Nat → Int32} (HN : rt_N f B E L) {a b l : Nat} (ha : a < 12) (hb : b < 12) (h1 : 1 ≤ l) (h2 : l ≤ 30) (hfull : (∀ k, k < 28 → rt_b f k) → post (-2) (f, B, E, L, T, MF, MT, C, HT, HF, FL, SG, bs, st, up, dn))
    (hfree : ∀ k, k < 28 → ¬ rt_b f k → (∀ j, j < k → rt_b f j) → ∀ T' MF' MT' C' HT' HF' FL' SG' bs' st', rt_P (f ||| ((1 : Int32) <<< (nI k &&& 31))) (upd B k (nI a)) (upd E k (nI b)) (upd L k (nI l)) T' MF' MT' C' HT' HF' FL' SG' → post (nI k) (f ||| ((1 : Int32) <<< (nI k &&& 31)), upd B k (nI a), upd E k (nI b), upd L k (nI l), T', MF', MT', C', HT', HF', FL', SG', bs', st', up, dn)) : ∃ n, wX_add_31 post (nI a) (nI b) (nI l) f B E L T MF MT C HT HF FL SG bs st up dn n 0 := by
  refine loop_0 (fun n i (_ : Unit) => wX_add_31 post (nI a) (nI b) (nI l) f B E L T MF MT C HT HF FL SG bs st up dn n (nI i)) (fun i _ => ∀ j, j < i → rt_b f j) 28 () (fun j hj => by omega) ?_ ?_
  · intro n _ k
    exact pk_le 28 28 (fun _ => hfull k) (fun h => by omega)
  · intro n i _ hi k ih
    refine pk_le 28 i (fun h => by omega) (fun _ => ?_)
    refine rx_isRoad hi (fun z => br_f rt_10 (nm_r (nI_1 i) (ih () (fun j hj => ?_)))) (fun z => br_t rfl ⟨vp_in_nI hi (by omega), nm_r (rt_uc (by omega)) ⟨vp_in_nI hi (by omega), nm_r (rt_uc (by omega)) ⟨vp_in_nI hi (by omega), nm_r (rt_uc (by omega)) (nm_e ?_)⟩⟩⟩)
    · by_cases c : j = i
      · subst c; exact z
      · exact k j (by omega)
    · refine rx_prepare (rt_N_add HN hi ha hb h1 h2) (fun T' MF' MT' C' HT' HF' FL' SG' bs' st' HP => ?_)
      exact hfree i hi z k T' MF' MT' C' HT' HF' FL' SG' bs' st' HP
theorem ry_add_full {post : Int32 → SY → Prop} {TH B E L LE : Nat → Int32} {x1 x2 x3 : Int32} (hf : ∀ j, j < 28 → ¬ TH j = 0) (h : post (-2) (TH, B, E, L, LE)) : ∃ n, wY_add_34 post x1 x2 x3 TH B E L LE n 0 := by
  refine loop_0 (fun n i (_ : Unit) => wY_add_34 post x1 x2 x3 TH B E L LE n (nI i)) (fun _ _ => True) 28 () trivial ?_ ?_
  · intro n _ _
    exact pk_le 28 28 (fun _ => h) (fun h => by omega)
  · intro n i _ hi _ ih
    exact pk_le 28 i (fun h => by omega) (fun _ => ⟨vp_in_nI hi (by omega), br_f (show ¬ TH (nI i).toNatClampNeg = 0 by rw [nI_clamp (by omega)]; exact hf i hi) (nm_r (nI_1 i) (ih () trivial))⟩)
theorem ry_add_at {post : Int32 → SY → Prop} {TH B E L LE : Nat → Int32} {x1 x2 x3 : Int32} {k : Nat} (hk : k < 28) (h0 : TH k = 0) (hf : ∀ j, j < k → ¬ TH j = 0) (h : post (nI k) (upd TH k 1, upd B k x1, upd E k x2, upd L k x3, LE)) : ∃ n, wY_add_34 post x1 x2 x3 TH B E L LE n 0 := by
  refine loop_0 (fun n i (_ : Unit) => wY_add_34 post x1 x2 x3 TH B E L LE n (nI i)) (fun _ _ => True) k () trivial ?_ ?_
  · intro n _ _
    exact pk_le 28 k (fun h => by omega) (fun _ => ⟨vp_in_nI hk (by omega), br_t (show TH (nI k).toNatClampNeg = 0 by rw [nI_clamp (by omega)]; exact h0) ⟨vp_in_nI hk (by omega), nm_r (rt_uc (by omega) rt_n1) ⟨vp_in_nI hk (by omega), nm_r (rt_uc (by omega)) ⟨vp_in_nI hk (by omega), nm_r (rt_uc (by omega)) ⟨vp_in_nI hk (by omega), nm_r (rt_uc (by omega)) h⟩⟩⟩⟩⟩)
  · intro n i _ hi _ ih
    exact pk_le 28 i (fun h => by omega) (fun _ => ⟨vp_in_nI (by omega) (by omega), br_f (show ¬ TH (nI i).toNatClampNeg = 0 by rw [nI_clamp (by omega)]; exact hf i hi) (nm_r (nI_1 i) (ih () trivial))⟩)
theorem rx_agree {post : Int32 → SX → Prop} {f : Int32} {B E L T MF MT C HT HF FL SG bs st up dn : Nat → Int32} (HP : rt_P f B E L T MF MT C HT HF FL SG) {g1 g2 : Nat} (hg1 : g1 < 7) (hg2 : g2 < 7) (h : ∀ bs' st' up' dn', post 1 (f, B, E, L, T, MF, MT, C, HT, HF, FL, SG, bs', st', up', dn')) : wpX_agree post (f, B, E, L, T, MF, MT, C, HT, HF, FL, SG, bs, st, up, dn) (nI g1) (nI g2) := by
  unfold wpX_agree
  refine rx_eng hg1 (br_f rt_10 (rx_eng hg2 (br_f rt_10 ?_)))
  refine loop_0 (fun n i (w : (Nat → Int32) × (Nat → Int32) × (Nat → Int32) × (Nat → Int32)) => wX_agree_18 post (nI g1) (nI g2) n (nI i) f B E L T MF MT C HT HF FL SG w.1 w.2.1 w.2.2.1 w.2.2.2) (fun _ _ => True) 12 (bs, st, up, dn) trivial ?_ ?_
  · intro n w _
    exact pk_le 12 12 (fun _ => h _ _ _ _) (fun h => by omega)
  · intro n s w hs _ ih
    refine pk_le 12 s (fun h => by omega) (fun _ => ?_)
    refine loop_0 (fun m i (w : (Nat → Int32) × (Nat → Int32) × (Nat → Int32) × (Nat → Int32)) => wX_agree_27 post (wX_agree_18 post (nI g1) (nI g2) n) (nI g1) (nI g2) (nI s) m (nI i) f B E L T MF MT C HT HF FL SG w.1 w.2.1 w.2.2.1 w.2.2.2) (fun _ _ => True) 12 w trivial ?_ ?_
    · intro m w2 _
      exact pk_le 12 12 (fun _ => nm_r (nI_1 s) (ih w2 trivial)) (fun h => by omega)
    · intro m t w2 ht _ ih2
      refine pk_le 12 t (fun h => by omega) (fun _ => ?_)
      refine rx_find HP hg1 hs ht (fun b1 s1 u1 d1 => ?_)
      refine rx_find HP hg2 hs ht (fun b2 s2 u2 d2 => ?_)
      exact br_t rfl (nm_r (nI_1 t) (ih2 (b2, s2, u2, d2) trivial))
theorem ry_detour {post : Int32 → SY → Prop} {TH B E L LE : Nat → Int32} {f : Int32} {j : Nat} (HN : rt_N f B E L) (hT : rt_TH f TH) (hj : j < 28) (hbj : rt_b f j) {D : Nat → Nat → Nat} {d : Nat → Nat} (hD : rt_AP (rt_eP (rt_b f) B E L) D) (hd : rt_SS (rt_eP (rt_b (f &&& (((1 : Int32) <<< (nI j &&& 31)) ^^^ (-1)))) B E L) (rt_v B j) d) (h : ∀ LE', post (if d (rt_v E j) = 1000000 then -3 else nI (d (rt_v E j)) - nI (D (rt_v B j) (rt_v E j))) (TH, B, E, L, LE')) : wpY_detour post (TH, B, E, L, LE) (nI j) := by
  have N := rt_N_net HN
  have hN2 := rt_N_rem HN hj
  have q1 := (HN.1 j hj).2
  have q2 := (HN.2.1 j hj).2
  have q3 := (HN.2.2.1 j hj).2
  have hs : rt_v B j < 12 := by omega
  have ht : rt_v E j < 12 := by omega
  have hle := rt_el N hD ⟨j, hj, hbj, rfl, rfl, rfl⟩
  have hdf := hd.2.1 _ ht
  unfold wpY_detour
  refine ry_is hT hj (fun _ => br_f rt_10 ⟨vp_in_nI hj (by omega), nm_r (rt_rd HN.1 hj) ⟨vp_in_nI hj (by omega), nm_r (rt_rd HN.2.1 hj) ?_⟩⟩) (fun z => absurd hbj z)
  refine ry_measure hs HN.1 HN.2.1 HN.2.2.1 (rt_TH_P hT) HN.2.2.2 (hD _ hs) (fun LE1 m1 _ => ?_)
  refine ry_way hs ht ((m1 _ ht).trans (rt_en_lt (by omega))) ?_
  refine ry_measure hs HN.1 HN.2.1 HN.2.2.1 (rt_TH_Q hT hj) hN2.2.2.2 hd (fun LE2 m2 _ => ?_)
  refine ry_way hs ht (m2 _ ht) ?_
  have h' := h LE2
  by_cases c : d (rt_v E j) = 1000000
  · rw [if_pos c] at h'
    have t1 : ¬ 0 ≤ rt_en (d (rt_v E j)) := by rw [c, rt_en_far]; decide
    exact br_f t1 h'
  · rw [if_neg c] at h'
    rw [rt_en_lt c]
    exact br_t (nI_pos' (by omega)) h'
