/-! walks of the reference: the measure -/
def rt_en (d : Nat) : Int32 := if d = 1000000 then -3 else nI d
theorem rt_en_far : rt_en 1000000 = -3 := by decide
theorem rt_en_lt {d : Nat} (h : d ≠ 1000000) : rt_en d = nI d := if_neg h
def rt_row (a : Nat → Int32) (s : Nat) (y : Nat → Nat) : Prop := ∀ x, x < 12 → a (s * 12 + x) = rt_en (y x)
theorem rt_upd_self {a : Nat → Int32} {k : Nat} : upd a k (a k) = a := by
  funext j
  unfold upd
  by_cases c : j = k
  · rw [if_pos c, c]
  · rw [if_neg c]
theorem rt_nb0 : narrow .boolean (.int 0) = .int 0 := by rfl
theorem rt_nb1 : narrow .boolean (.int 1) = .int 1 := by rfl
theorem ry_104 {post : Int32 → SY → Prop} {J : Int32 → Int32 → (Nat → Int32) → (Nat → Int32) → (Nat → Int32) → (Nat → Int32) → (Nat → Int32) → Prop} {x1 x2 x3 x7 : Int32} {TH B E L LE : Nat → Int32} {s b i : Nat} (hs : s < 12) (hb : b < 12) (hx : x3 = 0 ∨ x3 = 1) (h : J x3 (nI (i + 1)) TH B E L LE) : wY_round_104 post J x1 x2 x3 (nI i) (12 * nI s + nI b) x7 TH B E L LE := by
  unfold wY_round_104 wY_round_105
  refine br_t rfl ⟨rt_iny hs hb, ?_⟩
  unfold wY_round_130
  refine ⟨rt_iny hs hb, nm_r (e' := LE) rt_upd_self ?_⟩
  rcases hx with e | e
  · subst e; exact br_t rfl (br_t rfl (nm_r (nI_1 i) h))
  · subst e; exact br_f rt_10 (nm_r (nI_1 i) h)
theorem ry_100 {post : Int32 → SY → Prop} {J : Int32 → Int32 → (Nat → Int32) → (Nat → Int32) → (Nat → Int32) → (Nat → Int32) → (Nat → Int32) → Prop} {x1 x2 x3 x7 : Int32} {TH B E L LE : Nat → Int32} {s b i : Nat} (hs : s < 12) (hb : b < 12) (hx : x3 = 0 ∨ x3 = 1) (h : J 1 (nI (i + 1)) TH B E L (upd LE (s * 12 + b) x7)) : wY_round_100 post J x1 x2 x3 (nI i) (12 * nI s + nI b) x7 TH B E L LE := by
  unfold wY_round_100 wY_round_105
  refine br_f rt_10 ?_
  unfold wY_round_130
  refine ⟨rt_iny hs hb, nm_r (e' := upd LE (s * 12 + b) x7) (by rw [rt_cy hs hb]) ?_⟩
  rcases hx with e | e
  · subst e; exact br_t rfl (br_f rt_10 (nm_r (nI_1 i) h))
  · subst e; exact br_f rt_10 (nm_r (nI_1 i) h)
theorem ry_round {post : Int32 → SY → Prop} {TH B E L LE : Nat → Int32} {s : Nat} {wo : Int32} {P : Nat → Prop} (hs : s < 12) (hB : rt_ok B 28 11) (hE : rt_ok E 28 11) (hL : rt_ok L 28 30) (hP : ∀ k, k < 28 → (P k ↔ (¬ TH k = 0 ∧ ¬ nI k = wo))) (hl1 : ∀ k, k < 28 → P k → 1 ≤ rt_v L k) {y : Nat → Nat} (hrow : rt_row LE s y) (hY : rt_YI (rt_eP P B E L) s y)
    (h : ∀ r LE' y', rt_row LE' s y' → rt_YI (rt_eP P B E L) s y' → (∀ j, j < s * 12 ∨ s * 12 + 12 ≤ j → LE' j = LE j) → ((r = 0 ∧ ∀ a b l, rt_eP P B E L a b l → y' b ≤ y' a + l) ∨ (r = 1 ∧ rt_sum y' 12 < rt_sum y 12)) → post r (TH, B, E, L, LE')) : wpY_round post (TH, B, E, L, LE) (nI s) wo := by
  have N : rt_net (rt_eP P B E L) := rt_eP_net hB hE hl1
  refine loop_0 (fun n i (w : Int32 × (Nat → Int32)) => wY_round_5 post (nI s) wo n w.1 (nI i) TH B E L w.2) (fun i w => ∃ y', rt_row w.2 s y' ∧ rt_YI (rt_eP P B E L) s y' ∧ (∀ j, j < s * 12 ∨ s * 12 + 12 ≤ j → w.2 j = LE j) ∧ ((w.1 = 0 ∧ (∀ x, x < 12 → y' x = y x) ∧ ∀ k, k < i → P k → y' (rt_v E k) ≤ y' (rt_v B k) + rt_v L k) ∨ (w.1 = 1 ∧ rt_sum y' 12 < rt_sum y 12))) 28 (0, LE) ⟨y, hrow, hY, fun j _ => rfl, Or.inl ⟨rfl, fun x _ => rfl, fun k hk => by omega⟩⟩ ?_ ?_
  · rintro n ⟨x3, w⟩ ⟨y', k1, k2, k3, k4⟩
    refine pk_le 28 28 (fun _ => ?_) (fun h => by omega)
    rcases k4 with ⟨e, q1, q2⟩ | ⟨e, q1⟩
    · have e' : x3 = 0 := e
      subst e'
      refine ⟨rt_nb0, h 0 w y' k1 k2 k3 (Or.inl ⟨rfl, ?_⟩)⟩
      rintro a b l ⟨k, hk, hp, r1, r2, r3⟩
      have := q2 k hk hp
      rw [r1, r2, r3] at this; exact this
    · have e' : x3 = 1 := e
      subst e'
      exact ⟨rt_nb1, h 1 w y' k1 k2 k3 (Or.inr ⟨rfl, q1⟩)⟩
  · rintro n i ⟨x3, w⟩ hi ⟨y', k1, k2, k3, k4⟩ ih
    have k1' : rt_row w s y' := k1
    have k3' : ∀ j, j < s * 12 ∨ s * 12 + 12 ≤ j → w j = LE j := k3
    have k4' : (x3 = 0 ∧ (∀ x, x < 12 → y' x = y x) ∧ ∀ k, k < i → P k → y' (rt_v E k) ≤ y' (rt_v B k) + rt_v L k) ∨ (x3 = 1 ∧ rt_sum y' 12 < rt_sum y 12) := k4
    have hx3 : x3 = 0 ∨ x3 = 1 := by
      rcases k4' with ⟨e, _⟩ | ⟨e, _⟩
      · exact Or.inl e
      · exact Or.inr e
    have b1 := (hB i hi).2
    have b2 := (hE i hi).2
    have b3 := (hL i hi).2
    have hb0 : rt_v B i < 12 := by omega
    have he0 : rt_v E i < 12 := by omega
    have c1 := rt_YI_b k2 hb0
    have c2 := rt_YI_b k2 he0
    have r1 : w (12 * nI s + B (nI i).toNatClampNeg).toNatClampNeg = rt_en (y' (rt_v B i)) := by
      rw [rt_rd hB hi, rt_cy hs hb0]; exact k1' _ hb0
    have r2 : w (12 * nI s + nI (rt_v E i)).toNatClampNeg = rt_en (y' (rt_v E i)) := by
      rw [rt_cy hs he0]; exact k1' _ he0
    -- not better
    have keep : (P i → y' (rt_v E i) ≤ y' (rt_v B i) + rt_v L i) → wY_round_5 post (nI s) wo n x3 (nI (i + 1)) TH B E L w := by
      intro hr
      refine ih (x3, w) ⟨y', k1', k2, k3', ?_⟩
      rcases k4' with ⟨e, q1, q2⟩ | ⟨e, q1⟩
      · refine Or.inl ⟨e, q1, fun k hk hp => ?_⟩
        by_cases c : k = i
        · subst c; exact hr hp
        · exact q2 k (by omega) hp
      · exact Or.inr ⟨e, q1⟩
    have put : P i → y' (rt_v B i) < 1000000 → y' (rt_v B i) + rt_v L i < y' (rt_v E i) → wY_round_5 post (nI s) wo n 1 (nI (i + 1)) TH B E L (upd w (s * 12 + rt_v E i) (nI (y' (rt_v B i) + rt_v L i))) := by
      intro hp hf hlt
      have st := rt_YI_step (y' := fun x => if x = rt_v E i then y' (rt_v B i) + rt_v L i else y' x) N b3 hs k2 ⟨i, hi, hp, rfl, rfl, rfl⟩ hf hlt (if_pos rfl) (fun x _ c => if_neg c)
      refine ih (1, upd w (s * 12 + rt_v E i) (nI (y' (rt_v B i) + rt_v L i))) ⟨fun x => if x = rt_v E i then y' (rt_v B i) + rt_v L i else y' x, ?_, st.1, ?_, Or.inr ⟨rfl, ?_⟩⟩
      · intro x hx
        show upd w (s * 12 + rt_v E i) (nI (y' (rt_v B i) + rt_v L i)) (s * 12 + x) = rt_en (if x = rt_v E i then y' (rt_v B i) + rt_v L i else y' x)
        by_cases c : x = rt_v E i
        · rw [if_pos c, c, pk_us, rt_en_lt (by omega)]
        · rw [if_neg c, pk_un (by omega)]; exact k1' x hx
      · intro j hj
        show upd w (s * 12 + rt_v E i) (nI (y' (rt_v B i) + rt_v L i)) j = LE j
        rw [pk_un (by omega)]; exact k3' j hj
      · have := st.2
        rcases k4' with ⟨e, q1, q2⟩ | ⟨e, q1⟩
        · have h1 : rt_sum y' 12 ≤ rt_sum y 12 := rt_sum_le 12 (fun j hj => by rw [q1 j hj]; exact Nat.le_refl _)
          omega
        · omega
    have i1 : vp_in (12 * nI s + B (nI i).toNatClampNeg) 144 := by rw [rt_rd hB hi]; exact rt_iny hs hb0
    refine pk_le 28 i (fun h => by omega) (fun _ => ⟨vp_in_nI hi (by omega), i1, nm_r r1 ⟨vp_in_nI hi (by omega), nm_r (e' := 12 * nI s + nI (rt_v E i)) (by rw [rt_rd hE hi]) ⟨vp_in_nI hi (by omega), nm_r (e' := rt_en (y' (rt_v B i)) + nI (rt_v L i)) (by rw [rt_rd hL hi]) ⟨vp_in_nI hi (by omega), ?_⟩⟩⟩⟩)
    have hcl : (nI i).toNatClampNeg = i := nI_clamp (by omega)
    by_cases t0 : TH i = 0
    · refine br_t (show TH (nI i).toNatClampNeg = 0 by rw [hcl]; exact t0) (ry_104 hs he0 hx3 (keep (fun hp => absurd t0 ((hP i hi).mp hp).1)))
    · refine br_f (show ¬ TH (nI i).toNatClampNeg = 0 by rw [hcl]; exact t0) ?_
      by_cases t1 : nI i = wo
      · exact br_t t1 (ry_104 hs he0 hx3 (keep (fun hp => absurd t1 ((hP i hi).mp hp).2)))
      · refine br_f t1 ?_
        have hp : P i := (hP i hi).mpr ⟨t0, t1⟩
        by_cases t2 : y' (rt_v B i) = 1000000
        · have t2' : rt_en (y' (rt_v B i)) < 0 := by rw [t2, rt_en_far]; decide
          exact br_t t2' (ry_104 hs he0 hx3 (keep (fun _ => by omega)))
        · rw [rt_en_lt t2, nI_add]
          refine br_f (nI_pos (by omega)) ⟨rt_iny hs he0, ?_⟩
          by_cases t3 : y' (rt_v E i) = 1000000
          · have t3' : w (12 * nI s + nI (rt_v E i)).toNatClampNeg < 0 := by rw [r2, t3, rt_en_far]; decide
            exact br_t t3' (ry_100 hs he0 hx3 (put hp (by omega) (by omega)))
          · have t3' : ¬ w (12 * nI s + nI (rt_v E i)).toNatClampNeg < 0 := by rw [r2, rt_en_lt t3]; exact nI_pos (by omega)
            refine br_f t3' ⟨rt_iny hs he0, ?_⟩
            refine pk_le (y' (rt_v E i)) (y' (rt_v B i) + rt_v L i) (fun hle => ry_104 hs he0 hx3 (keep (fun _ => hle))) (fun hlt => ry_100 hs he0 hx3 (put hp (by omega) hlt)) (r2.trans (rt_en_lt t3)) rfl
theorem ry_rounds {post : SY → Prop} {TH B E L LE0 : Nat → Int32} {s : Nat} {wo : Int32} {P : Nat → Prop} (hs : s < 12) (hB : rt_ok B 28 11) (hE : rt_ok E 28 11) (hL : rt_ok L 28 30) (hP : ∀ k, k < 28 → (P k ↔ (¬ TH k = 0 ∧ ¬ nI k = wo))) (hl1 : ∀ k, k < 28 → P k → 1 ≤ rt_v L k)
    (h : ∀ LE' d, rt_row LE' s d → rt_SS (rt_eP P B E L) s d → (∀ j, j < s * 12 ∨ s * 12 + 12 ≤ j → LE' j = LE0 j) → post (TH, B, E, L, LE')) : ∀ n LE y, rt_sum y 12 + 1 < n → rt_row LE s y → rt_YI (rt_eP P B E L) s y → (∀ j, j < s * 12 ∨ s * 12 + 12 ≤ j → LE j = LE0 j) → wY_measure_38 post (nI s) wo n 1 TH B E L LE := by
  intro n
  induction n with
  | zero => intro LE y hn; exfalso; omega
  | succ n ih =>
    intro LE y hn k1 k2 k3
    refine br_f rt_10 ?_
    refine ry_round hs hB hE hL hP hl1 k1 k2 (fun r LE' y' j1 j2 j3 j4 => ?_)
    have j5 : ∀ j, j < s * 12 ∨ s * 12 + 12 ≤ j → LE' j = LE0 j := fun j hj => (j3 j hj).trans (k3 j hj)
    rcases j4 with ⟨e, q⟩ | ⟨e, q⟩
    · subst e
      obtain ⟨m, rfl⟩ : ∃ m, n = m + 1 := ⟨n - 1, by omega⟩
      exact br_t rfl (h LE' y' j1 (rt_YI_end j2 q) j5)
    · subst e
      exact ih LE' y' (by omega) j1 j2 j5
theorem ry_measure {post : SY → Prop} {TH B E L LE : Nat → Int32} {s : Nat} {wo : Int32} {P : Nat → Prop} (hs : s < 12) (hB : rt_ok B 28 11) (hE : rt_ok E 28 11) (hL : rt_ok L 28 30) (hP : ∀ k, k < 28 → (P k ↔ (¬ TH k = 0 ∧ ¬ nI k = wo))) (hl1 : ∀ k, k < 28 → P k → 1 ≤ rt_v L k) {d : Nat → Nat} (hd : rt_SS (rt_eP P B E L) s d)
    (h : ∀ LE', rt_row LE' s d → (∀ j, j < s * 12 ∨ s * 12 + 12 ≤ j → LE' j = LE j) → post (TH, B, E, L, LE')) : wpY_measure post (TH, B, E, L, LE) (nI s) wo := by
  have N : rt_net (rt_eP P B E L) := rt_eP_net hB hE hl1
  refine loop_0 (fun n i (w : Nat → Int32) => wY_measure_2 post (nI s) wo n (nI i) TH B E L w) (fun i w => (∀ x, x < i → w (s * 12 + x) = if x = s then 0 else -3) ∧ ∀ j, j < s * 12 ∨ s * 12 + 12 ≤ j → w j = LE j) 12 LE ⟨fun x hx => by omega, fun j _ => rfl⟩ ?_ ?_
  · rintro n w ⟨i0, i1⟩
    refine pk_le 12 12 (fun _ => ?_) (fun h => by omega)
    refine ⟨rt_sum (fun x => if x = s then 0 else 1000000) 12 + 2, ?_⟩
    refine ry_rounds (LE0 := LE) hs hB hE hL hP hl1 (fun LE' d' j1 j2 j3 => ?_) _ w (fun x => if x = s then 0 else 1000000) (by omega) ?_ ?_ i1
    · refine h LE' (fun x hx => ?_) j3
      rw [j1 x hx, rt_SS_eq N j2 hd x hx]
    · intro x hx
      rw [i0 x hx]
      by_cases c : x = s
      · rw [if_pos c]; show 0 = rt_en (if x = s then 0 else 1000000); rw [if_pos c]; decide
      · rw [if_neg c]; show -3 = rt_en (if x = s then 0 else 1000000); rw [if_neg c]; decide
    · refine ⟨if_pos rfl, fun x hx => ?_, fun x hx c => Or.inl (if_neg c), fun x hx hf => ?_⟩
      · show (if x = s then 0 else 1000000) ≤ 1000000
        split <;> omega
      · have hf' : (if x = s then 0 else 1000000) < 1000000 := hf
        show (if x = s then 0 else 1000000) ≤ _
        by_cases c : x = s
        · rw [if_pos c]; exact Nat.zero_le _
        · rw [if_neg c] at hf'; omega
  · rintro n i w hi ⟨i0, i1⟩ ih
    refine pk_le 12 i (fun h => by omega) (fun _ => ?_)
    have go : ∀ v : Int32, v = (if i = s then 0 else -3) → wY_measure_2 post (nI s) wo n (nI (i + 1)) TH B E L (upd w (s * 12 + i) v) := by
      intro v hv
      refine ih _ ⟨fun x hx => ?_, fun j hj => ?_⟩
      · by_cases c : x = i
        · subst c; rw [pk_us]; exact hv
        · rw [pk_un (by omega)]; exact i0 x (by omega)
      · rw [pk_un (by omega)]; exact i1 j hj
    refine pk_eq s i (fun c => ⟨rt_iny hs hi, nm_r (e' := upd w (s * 12 + i) 0) (by rw [rt_cy hs hi]) (nm_r (nI_1 i) (go 0 (by rw [if_pos c.symm])))⟩) (fun c => ⟨rt_iny hs hi, nm_r (e' := upd w (s * 12 + i) (-3)) (by rw [rt_cy hs hi]) (nm_r (nI_1 i) (go (-3) (by rw [if_neg (fun z => c z.symm)])))⟩)
theorem ry_all {post : SY → Prop} {TH B E L LE : Nat → Int32} {P : Nat → Prop} (hB : rt_ok B 28 11) (hE : rt_ok E 28 11) (hL : rt_ok L 28 30) (hP : ∀ k, k < 28 → (P k ↔ (¬ TH k = 0 ∧ ¬ nI k = -1))) (hl1 : ∀ k, k < 28 → P k → 1 ≤ rt_v L k) {D : Nat → Nat → Nat} (hD : rt_AP (rt_eP P B E L) D)
    (h : ∀ LE', (∀ s, s < 12 → rt_row LE' s (D s)) → post (TH, B, E, L, LE')) : wpY_measureAll post (TH, B, E, L, LE) := by
  refine loop_0 (fun n i (w : Nat → Int32) => wY_measureAll_2 post n (nI i) TH B E L w) (fun i w => ∀ s, s < i → rt_row w s (D s)) 12 LE (fun s hs => by omega) ?_ ?_
  · intro n w i0
    exact pk_le 12 12 (fun _ => h w i0) (fun h => by omega)
  · intro n i w hi i0 ih
    refine pk_le 12 i (fun h => by omega) (fun _ => ?_)
    refine ry_measure hi hB hE hL hP hl1 (hD i hi) (fun LE' j0 j1 => nm_r (nI_1 i) ?_)
    refine ih LE' (fun s hs => ?_)
    by_cases c : s = i
    · subst c; exact j0
    · intro x hx
      rw [j1 _ (by omega)]
      exact i0 s (by omega) x hx
theorem ry_way {post : Int32 → Prop} {TH B E L LE : Nat → Int32} {s t : Nat} {x : Int32} (hs : s < 12) (ht : t < 12) (e : LE (s * 12 + t) = x) (h : post x) : wpY_way post (TH, B, E, L, LE) (nI s) (nI t) := by
  refine ⟨rt_iny hs ht, ?_⟩
  rw [rt_cy hs ht, e]; exact h
