/-! walks: table, marks, climb prepared -/
def rt_N (f : Int32) (B E L : Nat → Int32) : Prop := rt_ok B 28 11 ∧ rt_ok E 28 11 ∧ rt_ok L 28 30 ∧ ∀ k, k < 28 → rt_b f k → 1 ≤ rt_v L k
theorem rt_N_net {f : Int32} {B E L : Nat → Int32} (h : rt_N f B E L) : rt_net (rt_eP (rt_b f) B E L) := rt_eP_net h.1 h.2.1 h.2.2.2
def rt_LR (e : Nat → Nat → Nat → Prop) (T : Nat → Nat → Nat) : Prop :=
  (∀ a, a < 12 → T a a = 0) ∧ (∀ a b l, e a b l → T a b ≤ l) ∧ (∀ a b, a < 12 → b < 12 → a ≠ b → T a b = 1000000 ∨ ∃ l, e a b l ∧ l ≤ 30 ∧ T a b = l)
theorem rt_LR_FW {e : Nat → Nat → Nat → Prop} {T : Nat → Nat → Nat} (N : rt_net e) (h : rt_LR e T) : rt_FW e 0 T := by
  obtain ⟨h1, h2, h3⟩ := h
  refine ⟨h1, ?_, h2, ?_, ?_, fun q a b hq => by omega, ?_⟩
  · intro a b ha hb
    by_cases c : a = b
    · subst c; have := h1 a ha; omega
    · rcases h3 a b ha hb c with w | ⟨l, w, w2, w3⟩ <;> omega
  · intro a b ha hb c
    rcases h3 a b ha hb c with w | ⟨l, w, w2, w3⟩
    · omega
    · have := (N a b l w).2.2
      omega
  · intro a b ha hb c
    rcases h3 a b ha hb c with w | ⟨l, w, w2, w3⟩
    · exact Or.inl w
    · exact Or.inr (Or.inl ⟨l, w, by omega⟩)
  · intro a b ha hb hf
    by_cases c : a = b
    · subst c; have := h1 a ha; omega
    · rcases h3 a b ha hb c with w | ⟨l, w, w2, w3⟩ <;> omega
theorem rt_LR_CL {e : Nat → Nat → Nat → Prop} {D T : Nat → Nat → Nat} (N : rt_net e) (hD : rt_AP e D) (h : rt_LR e T) : rt_CL e D 0 T := by
  have hF := rt_LR_FW N h
  obtain ⟨h1, h2, h3⟩ := h
  refine ⟨h1, hF.2.1, h2, ?_, fun q a b hq => by omega, ?_⟩
  · intro a b ha hb c
    rcases h3 a b ha hb c with w | ⟨l, w, w2, w3⟩
    · exact Or.inl w
    · exact Or.inr (Or.inl ⟨l, w, by omega⟩)
  · intro a b ha hb
    by_cases c : a = b
    · subst c; have := (hD a ha).1; omega
    · rcases h3 a b ha hb c with w | ⟨l, w, w2, w3⟩
      · have := (hD a ha).2.1 b hb; omega
      · have := rt_el N hD w; omega
def rt_st (lo p : Nat) (T : Nat → Nat → Nat) (a b : Nat) : Nat := if lo ≤ a ∧ lo ≤ b then min (T a b) (T a p + T p b) else T a b
theorem rt_st_c {lo p : Nat} {T : Nat → Nat → Nat} (h : lo ≤ p → T p p = 0) (x : Nat) : rt_st lo p T x p = T x p := by
  unfold rt_st
  by_cases c : lo ≤ x ∧ lo ≤ p
  · have := h c.2
    rw [if_pos c]; omega
  · rw [if_neg c]
theorem rt_st_r {lo p : Nat} {T : Nat → Nat → Nat} (h : lo ≤ p → T p p = 0) (y : Nat) : rt_st lo p T p y = T p y := by
  unfold rt_st
  by_cases c : lo ≤ p ∧ lo ≤ y
  · have := h c.1
    rw [if_pos c]; omega
  · rw [if_neg c]
theorem rx_lay_table {post : SX → Prop} {f : Int32} {B E L T MF MT C HT HF FL SG bs st up dn : Nat → Int32} (HN : rt_N f B E L) (h : ∀ w, rt_ok w 144 1000000 → rt_LR (rt_eP (rt_b f) B E L) (rt_t w) → post (f, B, E, L, w, MF, MT, C, HT, HF, FL, SG, bs, st, up, dn)) : wpX_layRoads__table post (f, B, E, L, T, MF, MT, C, HT, HF, FL, SG, bs, st, up, dn) := by
  obtain ⟨hB, hE, hL, h1⟩ := HN
  refine loop_0 (fun n i (w : Nat → Int32) => wX_layRoads__table_2 post f n (nI i) B E L w MF MT C HT HF FL SG bs st up dn) (fun i w => ∀ j, j < i → w j = nI 1000000) 144 T ?_ ?_ ?_
  · intro j hj; omega
  · intro n w0 hw0
    have ok0 : rt_ok w0 144 1000000 := rt_okI (by decide) (fun j hj => ⟨1000000, by omega, hw0 j hj⟩)
    refine pk_le 144 144 (fun _ => ?_) (fun h => by omega)
    refine loop_0 (fun n i (w : Nat → Int32) => wX_layRoads__table_22 post f n (nI i) B E L w MF MT C HT HF FL SG bs st up dn) (fun i w => rt_ok w 144 1000000 ∧ ∀ a b, a < 12 → b < 12 → rt_t w a b = if a = b ∧ a < i then 0 else 1000000) 12 w0 ?_ ?_ ?_
    · refine ⟨ok0, fun a b ha hb => ?_⟩
      rw [if_neg (by omega)]
      exact rt_v_of (hw0 _ (by omega)) (by decide)
    · rintro n w1 ⟨ok1, hw1⟩
      refine pk_le 12 12 (fun _ => ?_) (fun h => by omega)
      refine loop_0 (fun n i (w : Nat → Int32) => wX_layRoads__table_45 post f n (nI i) B E L w MF MT C HT HF FL SG bs st up dn) (fun i w => rt_ok w 144 1000000 ∧ (∀ a, a < 12 → rt_t w a a = 0) ∧ (∀ k, k < i → rt_b f k → rt_t w (rt_v B k) (rt_v E k) ≤ rt_v L k) ∧ (∀ a b, a < 12 → b < 12 → a ≠ b → rt_t w a b = 1000000 ∨ ∃ k, k < 28 ∧ rt_b f k ∧ rt_v B k = a ∧ rt_v E k = b ∧ rt_t w a b = rt_v L k)) 28 w1 ?_ ?_ ?_
      · refine ⟨ok1, fun a ha => ?_, fun k hk => by omega, fun a b ha hb c => Or.inl ?_⟩
        · rw [hw1 a a ha ha, if_pos ⟨rfl, ha⟩]
        · rw [hw1 a b ha hb, if_neg (by omega)]
      · rintro n w ⟨i0, i1, i2, i3⟩
        refine pk_le 28 28 (fun _ => ?_) (fun h => by omega)
        refine h w i0 ⟨i1, ?_, ?_⟩
        · rintro a b l ⟨k, hk, hk1, hk2, hk3, hk4⟩
          have := i2 k hk hk1
          rw [hk2, hk3, hk4] at this; exact this
        · intro a b ha hb c
          rcases i3 a b ha hb c with z | ⟨k, hk, hk1, hk2, hk3, hk4⟩
          · exact Or.inl z
          · exact Or.inr ⟨rt_v L k, ⟨k, hk, hk1, hk2, hk3, rfl⟩, (hL k hk).2, hk4⟩
      · rintro n i w hi ⟨i0, i1, i2, i3⟩ ih
        have hx := hB i hi
        have hy := hE i hi
        have hl := hL i hi
        have hx2 : rt_v B i < 12 := by omega
        have hy2 : rt_v E i < 12 := by omega
        have hw := (rt_tok i0 hx2 hy2).2
        refine pk_le 28 i (fun h => by omega) (fun _ => ⟨vp_in_nI hi (by omega), vp_in_nI hi (by omega), nm_r (e' := nI (rt_v B i) * 12 + nI (rt_v E i)) (by rw [rt_rd hB hi, rt_rd hE hi]) ?_⟩)
        refine rx_isRoad hi (fun hb => br_f rt_10 ⟨vp_in_nI hi (by omega), rt_inx hx2 hy2, ?_⟩) (fun hb => br_t rfl (nm_r (nI_1 i) ?_))
        · refine pk_le (rt_t w (rt_v B i) (rt_v E i)) (rt_v L i) (fun hle => nm_r (nI_1 i) ?_) (fun hlt => ⟨vp_in_nI hi (by omega), rt_inx hx2 hy2, nm_r (rt_ucx hx2 hy2 (rt_rd hL hi)) (nm_r (nI_1 i) ?_)⟩) (rt_rdx i0 hx2 hy2) (rt_rd hL hi)
          · refine ih w ⟨i0, i1, fun k hk hk1 => ?_, i3⟩
            by_cases ck : k = i
            · subst ck; exact hle
            · exact i2 k (by omega) hk1
          · refine ih _ ⟨rt_oku i0 (by omega) (by decide), fun a ha => ?_, fun k hk hk1 => ?_, fun a b ha hb' c => ?_⟩
            · rw [rt_tu (by omega) hy2 a a ha]
              by_cases cx : a = rt_v B i ∧ a = rt_v E i
              · exfalso
                have := i1 a ha
                rw [← cx.1, ← cx.2] at hlt
                omega
              · rw [if_neg cx]; exact i1 a ha
            · have hk28 : k < 28 := by omega
              have q1 := (hE k hk28).2
              rw [rt_tu (by omega) hy2 _ _ (by omega)]
              by_cases cx : rt_v B k = rt_v B i ∧ rt_v E k = rt_v E i
              · rw [if_pos cx]
                by_cases ck : k = i
                · subst ck; exact Nat.le_refl _
                · have := i2 k (by omega) hk1
                  rw [cx.1, cx.2] at this
                  omega
              · rw [if_neg cx]
                by_cases ck : k = i
                · subst ck; exact absurd ⟨rfl, rfl⟩ cx
                · exact i2 k (by omega) hk1
            · rw [rt_tu (by omega) hy2 a b hb']
              by_cases cx : a = rt_v B i ∧ b = rt_v E i
              · rw [if_pos cx]
                exact Or.inr ⟨i, hi, hb, cx.1.symm, cx.2.symm, rfl⟩
              · rw [if_neg cx]; exact i3 a b ha hb' c
        · refine ih w ⟨i0, i1, fun k hk hk1 => ?_, i3⟩
          by_cases ck : k = i
          · subst ck; exact absurd hk1 hb
          · exact i2 k (by omega) hk1
    · rintro n i w hi ⟨i0, i1⟩ ih
      refine pk_le 12 i (fun h => by omega) (fun _ => ⟨rt_inx hi hi, nm_r (rt_ucx hi hi (y := nI 0)) (nm_r (nI_1 i) ?_)⟩)
      refine ih _ ⟨rt_oku i0 (by omega) (by decide), fun a b ha hb => ?_⟩
      rw [rt_tu (by decide) hi a b hb, i1 a b ha hb]
      by_cases c : a = i ∧ b = i
      · rw [if_pos c, if_pos (by omega)]
      · rw [if_neg c]
        by_cases c2 : a = b ∧ a < i
        · rw [if_pos c2, if_pos (by omega)]
        · rw [if_neg c2, if_neg (by omega)]
  · intro n i w hi hw ih
    refine pk_le 144 i (fun h => by omega) (fun _ => ⟨vp_in_nI hi (by omega), nm_r (rt_uc (y := nI 1000000) (by omega)) (nm_r (nI_1 i) ?_)⟩)
    refine ih _ (fun j hj => ?_)
    by_cases c : j = i
    · subst c; exact pk_us
    · exact (pk_un c).trans (hw j (by omega))
theorem rx_short_table {post : SX → Prop} {f : Int32} {B E L T MF MT C HT HF FL SG bs st up dn : Nat → Int32} {p lo : Nat} {x : Int32} (hx : x = nI lo) (hp : p < 12) (hlo : lo ≤ 12) (ok : rt_ok T 144 1000000) (hpp : lo ≤ p → rt_t T p p = 0) (h : ∀ w, rt_ok w 144 1000000 → (∀ a b, a < 12 → b < 12 → rt_t w a b = rt_st lo p (rt_t T) a b) → post (f, B, E, L, w, MF, MT, C, HT, HF, FL, SG, bs, st, up, dn)) : wpX_shortenOver__table post (f, B, E, L, T, MF, MT, C, HT, HF, FL, SG, bs, st, up, dn) (nI p) x := by
  subst hx
  refine pk_loop (fun n i (w : Nat → Int32) => wX_shortenOver__table_3 post (nI p) (nI lo) f n (nI i) B E L w MF MT C HT HF FL SG bs st up dn) (fun i w => lo ≤ i ∧ rt_ok w 144 1000000 ∧ ∀ a b, a < 12 → b < 12 → rt_t w a b = if a < i then rt_st lo p (rt_t T) a b else rt_t T a b) 12 lo T hlo ?_ ?_ ?_
  · refine ⟨Nat.le_refl _, ok, fun a b ha hb => ?_⟩
    by_cases c : a < lo
    · rw [if_pos c]; unfold rt_st; rw [if_neg (by omega)]
    · rw [if_neg c]
  · rintro n w ⟨_, i0, i1⟩
    refine pk_le 12 12 (fun _ => ?_) (fun h => by omega)
    refine h w i0 (fun a b ha hb => ?_)
    rw [i1 a b ha hb, if_pos ha]
  · rintro n i w hi ⟨hli, i0, i1⟩ ih
    refine pk_le 12 i (fun h => by omega) (fun _ => ?_)
    refine pk_loop (fun m j (w : Nat → Int32) => wX_shortenOver__table_13 post (wX_shortenOver__table_3 post (nI p) (nI lo) f n) (nI p) (nI lo) (nI i) f m (nI j) B E L w MF MT C HT HF FL SG bs st up dn) (fun j w => lo ≤ j ∧ rt_ok w 144 1000000 ∧ ∀ a b, a < 12 → b < 12 → rt_t w a b = if a < i ∨ (a = i ∧ b < j) then rt_st lo p (rt_t T) a b else rt_t T a b) 12 lo w hlo ?_ ?_ ?_
    · refine ⟨Nat.le_refl _, i0, fun a b ha hb => ?_⟩
      rw [i1 a b ha hb]
      by_cases c : a < i
      · rw [if_pos c, if_pos (Or.inl c)]
      · rw [if_neg c]
        by_cases c2 : a < i ∨ (a = i ∧ b < lo)
        · rw [if_pos c2]; unfold rt_st; rw [if_neg (by omega)]
        · rw [if_neg c2]
    · rintro m w2 ⟨_, j0, j1⟩
      refine pk_le 12 12 (fun _ => nm_r (nI_1 i) ?_) (fun h => by omega)
      refine ih w2 ⟨by omega, j0, fun a b ha hb => ?_⟩
      rw [j1 a b ha hb]
      by_cases c : a < i + 1
      · rw [if_pos c, if_pos (by omega)]
      · rw [if_neg c, if_neg (by omega)]
    · rintro m j w2 hj ⟨hlj, j0, j1⟩ ih2
      have r1 : rt_t w2 i p = rt_t T i p := by
        rw [j1 i p hi hp]; split
        · exact rt_st_c hpp i
        · rfl
      have r2 : rt_t w2 p j = rt_t T p j := by
        rw [j1 p j hp hj]; split
        · exact rt_st_r hpp j
        · rfl
      have r3 : rt_t w2 i j = rt_t T i j := by rw [j1 i j hi hj, if_neg (by omega)]
      have b1 := (rt_tok ok hi hp).2
      have b2 := (rt_tok ok hp hj).2
      have b3 := (rt_tok ok hi hj).2
      have es : rt_st lo p (rt_t T) i j = min (rt_t T i j) (rt_t T i p + rt_t T p j) := by
        unfold rt_st; rw [if_pos ⟨hli, hlj⟩]
      refine pk_le 12 j (fun h => by omega) (fun _ => ⟨rt_inx hi hp, rt_inx hp hj, nm_r (e' := nI (rt_t T i p + rt_t T p j)) (by rw [rt_rdx j0 hi hp, rt_rdx j0 hp hj, r1, r2, nI_add]) ⟨rt_inx hi hj, ?_⟩⟩)
      refine pk_le (rt_t T i j) (rt_t T i p + rt_t T p j) (fun hle => nm_r (nI_1 j) ?_) (fun hlt => ⟨rt_inx hi hj, nm_r (rt_ucx hi hj) (nm_r (nI_1 j) ?_)⟩) (by rw [rt_rdx j0 hi hj, r3]) rfl
      · refine ih2 w2 ⟨by omega, j0, fun a b ha hb => ?_⟩
        rw [j1 a b ha hb]
        by_cases c : a = i ∧ b = j
        · obtain ⟨c1, c2⟩ := c
          subst c1; subst c2
          rw [if_neg (by omega), if_pos (by omega), es]; omega
        · by_cases c2 : a < i ∨ (a = i ∧ b < j)
          · rw [if_pos c2, if_pos (by omega)]
          · rw [if_neg c2, if_neg (by omega)]
      · refine ih2 _ ⟨by omega, rt_oku j0 (by omega) (by decide), fun a b ha hb => ?_⟩
        rw [rt_tu (by omega) hj a b hb]
        by_cases c : a = i ∧ b = j
        · rw [if_pos c]
          obtain ⟨c1, c2⟩ := c
          subst c1; subst c2
          rw [if_pos (by omega), es]; omega
        · rw [if_neg c, j1 a b ha hb]
          by_cases c2 : a < i ∨ (a = i ∧ b < j)
          · rw [if_pos c2, if_pos (by omega)]
          · rw [if_neg c2, if_neg (by omega)]
theorem rx_lay_climb {post : SX → Prop} {f : Int32} {B E L T MF MT C HT HF FL SG bs st up dn : Nat → Int32} (HN : rt_N f B E L) (h : ∀ w, rt_ok w 144 1000000 → rt_LR (rt_eP (rt_b f) B E L) (rt_t w) → post (f, B, E, L, T, MF, MT, w, HT, HF, FL, SG, bs, st, up, dn)) : wpX_layRoads__climb post (f, B, E, L, T, MF, MT, C, HT, HF, FL, SG, bs, st, up, dn) := by
  obtain ⟨hB, hE, hL, h1⟩ := HN
  refine loop_0 (fun n i (w : Nat → Int32) => wX_layRoads__climb_2 post f n (nI i) B E L T MF MT w HT HF FL SG bs st up dn) (fun i w => ∀ j, j < i → w j = nI 1000000) 144 C ?_ ?_ ?_
  · intro j hj; omega
  · intro n w0 hw0
    have ok0 : rt_ok w0 144 1000000 := rt_okI (by decide) (fun j hj => ⟨1000000, by omega, hw0 j hj⟩)
    refine pk_le 144 144 (fun _ => ?_) (fun h => by omega)
    refine loop_0 (fun n i (w : Nat → Int32) => wX_layRoads__climb_22 post f n (nI i) B E L T MF MT w HT HF FL SG bs st up dn) (fun i w => rt_ok w 144 1000000 ∧ ∀ a b, a < 12 → b < 12 → rt_t w a b = if a = b ∧ a < i then 0 else 1000000) 12 w0 ?_ ?_ ?_
    · refine ⟨ok0, fun a b ha hb => ?_⟩
      rw [if_neg (by omega)]
      exact rt_v_of (hw0 _ (by omega)) (by decide)
    · rintro n w1 ⟨ok1, hw1⟩
      refine pk_le 12 12 (fun _ => ?_) (fun h => by omega)
      refine loop_0 (fun n i (w : Nat → Int32) => wX_layRoads__climb_45 post f n (nI i) B E L T MF MT w HT HF FL SG bs st up dn) (fun i w => rt_ok w 144 1000000 ∧ (∀ a, a < 12 → rt_t w a a = 0) ∧ (∀ k, k < i → rt_b f k → rt_t w (rt_v B k) (rt_v E k) ≤ rt_v L k) ∧ (∀ a b, a < 12 → b < 12 → a ≠ b → rt_t w a b = 1000000 ∨ ∃ k, k < 28 ∧ rt_b f k ∧ rt_v B k = a ∧ rt_v E k = b ∧ rt_t w a b = rt_v L k)) 28 w1 ?_ ?_ ?_
      · refine ⟨ok1, fun a ha => ?_, fun k hk => by omega, fun a b ha hb c => Or.inl ?_⟩
        · rw [hw1 a a ha ha, if_pos ⟨rfl, ha⟩]
        · rw [hw1 a b ha hb, if_neg (by omega)]
      · rintro n w ⟨i0, i1, i2, i3⟩
        refine pk_le 28 28 (fun _ => ?_) (fun h => by omega)
        refine h w i0 ⟨i1, ?_, ?_⟩
        · rintro a b l ⟨k, hk, hk1, hk2, hk3, hk4⟩
          have := i2 k hk hk1
          rw [hk2, hk3, hk4] at this; exact this
        · intro a b ha hb c
          rcases i3 a b ha hb c with z | ⟨k, hk, hk1, hk2, hk3, hk4⟩
          · exact Or.inl z
          · exact Or.inr ⟨rt_v L k, ⟨k, hk, hk1, hk2, hk3, rfl⟩, (hL k hk).2, hk4⟩
      · rintro n i w hi ⟨i0, i1, i2, i3⟩ ih
        have hx := hB i hi
        have hy := hE i hi
        have hl := hL i hi
        have hx2 : rt_v B i < 12 := by omega
        have hy2 : rt_v E i < 12 := by omega
        have hw := (rt_tok i0 hx2 hy2).2
        refine pk_le 28 i (fun h => by omega) (fun _ => ⟨vp_in_nI hi (by omega), vp_in_nI hi (by omega), nm_r (e' := nI (rt_v B i) * 12 + nI (rt_v E i)) (by rw [rt_rd hB hi, rt_rd hE hi]) ?_⟩)
        refine rx_isRoad hi (fun hb => br_f rt_10 ⟨vp_in_nI hi (by omega), rt_inx hx2 hy2, ?_⟩) (fun hb => br_t rfl (nm_r (nI_1 i) ?_))
        · refine pk_le (rt_t w (rt_v B i) (rt_v E i)) (rt_v L i) (fun hle => nm_r (nI_1 i) ?_) (fun hlt => ⟨vp_in_nI hi (by omega), rt_inx hx2 hy2, nm_r (rt_ucx hx2 hy2 (rt_rd hL hi)) (nm_r (nI_1 i) ?_)⟩) (rt_rdx i0 hx2 hy2) (rt_rd hL hi)
          · refine ih w ⟨i0, i1, fun k hk hk1 => ?_, i3⟩
            by_cases ck : k = i
            · subst ck; exact hle
            · exact i2 k (by omega) hk1
          · refine ih _ ⟨rt_oku i0 (by omega) (by decide), fun a ha => ?_, fun k hk hk1 => ?_, fun a b ha hb' c => ?_⟩
            · rw [rt_tu (by omega) hy2 a a ha]
              by_cases cx : a = rt_v B i ∧ a = rt_v E i
              · exfalso
                have := i1 a ha
                rw [← cx.1, ← cx.2] at hlt
                omega
              · rw [if_neg cx]; exact i1 a ha
            · have hk28 : k < 28 := by omega
              have q1 := (hE k hk28).2
              rw [rt_tu (by omega) hy2 _ _ (by omega)]
              by_cases cx : rt_v B k = rt_v B i ∧ rt_v E k = rt_v E i
              · rw [if_pos cx]
                by_cases ck : k = i
                · subst ck; exact Nat.le_refl _
                · have := i2 k (by omega) hk1
                  rw [cx.1, cx.2] at this
                  omega
              · rw [if_neg cx]
                by_cases ck : k = i
                · subst ck; exact absurd ⟨rfl, rfl⟩ cx
                · exact i2 k (by omega) hk1
            · rw [rt_tu (by omega) hy2 a b hb']
              by_cases cx : a = rt_v B i ∧ b = rt_v E i
              · rw [if_pos cx]
                exact Or.inr ⟨i, hi, hb, cx.1.symm, cx.2.symm, rfl⟩
              · rw [if_neg cx]; exact i3 a b ha hb' c
        · refine ih w ⟨i0, i1, fun k hk hk1 => ?_, i3⟩
          by_cases ck : k = i
          · subst ck; exact absurd hk1 hb
          · exact i2 k (by omega) hk1
    · rintro n i w hi ⟨i0, i1⟩ ih
      refine pk_le 12 i (fun h => by omega) (fun _ => ⟨rt_inx hi hi, nm_r (rt_ucx hi hi (y := nI 0)) (nm_r (nI_1 i) ?_)⟩)
      refine ih _ ⟨rt_oku i0 (by omega) (by decide), fun a b ha hb => ?_⟩
      rw [rt_tu (by decide) hi a b hb, i1 a b ha hb]
      by_cases c : a = i ∧ b = i
      · rw [if_pos c, if_pos (by omega)]
      · rw [if_neg c]
        by_cases c2 : a = b ∧ a < i
        · rw [if_pos c2, if_pos (by omega)]
        · rw [if_neg c2, if_neg (by omega)]
  · intro n i w hi hw ih
    refine pk_le 144 i (fun h => by omega) (fun _ => ⟨vp_in_nI hi (by omega), nm_r (rt_uc (y := nI 1000000) (by omega)) (nm_r (nI_1 i) ?_)⟩)
    refine ih _ (fun j hj => ?_)
    by_cases c : j = i
    · subst c; exact pk_us
    · exact (pk_un c).trans (hw j (by omega))
theorem rx_short_climb {post : SX → Prop} {f : Int32} {B E L T MF MT C HT HF FL SG bs st up dn : Nat → Int32} {p lo : Nat} {x : Int32} (hx : x = nI lo) (hp : p < 12) (hlo : lo ≤ 12) (ok : rt_ok C 144 1000000) (hpp : lo ≤ p → rt_t C p p = 0) (h : ∀ w, rt_ok w 144 1000000 → (∀ a b, a < 12 → b < 12 → rt_t w a b = rt_st lo p (rt_t C) a b) → post (f, B, E, L, T, MF, MT, w, HT, HF, FL, SG, bs, st, up, dn)) : wpX_shortenOver__climb post (f, B, E, L, T, MF, MT, C, HT, HF, FL, SG, bs, st, up, dn) (nI p) x := by
  subst hx
  refine pk_loop (fun n i (w : Nat → Int32) => wX_shortenOver__climb_3 post (nI p) (nI lo) f n (nI i) B E L T MF MT w HT HF FL SG bs st up dn) (fun i w => lo ≤ i ∧ rt_ok w 144 1000000 ∧ ∀ a b, a < 12 → b < 12 → rt_t w a b = if a < i then rt_st lo p (rt_t C) a b else rt_t C a b) 12 lo C hlo ?_ ?_ ?_
  · refine ⟨Nat.le_refl _, ok, fun a b ha hb => ?_⟩
    by_cases c : a < lo
    · rw [if_pos c]; unfold rt_st; rw [if_neg (by omega)]
    · rw [if_neg c]
  · rintro n w ⟨_, i0, i1⟩
    refine pk_le 12 12 (fun _ => ?_) (fun h => by omega)
    refine h w i0 (fun a b ha hb => ?_)
    rw [i1 a b ha hb, if_pos ha]
  · rintro n i w hi ⟨hli, i0, i1⟩ ih
    refine pk_le 12 i (fun h => by omega) (fun _ => ?_)
    refine pk_loop (fun m j (w : Nat → Int32) => wX_shortenOver__climb_13 post (wX_shortenOver__climb_3 post (nI p) (nI lo) f n) (nI p) (nI lo) (nI i) f m (nI j) B E L T MF MT w HT HF FL SG bs st up dn) (fun j w => lo ≤ j ∧ rt_ok w 144 1000000 ∧ ∀ a b, a < 12 → b < 12 → rt_t w a b = if a < i ∨ (a = i ∧ b < j) then rt_st lo p (rt_t C) a b else rt_t C a b) 12 lo w hlo ?_ ?_ ?_
    · refine ⟨Nat.le_refl _, i0, fun a b ha hb => ?_⟩
      rw [i1 a b ha hb]
      by_cases c : a < i
      · rw [if_pos c, if_pos (Or.inl c)]
      · rw [if_neg c]
        by_cases c2 : a < i ∨ (a = i ∧ b < lo)
        · rw [if_pos c2]; unfold rt_st; rw [if_neg (by omega)]
        · rw [if_neg c2]
    · rintro m w2 ⟨_, j0, j1⟩
      refine pk_le 12 12 (fun _ => nm_r (nI_1 i) ?_) (fun h => by omega)
      refine ih w2 ⟨by omega, j0, fun a b ha hb => ?_⟩
      rw [j1 a b ha hb]
      by_cases c : a < i + 1
      · rw [if_pos c, if_pos (by omega)]
      · rw [if_neg c, if_neg (by omega)]
    · rintro m j w2 hj ⟨hlj, j0, j1⟩ ih2
      have r1 : rt_t w2 i p = rt_t C i p := by
        rw [j1 i p hi hp]; split
        · exact rt_st_c hpp i
        · rfl
      have r2 : rt_t w2 p j = rt_t C p j := by
        rw [j1 p j hp hj]; split
        · exact rt_st_r hpp j
        · rfl
      have r3 : rt_t w2 i j = rt_t C i j := by rw [j1 i j hi hj, if_neg (by omega)]
      have b1 := (rt_tok ok hi hp).2
      have b2 := (rt_tok ok hp hj).2
      have b3 := (rt_tok ok hi hj).2
      have es : rt_st lo p (rt_t C) i j = min (rt_t C i j) (rt_t C i p + rt_t C p j) := by
        unfold rt_st; rw [if_pos ⟨hli, hlj⟩]
      refine pk_le 12 j (fun h => by omega) (fun _ => ⟨rt_inx hi hp, rt_inx hp hj, nm_r (e' := nI (rt_t C i p + rt_t C p j)) (by rw [rt_rdx j0 hi hp, rt_rdx j0 hp hj, r1, r2, nI_add]) ⟨rt_inx hi hj, ?_⟩⟩)
      refine pk_le (rt_t C i j) (rt_t C i p + rt_t C p j) (fun hle => nm_r (nI_1 j) ?_) (fun hlt => ⟨rt_inx hi hj, nm_r (rt_ucx hi hj) (nm_r (nI_1 j) ?_)⟩) (by rw [rt_rdx j0 hi hj, r3]) rfl
      · refine ih2 w2 ⟨by omega, j0, fun a b ha hb => ?_⟩
        rw [j1 a b ha hb]
        by_cases c : a = i ∧ b = j
        · obtain ⟨c1, c2⟩ := c
          subst c1; subst c2
          rw [if_neg (by omega), if_pos (by omega), es]; omega
        · by_cases c2 : a < i ∨ (a = i ∧ b < j)
          · rw [if_pos c2, if_pos (by omega)]
          · rw [if_neg c2, if_neg (by omega)]
      · refine ih2 _ ⟨by omega, rt_oku j0 (by omega) (by decide), fun a b ha hb => ?_⟩
        rw [rt_tu (by omega) hj a b hb]
        by_cases c : a = i ∧ b = j
        · rw [if_pos c]
          obtain ⟨c1, c2⟩ := c
          subst c1; subst c2
          rw [if_pos (by omega), es]; omega
        · rw [if_neg c, j1 a b ha hb]
          by_cases c2 : a < i ∨ (a = i ∧ b < j)
          · rw [if_pos c2, if_pos (by omega)]
          · rw [if_neg c2, if_neg (by omega)]
theorem rx_prepTable {post : SX → Prop} {f : Int32} {B E L T MF MT C HT HF FL SG bs st up dn : Nat → Int32} (HN : rt_N f B E L) (h : ∀ w, rt_ok w 144 1000000 → rt_FW (rt_eP (rt_b f) B E L) 12 (rt_t w) → post (f, B, E, L, w, MF, MT, C, HT, HF, FL, SG, bs, st, up, dn)) : wpX_prepareTable post (f, B, E, L, T, MF, MT, C, HT, HF, FL, SG, bs, st, up, dn) := by
  have N := rt_N_net HN
  unfold wpX_prepareTable
  refine rx_lay_table HN (fun w0 ok0 l0 => ?_)
  refine loop_0 (fun n i (w : Nat → Int32) => wX_prepareTable_10 post n (nI i) f B E L w MF MT C HT HF FL SG bs st up dn) (fun i w => rt_ok w 144 1000000 ∧ rt_FW (rt_eP (rt_b f) B E L) i (rt_t w)) 12 w0 ⟨ok0, rt_LR_FW N l0⟩ ?_ ?_
  · rintro n w ⟨i0, i1⟩
    exact pk_le 12 12 (fun _ => h w i0 i1) (fun h => by omega)
  · rintro n i w hi ⟨i0, i1⟩ ih
    refine pk_le 12 i (fun h => by omega) (fun _ => ?_)
    refine rx_short_table (lo := 0) rfl hi (by omega) i0 (fun _ => i1.1 i hi) (fun w' j0 j1 => nm_r (nI_1 i) ?_)
    refine ih w' ⟨j0, rt_FW_step N hi i1 (fun a b ha hb => ?_)⟩
    rw [j1 a b ha hb]; unfold rt_st; rw [if_pos ⟨Nat.zero_le _, Nat.zero_le _⟩]
theorem rx_prepClimb {post : SX → Prop} {f : Int32} {B E L T MF MT C HT HF FL SG bs st up dn : Nat → Int32} (HN : rt_N f B E L) {D : Nat → Nat → Nat} (hD : rt_AP (rt_eP (rt_b f) B E L) D) (h : ∀ w, rt_ok w 144 1000000 → rt_CL (rt_eP (rt_b f) B E L) D 12 (rt_t w) → post (f, B, E, L, T, MF, MT, w, HT, HF, FL, SG, bs, st, up, dn)) : wpX_prepareClimb post (f, B, E, L, T, MF, MT, C, HT, HF, FL, SG, bs, st, up, dn) := by
  have N := rt_N_net HN
  unfold wpX_prepareClimb
  refine rx_lay_climb HN (fun w0 ok0 l0 => ?_)
  refine loop_0 (fun n i (w : Nat → Int32) => wX_prepareClimb_10 post n (nI i) f B E L T MF MT w HT HF FL SG bs st up dn) (fun i w => rt_ok w 144 1000000 ∧ rt_CL (rt_eP (rt_b f) B E L) D i (rt_t w)) 12 w0 ⟨ok0, rt_LR_CL N hD l0⟩ ?_ ?_
  · rintro n w ⟨i0, i1⟩
    exact pk_le 12 12 (fun _ => h w i0 i1) (fun h => by omega)
  · rintro n i w hi ⟨i0, i1⟩ ih
    refine pk_le 12 i (fun h => by omega) (fun _ => ?_)
    refine rx_short_climb (lo := i + 1) (nI_1 i) hi (by omega) i0 (fun _ => i1.1 i hi) (fun w' j0 j1 => nm_r (nI_1 i) ?_)
    refine ih w' ⟨j0, rt_CL_step N hD hi i1 (fun a b ha hb => ?_)⟩
    rw [j1 a b ha hb]; rfl
theorem rx_keep_fromMark {post : SX → Prop} {f : Int32} {B E L T MF MT C HT HF FL SG bs st up dn : Nat → Int32} {r : Nat} (hr : r < 3) (h : ∀ w, (∀ x, x < 12 → w (r * 12 + x) = bs x) → (∀ j, j < r * 12 → w j = MF j) → post (f, B, E, L, T, w, MT, C, HT, HF, FL, SG, bs, st, up, dn)) : wpX_keepBest__fromMark post (f, B, E, L, T, MF, MT, C, HT, HF, FL, SG, bs, st, up, dn) (nI r) := by
  refine loop_0 (fun n i (w : Nat → Int32) => wX_keepBest__fromMark_2 post (nI r) f n (nI i) B E L T w MT C HT HF FL SG bs st up dn) (fun i w => (∀ x, x < i → w (r * 12 + x) = bs x) ∧ (∀ j, j < r * 12 → w j = MF j)) 12 MF ⟨fun x hx => by omega, fun j _ => rfl⟩ ?_ ?_
  · rintro n w ⟨i0, i1⟩
    exact pk_le 12 12 (fun _ => h w i0 i1) (fun h => by omega)
  · rintro n i w hi ⟨i0, i1⟩ ih
    refine pk_le 12 i (fun h => by omega) (fun _ => ⟨vp_in_nI hi (by omega), pk_in (r * 12 + i) 36 (by omega) (rt_ix r i), nm_r (rt_ucx (y := bs i) (by omega) hi (by rw [nI_clamp (by omega)])) (nm_r (nI_1 i) ?_)⟩)
    refine ih _ ⟨fun x hx => ?_, fun j hj => ?_⟩
    · by_cases c : x = i
      · subst c; exact pk_us
      · exact (pk_un (by omega)).trans (i0 x (by omega))
    · exact (pk_un (by omega)).trans (i1 j hj)
theorem rx_keep_toMark {post : SX → Prop} {f : Int32} {B E L T MF MT C HT HF FL SG bs st up dn : Nat → Int32} {r : Nat} (hr : r < 3) (h : ∀ w, (∀ x, x < 12 → w (r * 12 + x) = bs x) → (∀ j, j < r * 12 → w j = MT j) → post (f, B, E, L, T, MF, w, C, HT, HF, FL, SG, bs, st, up, dn)) : wpX_keepBest__toMark post (f, B, E, L, T, MF, MT, C, HT, HF, FL, SG, bs, st, up, dn) (nI r) := by
  refine loop_0 (fun n i (w : Nat → Int32) => wX_keepBest__toMark_2 post (nI r) f n (nI i) B E L T MF w C HT HF FL SG bs st up dn) (fun i w => (∀ x, x < i → w (r * 12 + x) = bs x) ∧ (∀ j, j < r * 12 → w j = MT j)) 12 MT ⟨fun x hx => by omega, fun j _ => rfl⟩ ?_ ?_
  · rintro n w ⟨i0, i1⟩
    exact pk_le 12 12 (fun _ => h w i0 i1) (fun h => by omega)
  · rintro n i w hi ⟨i0, i1⟩ ih
    refine pk_le 12 i (fun h => by omega) (fun _ => ⟨vp_in_nI hi (by omega), pk_in (r * 12 + i) 36 (by omega) (rt_ix r i), nm_r (rt_ucx (y := bs i) (by omega) hi (by rw [nI_clamp (by omega)])) (nm_r (nI_1 i) ?_)⟩)
    refine ih _ ⟨fun x hx => ?_, fun j hj => ?_⟩
    · by_cases c : x = i
      · subst c; exact pk_us
      · exact (pk_un (by omega)).trans (i0 x (by omega))
    · exact (pk_un (by omega)).trans (i1 j hj)
def rt_MK (D : Nat → Nat → Nat) (MF MT : Nat → Int32) (n : Nat) : Prop := ∀ m x, m < n → x < 12 → MF (m * 12 + x) = nI (D (m * 4) x) ∧ MT (m * 12 + x) = nI (D x (m * 4))
theorem rx_prepMarks {post : SX → Prop} {f : Int32} {B E L T MF MT C HT HF FL SG bs st up dn : Nat → Int32} (HN : rt_N f B E L) {D : Nat → Nat → Nat} (hD : rt_AP (rt_eP (rt_b f) B E L) D) (h : ∀ w1 w2 w3 w4, rt_MK D w1 w2 3 → post (f, B, E, L, T, w1, w2, C, HT, HF, FL, SG, w3, w4, up, dn)) : wpX_prepareMarks post (f, B, E, L, T, MF, MT, C, HT, HF, FL, SG, bs, st, up, dn) := by
  have N := rt_N_net HN
  have hR := rt_rev_AP N hD
  have NR := rt_rev_net N
  obtain ⟨hB, hE, hL, h1⟩ := HN
  refine loop_0 (fun n i (w : (Nat → Int32) × (Nat → Int32) × (Nat → Int32) × (Nat → Int32)) => wX_prepareMarks_2 post n (nI i) f B E L T w.1 w.2.1 C HT HF FL SG w.2.2.1 w.2.2.2 up dn) (fun i w => rt_MK D w.1 w.2.1 i) 3 (MF, MT, bs, st) (fun m x hm => by omega) ?_ ?_
  · intro n w i0
    exact pk_le 3 3 (fun _ => h _ _ _ _ i0) (fun h => by omega)
  · intro n i w hi i0 ih
    refine pk_le 3 i (fun h => by omega) (fun _ => ?_)
    have e4 : nI i * 4 = nI (i * 4) := pk_mul i 4
    rw [e4]
    have hs : i * 4 < 12 := by omega
    refine rx_search_begins_ends hs hB hE hL h1 (fun bs1 st1 k1 k2 => ?_)
    refine rx_keep_fromMark hi (fun w1 k3 k4 => ?_)
    refine rx_search_ends_begins hs hB hE hL h1 (fun bs2 st2 k5 k6 => ?_)
    refine rx_keep_toMark hi (fun w2 k7 k8 => nm_r (nI_1 i) ?_)
    refine ih (w1, w2, bs2, st2) (fun m x hm hx => ?_)
    by_cases c : m = i
    · subst c
      refine ⟨(k3 x hx).trans ?_, (k7 x hx).trans ?_⟩
      · rw [(k1 x hx).1, rt_SS_eq N k2 (hD _ hs) x hx]
      · rw [rt_eP_rev] at k6
        rw [(k5 x hx).1, rt_SS_eq NR k6 (hR _ hs) x hx]
        rfl
    · have := i0 m x (by omega) hx
      exact ⟨(k4 _ (by omega)).trans this.1, (k8 _ (by omega)).trans this.2⟩
