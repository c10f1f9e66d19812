/-! walks: small helps, the searches -/
theorem rt_10 : ¬ (1 : Int32) = 0 := by decide
theorem rt_nm1 {p : Nat} (h : p < 2 ^ 31) : ¬ nI p = -1 := by
  intro z
  have h1 : (nI p).toInt = (-1 : Int32).toInt := by rw [z]
  rw [nI_toInt h] at h1
  have h2 : (-1 : Int32).toInt = -1 := by decide
  omega
theorem rt_uc {a : Nat → Int32} {k : Nat} {x y : Int32} (hk : k < 2 ^ 31) (hx : x = y := by rfl) : upd a (nI k).toNatClampNeg x = upd a k y := by
  rw [nI_clamp hk, hx]
theorem rt_ucx {a : Nat → Int32} {k j : Nat} {x y : Int32} (hk : k < 12) (hj : j < 12) (hx : x = y := by rfl) : upd a (nI k * 12 + nI j).toNatClampNeg x = upd a (k * 12 + j) y := by
  rw [rt_cx hk hj, hx]
theorem rt_n0 : vp_nar .boolean 0 = 0 := by decide
theorem rt_n1 : vp_nar .boolean 1 = 1 := by decide
theorem rt_rd {a : Nat → Int32} {n M k : Nat} (h : rt_ok a n M) (hk : k < n) (hn : n < 2 ^ 31 := by decide) : a (nI k).toNatClampNeg = nI (rt_v a k) := by
  rw [nI_clamp (by omega)]; exact (h k hk).1
theorem rt_rdx {a : Nat → Int32} {M k j : Nat} (h : rt_ok a 144 M) (hk : k < 12) (hj : j < 12) : a (nI k * 12 + nI j).toNatClampNeg = nI (rt_t a k j) := by
  rw [rt_cx hk hj]; exact (h _ (by omega)).1
/-- the same at an index that is itself read -/
theorem rt_rde {a : Nat → Int32} {n M k : Nat} {x : Int32} (h : rt_ok a n M) (hx : x = nI k) (hk : k < n) (hn : n < 2 ^ 31 := by decide) : a x.toNatClampNeg = nI (rt_v a k) := by
  rw [hx]; exact rt_rd h hk hn
theorem rt_rdxe {a : Nat → Int32} {M k j : Nat} {x y : Int32} (h : rt_ok a 144 M) (hx : x = nI k) (hy : y = nI j) (hk : k < 12) (hj : j < 12) : a (x * 12 + y).toNatClampNeg = nI (rt_t a k j) := by
  rw [hx, hy]; exact rt_rdx h hk hj
def rt_s (a : Nat → Int32) (j : Nat) : Bool := if a j = 0 then false else true
theorem rt_s_f {a : Nat → Int32} {j : Nat} : rt_s a j = false ↔ a j = 0 := by
  unfold rt_s; split <;> simp_all
theorem rt_s_t {a : Nat → Int32} {j : Nat} : rt_s a j = true ↔ ¬ a j = 0 := by
  unfold rt_s; split <;> simp_all
theorem rt_s_u1 {a : Nat → Int32} {p : Nat} : rt_s (upd a p 1) p = true := by
  rw [rt_s_t, pk_us]; decide
theorem rt_s_un {a : Nat → Int32} {p j : Nat} (h : j ≠ p) : rt_s (upd a p 1) j = rt_s a j := by
  unfold rt_s; rw [pk_un h]
/-! the net of the arrays -/
def rt_eP (P : Nat → Prop) (B E L : Nat → Int32) : Nat → Nat → Nat → Prop := fun a b l => ∃ k, k < 28 ∧ P k ∧ rt_v B k = a ∧ rt_v E k = b ∧ rt_v L k = l
theorem rt_eP_net {P : Nat → Prop} {B E L : Nat → Int32} (hB : rt_ok B 28 11) (hE : rt_ok E 28 11) (h : ∀ k, k < 28 → P k → 1 ≤ rt_v L k) : rt_net (rt_eP P B E L) := by
  rintro a b l ⟨k, hk, hp, h1, h2, h3⟩
  have q1 := (hB k hk).2
  have q2 := (hE k hk).2
  have q3 := h k hk hp
  omega
theorem rt_eP_congr {P Q : Nat → Prop} {B E L : Nat → Int32} (h : ∀ k, k < 28 → (P k ↔ Q k)) : rt_eP P B E L = rt_eP Q B E L := by
  funext a b l
  apply propext
  constructor
  · rintro ⟨k, hk, hp, r⟩; exact ⟨k, hk, (h k hk).mp hp, r⟩
  · rintro ⟨k, hk, hp, r⟩; exact ⟨k, hk, (h k hk).mpr hp, r⟩
theorem rt_eP_rev {P : Nat → Prop} {B E L : Nat → Int32} : rt_eP P E B L = rt_rev (rt_eP P B E L) := by
  funext a b l
  apply propext
  constructor
  · rintro ⟨k, hk, hp, h1, h2, h3⟩; exact ⟨k, hk, hp, h2, h1, h3⟩
  · rintro ⟨k, hk, hp, h1, h2, h3⟩; exact ⟨k, hk, hp, h2, h1, h3⟩
theorem rx_isRoad {post : Int32 → Prop} {f : Int32} {B E L T MF MT C HT HF FL SG bs st up dn : Nat → Int32} {k : Nat} (hk : k < 28) (h1 : rt_b f k → post 1) (h0 : ¬ rt_b f k → post 0) : wpX_isRoad post (f, B, E, L, T, MF, MT, C, HT, HF, FL, SG, bs, st, up, dn) (nI k) :=
  br_f (nI_pos (by omega)) (br_f (nI_ge (b := 28) hk (by decide)) ⟨fun z => h0 (fun q => q z), fun z => h1 z⟩)
theorem rx_start {post : SX → Prop} {f : Int32} {B E L T MF MT C HT HF FL SG bs st up dn : Nat → Int32} {s : Nat} (hs : s < 12) (h : ∀ bs' st', rt_ok bs' 12 1000000 → rt_v bs' s = 0 → (∀ x, x < 12 → x ≠ s → rt_v bs' x = 1000000) → (∀ x, x < 12 → rt_s st' x = false) → post (f, B, E, L, T, MF, MT, C, HT, HF, FL, SG, bs', st', up, dn)) : wpX_startSearch post (f, B, E, L, T, MF, MT, C, HT, HF, FL, SG, bs, st, up, dn) (nI s) := by
  refine loop_0 (fun n i (w : (Nat → Int32) × (Nat → Int32)) => wX_startSearch_2 post (nI s) f n (nI i) B E L T MF MT C HT HF FL SG w.1 w.2 up dn) (fun i w => ∀ x, x < i → w.1 x = nI 1000000 ∧ w.2 x = 0) 12 (bs, st) ?_ ?_ ?_
  · intro x hx; omega
  · intro n w hw
    refine pk_le 12 12 (fun _ => ?_) (fun h => by omega)
    refine ⟨vp_in_nI hs (by omega), nm_r (rt_uc (y := nI 0) (by omega)) ?_⟩
    have hok : rt_ok w.1 12 1000000 := rt_okI (by decide) (fun j hj => ⟨1000000, by omega, (hw j hj).1⟩)
    refine h (upd w.1 s (nI 0)) w.2 (rt_oku hok (by omega) (by decide)) ?_ ?_ ?_
    · rw [rt_vu (by decide), if_pos rfl]
    · intro x hx c
      rw [rt_vu (by decide), if_neg c]
      exact rt_v_of (hw x hx).1 (by decide)
    · intro x hx
      rw [rt_s_f]; exact (hw x hx).2
  · intro n i w hi hw ih
    refine pk_le 12 i (fun h => by omega) (fun _ => ?_)
    refine ⟨vp_in_nI hi (by omega), nm_r (rt_uc (y := nI 1000000) (by omega)) ⟨vp_in_nI hi (by omega), nm_r (rt_uc (y := 0) (by omega) rt_n0) (nm_r (nI_1 i) ?_)⟩⟩
    refine ih (upd w.1 i (nI 1000000), upd w.2 i 0) ?_
    intro x hx
    by_cases c : x = i
    · subst c; exact ⟨pk_us, pk_us⟩
    · have := hw x (by omega)
      refine ⟨?_, ?_⟩
      · exact (pk_un c).trans this.1
      · exact (pk_un c).trans this.2
theorem rx_near {post : Int32 → Prop} {f : Int32} {B E L T MF MT C HT HF FL SG bs st up dn : Nat → Int32} (hb : rt_ok bs 12 1000000) (h0 : (∀ q, q < 12 → rt_s st q = false → 1000000 ≤ rt_v bs q) → post (-1)) (h1 : ∀ p, p < 12 → rt_s st p = false → rt_v bs p < 1000000 → (∀ q, q < 12 → rt_s st q = false → rt_v bs p ≤ rt_v bs q) → post (nI p)) : wpX_nearestOpen post (f, B, E, L, T, MF, MT, C, HT, HF, FL, SG, bs, st, up, dn) := by
  refine loop_0 (fun n i (w : Int32 × Int32) => wX_nearestOpen_7 post f B E L T MF MT C HT HF FL SG bs st up dn n w.1 w.2 (nI i)) (fun i w => ∃ m, w.2 = nI m ∧ m ≤ 1000000 ∧ (∀ q, q < i → rt_s st q = false → m ≤ rt_v bs q) ∧ ((w.1 = -1 ∧ m = 1000000) ∨ ∃ p, p < 12 ∧ w.1 = nI p ∧ rt_s st p = false ∧ rt_v bs p = m ∧ m < 1000000)) 12 (-1, 1000000) ?_ ?_ ?_
  · exact ⟨1000000, rfl, Nat.le_refl _, fun q hq => by omega, Or.inl ⟨rfl, rfl⟩⟩
  · rintro n ⟨x1, x2⟩ ⟨m, e2, hm, hq, hc⟩
    refine pk_le 12 12 (fun _ => ?_) (fun h => by omega)
    rcases hc with ⟨e1, em⟩ | ⟨p, hp, e1, ho, ev, hlt⟩
    · have e1' : x1 = -1 := e1
      rw [e1']; subst em; exact h0 hq
    · have e1' : x1 = nI p := e1
      rw [e1']; subst ev; exact h1 p hp ho hlt hq
  · rintro n i ⟨x1, x2⟩ hi ⟨m, e2, hm, hq, hc⟩ ih
    have e2' : x2 = nI m := e2
    refine pk_le 12 i (fun h => by omega) (fun _ => ⟨vp_in_nI hi (by omega), ?_⟩)
    by_cases c : st i = 0
    · refine br_t (show st (nI i).toNatClampNeg = 0 by rw [nI_clamp (by omega)]; exact c) ⟨vp_in_nI hi (by omega), ?_⟩
      have hv := hb i hi
      refine pk_le m (rt_v bs i) (fun hle => nm_r (nI_1 i) ?_) (fun hlt => ⟨vp_in_nI hi (by omega), nm_r (rt_rd hb hi) (nm_r (nI_1 i) ?_)⟩) e2' (rt_rd hb hi)
      · refine ih (x1, x2) ⟨m, e2, hm, fun q hq' ho => ?_, hc⟩
        by_cases cq : q = i
        · subst cq; exact hle
        · exact hq q (by omega) ho
      · refine ih (nI i, nI (rt_v bs i)) ⟨rt_v bs i, rfl, by omega, fun q hq' ho => ?_, Or.inr ⟨i, hi, rfl, rt_s_f.mpr c, rfl, by omega⟩⟩
        by_cases cq : q = i
        · subst cq; exact Nat.le_refl _
        · have := hq q (by omega) ho
          omega
    · refine br_f (show ¬ st (nI i).toNatClampNeg = 0 by rw [nI_clamp (by omega)]; exact c) (nm_r (nI_1 i) ?_)
      refine ih (x1, x2) ⟨m, e2, hm, fun q hq' ho => ?_, hc⟩
      by_cases cq : q = i
      · subst cq; exact absurd (rt_s_f.mp ho) c
      · exact hq q (by omega) ho
theorem rx_goOn_begins_ends {post : SX → Prop} {f : Int32} {B E L T MF MT C HT HF FL SG bs st up dn : Nat → Int32} {p : Nat} {al : Int32} (hp : p < 12) (hB : rt_ok B 28 11) (hE : rt_ok E 28 11) (hL : rt_ok L 28 30) (hal : ∀ k, k < 28 → rt_b al k → 1 ≤ rt_v L k) (hb : rt_ok bs 12 1000000) (h : ∀ bs', rt_ok bs' 12 1000000 → rt_GO (rt_eP (rt_b al) B E L) p (rt_v bs) (rt_v bs') → post (f, B, E, L, T, MF, MT, C, HT, HF, FL, SG, bs', st, up, dn)) : wpX_goOn__begins_ends post (f, B, E, L, T, MF, MT, C, HT, HF, FL, SG, bs, st, up, dn) (nI p) al := by
  refine loop_0 (fun n i (w : Nat → Int32) => wX_goOn__begins_ends_3 post (nI p) al f n (nI i) B E L T MF MT C HT HF FL SG w st up dn) (fun i w => rt_ok w 12 1000000 ∧ (∀ x, x < 12 → rt_v w x ≤ rt_v bs x) ∧ (∀ k, k < i → rt_b al k → rt_v B k = p → rt_v w (rt_v E k) ≤ rt_v bs p + rt_v L k) ∧ (∀ x, x < 12 → rt_v w x = rt_v bs x ∨ ∃ k, k < 28 ∧ rt_b al k ∧ rt_v B k = p ∧ rt_v E k = x ∧ rt_v w x = rt_v bs p + rt_v L k)) 28 bs ?_ ?_ ?_
  · exact ⟨hb, fun x _ => Nat.le_refl _, fun k hk => by omega, fun x _ => Or.inl rfl⟩
  · rintro n w ⟨i0, i1, i2, i3⟩
    refine pk_le 28 28 (fun _ => ?_) (fun h => by omega)
    refine h w i0 ⟨i1, ?_, ?_⟩
    · rintro b l ⟨k, hk, hk1, hk2, hk3, hk4⟩
      have := i2 k hk hk1 hk2
      rw [hk3, hk4] at this; exact this
    · intro x hx
      rcases i3 x hx with z | ⟨k, hk, hk1, hk2, hk3, hk4⟩
      · exact Or.inl z
      · exact Or.inr ⟨rt_v L k, ⟨k, hk, hk1, hk2, hk3, rfl⟩, hk4⟩
  · rintro n i w hi ⟨i0, i1, i2, i3⟩ ih
    have hwp : rt_v w p = rt_v bs p := by
      rcases i3 p hp with z | ⟨k, hk, hk1, hk2, hk3, hk4⟩
      · exact z
      · have := hal k hk hk1
        have := i1 p hp
        omega
    refine pk_le 28 i (fun h => by omega) (fun _ => ?_)
    by_cases c : rt_b al i
    · refine br_f c ⟨vp_in_nI hi (by omega), ?_⟩
      have hx := hB i hi
      have hy := hE i hi
      have hl := hL i hi
      have hwi := i0 (rt_v E i) (by omega)
      have hbp := hb p hp
      refine pk_eq (rt_v B i) p (fun cp => ?_) (fun cp => nm_r (nI_1 i) ?_) (rt_rd hB hi) rfl
      · refine ⟨vp_in_nI hp (by omega), vp_in_nI hi (by omega), nm_r (e' := nI (rt_v bs p + rt_v L i)) (by rw [rt_rd i0 hp, rt_rd hL hi, hwp, nI_add]) ⟨vp_in_nI hi (by omega), pk_in (rt_v E i) 12 (by omega) (rt_rd hE hi), ?_⟩⟩
        refine pk_le (rt_v w (rt_v E i)) (rt_v bs p + rt_v L i) (fun hle => nm_r (nI_1 i) ?_) (fun hlt => ⟨vp_in_nI hi (by omega), pk_in (rt_v E i) 12 (by omega) (rt_rd hE hi), nm_r (e' := upd w (rt_v E i) (nI (rt_v bs p + rt_v L i))) (by rw [pk_cl _ (rt_rd hE hi) (by omega)]) (nm_r (nI_1 i) ?_)⟩) (rt_rde i0 (rt_rd hE hi) (by omega)) rfl
        · refine ih w ⟨i0, i1, fun k hk hk1 hk2 => ?_, i3⟩
          by_cases ck : k = i
          · subst ck; exact hle
          · exact i2 k (by omega) hk1 hk2
        · refine ih _ ⟨rt_oku i0 (by omega) (by decide), fun x hx' => ?_, fun k hk hk1 hk2 => ?_, fun x hx' => ?_⟩
          · rw [rt_vu (by omega)]
            by_cases cx : x = rt_v E i
            · rw [if_pos cx, cx]
              have := i1 (rt_v E i) (by omega)
              omega
            · rw [if_neg cx]; exact i1 x hx'
          · rw [rt_vu (by omega)]
            by_cases cx : rt_v E k = rt_v E i
            · rw [if_pos cx]
              by_cases ck : k = i
              · subst ck; exact Nat.le_refl _
              · have := i2 k (by omega) hk1 hk2
                rw [cx] at this
                omega
            · rw [if_neg cx]
              by_cases ck : k = i
              · subst ck; exact absurd rfl cx
              · exact i2 k (by omega) hk1 hk2
          · rw [rt_vu (by omega)]
            by_cases cx : x = rt_v E i
            · rw [if_pos cx]
              exact Or.inr ⟨i, hi, c, cp, cx.symm, rfl⟩
            · rw [if_neg cx]; exact i3 x hx'
      · refine ih w ⟨i0, i1, fun k hk hk1 hk2 => ?_, i3⟩
        by_cases ck : k = i
        · subst ck; exact absurd hk2 cp
        · exact i2 k (by omega) hk1 hk2
    · refine br_t (Classical.byContradiction c) (nm_r (nI_1 i) ?_)
      refine ih w ⟨i0, i1, fun k hk hk1 hk2 => ?_, i3⟩
      by_cases ck : k = i
      · subst ck; exact absurd hk1 c
      · exact i2 k (by omega) hk1 hk2
theorem rx_search_begins_ends {post : SX → Prop} {f : Int32} {B E L T MF MT C HT HF FL SG bs st up dn : Nat → Int32} {s : Nat} {al : Int32} (hs : s < 12) (hB : rt_ok B 28 11) (hE : rt_ok E 28 11) (hL : rt_ok L 28 30) (hal : ∀ k, k < 28 → rt_b al k → 1 ≤ rt_v L k) (h : ∀ bs' st', rt_ok bs' 12 1000000 → rt_SS (rt_eP (rt_b al) B E L) s (rt_v bs') → post (f, B, E, L, T, MF, MT, C, HT, HF, FL, SG, bs', st', up, dn)) : wpX_search__begins_ends post (f, B, E, L, T, MF, MT, C, HT, HF, FL, SG, bs, st, up, dn) (nI s) al := by
  have N : rt_net (rt_eP (rt_b al) B E L) := rt_eP_net hB hE hal
  unfold wpX_search__begins_ends
  refine rx_start hs (fun bs0 st0 k0 k1 k2 k3 => ?_)
  refine loop_0 (fun n i (w : (Nat → Int32) × (Nat → Int32)) => wX_search__begins_ends_8 post al n (nI i) f B E L T MF MT C HT HF FL SG w.1 w.2 up dn) (fun i w => rt_ok w.1 12 1000000 ∧ rt_DJ (rt_eP (rt_b al) B E L) s (rt_v w.1) (rt_s w.2) i) 12 (bs0, st0) ?_ ?_ ?_
  · exact ⟨k0, rt_DJ_init N hs k1 k2 k3⟩
  · rintro n w ⟨i0, i1⟩
    refine pk_le 12 12 (fun _ => ?_) (fun h => by omega)
    exact h w.1 w.2 i0 (rt_DJ_end N i1 (Or.inl rfl))
  · rintro n i w hi ⟨i0, i1⟩ ih
    refine pk_le 12 i (fun h => by omega) (fun _ => ?_)
    refine rx_near i0 (fun hn => br_t rfl ?_) (fun p hp ho hlt hm => br_f (rt_nm1 (by omega)) ⟨vp_in_nI hp (by omega), nm_r (rt_uc (y := 1) (by omega) rt_n1) ?_⟩)
    · exact h w.1 w.2 i0 (rt_DJ_end N i1 (Or.inr hn))
    · refine rx_goOn_begins_ends hp hB hE hL hal i0 (fun bs' j0 j1 => nm_r (nI_1 i) ?_)
      exact ih (bs', upd w.2 p 1) ⟨j0, rt_DJ_step N i1 hs hp ho hm j1 rt_s_u1 (fun j _ c => rt_s_un c)⟩
theorem rx_goOn_ends_begins {post : SX → Prop} {f : Int32} {B E L T MF MT C HT HF FL SG bs st up dn : Nat → Int32} {p : Nat} {al : Int32} (hp : p < 12) (hB : rt_ok B 28 11) (hE : rt_ok E 28 11) (hL : rt_ok L 28 30) (hal : ∀ k, k < 28 → rt_b al k → 1 ≤ rt_v L k) (hb : rt_ok bs 12 1000000) (h : ∀ bs', rt_ok bs' 12 1000000 → rt_GO (rt_eP (rt_b al) E B L) p (rt_v bs) (rt_v bs') → post (f, B, E, L, T, MF, MT, C, HT, HF, FL, SG, bs', st, up, dn)) : wpX_goOn__ends_begins post (f, B, E, L, T, MF, MT, C, HT, HF, FL, SG, bs, st, up, dn) (nI p) al := by
  refine loop_0 (fun n i (w : Nat → Int32) => wX_goOn__ends_begins_3 post (nI p) al f n (nI i) B E L T MF MT C HT HF FL SG w st up dn) (fun i w => rt_ok w 12 1000000 ∧ (∀ x, x < 12 → rt_v w x ≤ rt_v bs x) ∧ (∀ k, k < i → rt_b al k → rt_v E k = p → rt_v w (rt_v B k) ≤ rt_v bs p + rt_v L k) ∧ (∀ x, x < 12 → rt_v w x = rt_v bs x ∨ ∃ k, k < 28 ∧ rt_b al k ∧ rt_v E k = p ∧ rt_v B k = x ∧ rt_v w x = rt_v bs p + rt_v L k)) 28 bs ?_ ?_ ?_
  · exact ⟨hb, fun x _ => Nat.le_refl _, fun k hk => by omega, fun x _ => Or.inl rfl⟩
  · rintro n w ⟨i0, i1, i2, i3⟩
    refine pk_le 28 28 (fun _ => ?_) (fun h => by omega)
    refine h w i0 ⟨i1, ?_, ?_⟩
    · rintro b l ⟨k, hk, hk1, hk2, hk3, hk4⟩
      have := i2 k hk hk1 hk2
      rw [hk3, hk4] at this; exact this
    · intro x hx
      rcases i3 x hx with z | ⟨k, hk, hk1, hk2, hk3, hk4⟩
      · exact Or.inl z
      · exact Or.inr ⟨rt_v L k, ⟨k, hk, hk1, hk2, hk3, rfl⟩, hk4⟩
  · rintro n i w hi ⟨i0, i1, i2, i3⟩ ih
    have hwp : rt_v w p = rt_v bs p := by
      rcases i3 p hp with z | ⟨k, hk, hk1, hk2, hk3, hk4⟩
      · exact z
      · have := hal k hk hk1
        have := i1 p hp
        omega
    refine pk_le 28 i (fun h => by omega) (fun _ => ?_)
    by_cases c : rt_b al i
    · refine br_f c ⟨vp_in_nI hi (by omega), ?_⟩
      have hx := hE i hi
      have hy := hB i hi
      have hl := hL i hi
      have hwi := i0 (rt_v B i) (by omega)
      have hbp := hb p hp
      refine pk_eq (rt_v E i) p (fun cp => ?_) (fun cp => nm_r (nI_1 i) ?_) (rt_rd hE hi) rfl
      · refine ⟨vp_in_nI hp (by omega), vp_in_nI hi (by omega), nm_r (e' := nI (rt_v bs p + rt_v L i)) (by rw [rt_rd i0 hp, rt_rd hL hi, hwp, nI_add]) ⟨vp_in_nI hi (by omega), pk_in (rt_v B i) 12 (by omega) (rt_rd hB hi), ?_⟩⟩
        refine pk_le (rt_v w (rt_v B i)) (rt_v bs p + rt_v L i) (fun hle => nm_r (nI_1 i) ?_) (fun hlt => ⟨vp_in_nI hi (by omega), pk_in (rt_v B i) 12 (by omega) (rt_rd hB hi), nm_r (e' := upd w (rt_v B i) (nI (rt_v bs p + rt_v L i))) (by rw [pk_cl _ (rt_rd hB hi) (by omega)]) (nm_r (nI_1 i) ?_)⟩) (rt_rde i0 (rt_rd hB hi) (by omega)) rfl
        · refine ih w ⟨i0, i1, fun k hk hk1 hk2 => ?_, i3⟩
          by_cases ck : k = i
          · subst ck; exact hle
          · exact i2 k (by omega) hk1 hk2
        · refine ih _ ⟨rt_oku i0 (by omega) (by decide), fun x hx' => ?_, fun k hk hk1 hk2 => ?_, fun x hx' => ?_⟩
          · rw [rt_vu (by omega)]
            by_cases cx : x = rt_v B i
            · rw [if_pos cx, cx]
              have := i1 (rt_v B i) (by omega)
              omega
            · rw [if_neg cx]; exact i1 x hx'
          · rw [rt_vu (by omega)]
            by_cases cx : rt_v B k = rt_v B i
            · rw [if_pos cx]
              by_cases ck : k = i
              · subst ck; exact Nat.le_refl _
              · have := i2 k (by omega) hk1 hk2
                rw [cx] at this
                omega
            · rw [if_neg cx]
              by_cases ck : k = i
              · subst ck; exact absurd rfl cx
              · exact i2 k (by omega) hk1 hk2
          · rw [rt_vu (by omega)]
            by_cases cx : x = rt_v B i
            · rw [if_pos cx]
              exact Or.inr ⟨i, hi, c, cp, cx.symm, rfl⟩
            · rw [if_neg cx]; exact i3 x hx'
      · refine ih w ⟨i0, i1, fun k hk hk1 hk2 => ?_, i3⟩
        by_cases ck : k = i
        · subst ck; exact absurd hk2 cp
        · exact i2 k (by omega) hk1 hk2
    · refine br_t (Classical.byContradiction c) (nm_r (nI_1 i) ?_)
      refine ih w ⟨i0, i1, fun k hk hk1 hk2 => ?_, i3⟩
      by_cases ck : k = i
      · subst ck; exact absurd hk1 c
      · exact i2 k (by omega) hk1 hk2
theorem rx_search_ends_begins {post : SX → Prop} {f : Int32} {B E L T MF MT C HT HF FL SG bs st up dn : Nat → Int32} {s : Nat} {al : Int32} (hs : s < 12) (hB : rt_ok B 28 11) (hE : rt_ok E 28 11) (hL : rt_ok L 28 30) (hal : ∀ k, k < 28 → rt_b al k → 1 ≤ rt_v L k) (h : ∀ bs' st', rt_ok bs' 12 1000000 → rt_SS (rt_eP (rt_b al) E B L) s (rt_v bs') → post (f, B, E, L, T, MF, MT, C, HT, HF, FL, SG, bs', st', up, dn)) : wpX_search__ends_begins post (f, B, E, L, T, MF, MT, C, HT, HF, FL, SG, bs, st, up, dn) (nI s) al := by
  have N : rt_net (rt_eP (rt_b al) E B L) := rt_eP_net hE hB hal
  unfold wpX_search__ends_begins
  refine rx_start hs (fun bs0 st0 k0 k1 k2 k3 => ?_)
  refine loop_0 (fun n i (w : (Nat → Int32) × (Nat → Int32)) => wX_search__ends_begins_8 post al n (nI i) f B E L T MF MT C HT HF FL SG w.1 w.2 up dn) (fun i w => rt_ok w.1 12 1000000 ∧ rt_DJ (rt_eP (rt_b al) E B L) s (rt_v w.1) (rt_s w.2) i) 12 (bs0, st0) ?_ ?_ ?_
  · exact ⟨k0, rt_DJ_init N hs k1 k2 k3⟩
  · rintro n w ⟨i0, i1⟩
    refine pk_le 12 12 (fun _ => ?_) (fun h => by omega)
    exact h w.1 w.2 i0 (rt_DJ_end N i1 (Or.inl rfl))
  · rintro n i w hi ⟨i0, i1⟩ ih
    refine pk_le 12 i (fun h => by omega) (fun _ => ?_)
    refine rx_near i0 (fun hn => br_t rfl ?_) (fun p hp ho hlt hm => br_f (rt_nm1 (by omega)) ⟨vp_in_nI hp (by omega), nm_r (rt_uc (y := 1) (by omega) rt_n1) ?_⟩)
    · exact h w.1 w.2 i0 (rt_DJ_end N i1 (Or.inr hn))
    · refine rx_goOn_ends_begins hp hB hE hL hal i0 (fun bs' j0 j1 => nm_r (nI_1 i) ?_)
      exact ih (bs', upd w.2 p 1) ⟨j0, rt_DJ_step N i1 hs hp ho hm j1 rt_s_u1 (fun j _ c => rt_s_un c)⟩
