/-! walks: hubs, flags, signs prepared; prepare -/
theorem rx_fbh_toHub_fromHub {post : Int32 → Prop} {f : Int32} {B E L T MF MT C HT HF FL SG bs st up dn : Nat → Int32} {p q : Nat} (hp : p < 12) (hq : q < 12) (ok1 : rt_ok HT 144 1000000) (ok2 : rt_ok HF 144 1000000) (h : ∀ r, rt_QU (rt_t HT) (rt_t HF) p q r → post (nI r)) : wpX_findByHubs__toHub_fromHub post (f, B, E, L, T, MF, MT, C, HT, HF, FL, SG, bs, st, up, dn) (nI p) (nI q) := by
  refine loop_0 (fun n i (w : Int32) => wX_findByHubs__toHub_fromHub_7 post (nI p) (nI q) f B E L T MF MT C HT HF FL SG bs st up dn n w (nI i)) (fun i w => ∃ m, w = nI m ∧ m ≤ 1000000 ∧ (∀ j, j < i → m ≤ rt_t HT p j + rt_t HF q j) ∧ (m = 1000000 ∨ ∃ j, j < 12 ∧ m = rt_t HT p j + rt_t HF q j)) 12 1000000 ⟨1000000, rfl, Nat.le_refl _, fun j hj => by omega, Or.inl rfl⟩ ?_ ?_
  · rintro n w ⟨m, e, hm, k1, k2⟩
    subst e
    exact pk_le 12 12 (fun _ => h m ⟨hm, k1, k2⟩) (fun h => by omega)
  · rintro n i w hi ⟨m, e, hm, k1, k2⟩ ih
    have b1 : rt_t HT p i ≤ 1000000 := (rt_tok (by assumption) hp hi).2
    have b2 : rt_t HF q i ≤ 1000000 := (rt_tok (by assumption) hq hi).2
    have e1 : HT (nI p * 12 + nI i).toNatClampNeg = nI (rt_t HT p i) := rt_rdx (by assumption) hp hi
    have e2 : HF (nI q * 12 + nI i).toNatClampNeg = nI (rt_t HF q i) := rt_rdx (by assumption) hq hi
    refine pk_le 12 i (fun h => by omega) (fun _ => ⟨rt_inx hp hi, rt_inx hq hi, nm_r (e' := nI (rt_t HT p i + rt_t HF q i)) (by rw [e1, e2, nI_add]) ?_⟩)
    refine pk_le m (rt_t HT p i + rt_t HF q i) (fun hle => nm_r (nI_1 i) ?_) (fun hlt => nm_r (nI_1 i) ?_) e rfl
    · refine ih w ⟨m, e, hm, fun j hj => ?_, k2⟩
      by_cases c : j = i
      · subst c; exact hle
      · exact k1 j (by omega)
    · refine ih _ ⟨_, rfl, by omega, fun j hj => ?_, Or.inr ⟨i, hi, rfl⟩⟩
      by_cases c : j = i
      · subst c; exact Nat.le_refl _
      · have := k1 j (by omega)
        omega
theorem rx_fbh_fromHub_toHub {post : Int32 → Prop} {f : Int32} {B E L T MF MT C HT HF FL SG bs st up dn : Nat → Int32} {p q : Nat} (hp : p < 12) (hq : q < 12) (ok1 : rt_ok HT 144 1000000) (ok2 : rt_ok HF 144 1000000) (h : ∀ r, rt_QU (rt_t HF) (rt_t HT) p q r → post (nI r)) : wpX_findByHubs__fromHub_toHub post (f, B, E, L, T, MF, MT, C, HT, HF, FL, SG, bs, st, up, dn) (nI p) (nI q) := by
  refine loop_0 (fun n i (w : Int32) => wX_findByHubs__fromHub_toHub_7 post (nI p) (nI q) f B E L T MF MT C HT HF FL SG bs st up dn n w (nI i)) (fun i w => ∃ m, w = nI m ∧ m ≤ 1000000 ∧ (∀ j, j < i → m ≤ rt_t HF p j + rt_t HT q j) ∧ (m = 1000000 ∨ ∃ j, j < 12 ∧ m = rt_t HF p j + rt_t HT q j)) 12 1000000 ⟨1000000, rfl, Nat.le_refl _, fun j hj => by omega, Or.inl rfl⟩ ?_ ?_
  · rintro n w ⟨m, e, hm, k1, k2⟩
    subst e
    exact pk_le 12 12 (fun _ => h m ⟨hm, k1, k2⟩) (fun h => by omega)
  · rintro n i w hi ⟨m, e, hm, k1, k2⟩ ih
    have b1 : rt_t HF p i ≤ 1000000 := (rt_tok (by assumption) hp hi).2
    have b2 : rt_t HT q i ≤ 1000000 := (rt_tok (by assumption) hq hi).2
    have e1 : HF (nI p * 12 + nI i).toNatClampNeg = nI (rt_t HF p i) := rt_rdx (by assumption) hp hi
    have e2 : HT (nI q * 12 + nI i).toNatClampNeg = nI (rt_t HT q i) := rt_rdx (by assumption) hq hi
    refine pk_le 12 i (fun h => by omega) (fun _ => ⟨rt_inx hp hi, rt_inx hq hi, nm_r (e' := nI (rt_t HF p i + rt_t HT q i)) (by rw [e1, e2, nI_add]) ?_⟩)
    refine pk_le m (rt_t HF p i + rt_t HT q i) (fun hle => nm_r (nI_1 i) ?_) (fun hlt => nm_r (nI_1 i) ?_) e rfl
    · refine ih w ⟨m, e, hm, fun j hj => ?_, k2⟩
      by_cases c : j = i
      · subst c; exact hle
      · exact k1 j (by omega)
    · refine ih _ ⟨_, rfl, by omega, fun j hj => ?_, Or.inr ⟨i, hi, rfl⟩⟩
      by_cases c : j = i
      · subst c; exact Nat.le_refl _
      · have := k1 j (by omega)
        omega
theorem rx_label_begins_ends_toHub_fromHub {post : SX → Prop} {f : Int32} {B E L T MF MT C HT HF FL SG bs st up dn : Nat → Int32} {h : Nat} (hh : h < 12) (HN : rt_N f B E L) {D : Nat → Nat → Nat} (hD : rt_AP (rt_eP (rt_b f) B E L) D) (ok1 : rt_ok HT 144 1000000) (ok2 : rt_ok HF 144 1000000) (lo : rt_LO (rt_tr D) (rt_t HT) h) (li : rt_LI D (rt_t HF) h) (hx : ∀ w bs' st', rt_ok w 144 1000000 → rt_LI D (rt_t w) (h + 1) → post (f, B, E, L, T, MF, MT, C, HT, w, FL, SG, bs', st', up, dn)) : wpX_label__begins_ends_toHub_fromHub post (f, B, E, L, T, MF, MT, C, HT, HF, FL, SG, bs, st, up, dn) (nI h) := by
  obtain ⟨hB, hE, hL, h1⟩ := HN
  have N : rt_net (rt_eP (rt_b f) B E L) := rt_eP_net hB hE h1
  unfold wpX_label__begins_ends_toHub_fromHub
  refine rx_start hh (fun bs0 st0 k0 k1 k2 k3 => ?_)
  refine loop_0 (fun n i (w : (Nat → Int32) × (Nat → Int32) × (Nat → Int32)) => wX_label__begins_ends_toHub_fromHub_8 post (nI h) n (nI i) f B E L T MF MT C HT w.2.2 FL SG w.1 w.2.1 up dn) (fun i w => rt_ok w.1 12 1000000 ∧ rt_ok w.2.2 144 1000000 ∧ rt_LB (rt_eP (rt_b f) B E L) D h (rt_v w.1) (rt_s w.2.1) i (rt_t w.2.2)) 12 (bs0, st0, HF) ?_ ?_ ?_
  · exact ⟨k0, by assumption, rt_LB_init hD hh k1 k2 k3 li⟩
  · rintro n w ⟨i0, i1, i2⟩
    refine pk_le 12 12 (fun _ => ?_) (fun h => by omega)
    exact hx _ _ _ i1 (rt_LB_end N hD hh i2 (Or.inl rfl))
  · rintro n i ⟨b, s, w⟩ hi ⟨i0, i1, i2⟩ ih
    have i0' : rt_ok b 12 1000000 := i0
    have i1' : rt_ok w 144 1000000 := i1
    have i2' : rt_LB (rt_eP (rt_b f) B E L) D h (rt_v b) (rt_s s) i (rt_t w) := i2
    refine pk_le 12 i (fun h => by omega) (fun _ => ?_)
    refine rx_near i0' (fun hn => br_t rfl ?_) (fun p hp ho hlt hm => br_f (rt_nm1 (by omega)) ⟨vp_in_nI hp (by omega), nm_r (rt_uc (y := 1) (by omega) rt_n1) ?_⟩)
    · exact hx _ _ _ i1 (rt_LB_end N hD hh i2' (Or.inr hn))
    · refine rx_fbh_toHub_fromHub hh hp (by assumption) (by assumption) (fun r hr => ⟨vp_in_nI hp (by omega), ?_⟩)
      have hq := rt_LB_q N hD hh hp i2' lo ho hm hlt hr
      have hr1 := hr.1
      have hlt' : rt_v b p < 1000000 := hlt
      refine pk_le r (rt_v b p) (fun hle => nm_r (nI_1 i) ?_) (fun hgt => ⟨vp_in_nI hp (by omega), rt_inx hp hh, nm_r (rt_ucx hp hh (rt_rd i0' hp)) ?_⟩) rfl (rt_rd i0' hp)
      · exact ih (b, upd s p 1, w) ⟨i0', i1', rt_LB_skip hp i2' ho hm (hq.2 hle) rt_s_u1 (fun j _ c => rt_s_un c)⟩
      · refine rx_goOn_begins_ends hp hB hE hL h1 i0' (fun bs' j0 j1 => nm_r (nI_1 i) ?_)
        have g := hq.1 hgt
        refine ih (bs', upd s p 1, upd w (p * 12 + h) (nI (rt_v b p))) ⟨j0, rt_oku i1' (by omega) (by decide), ?_⟩
        refine rt_LB_step N hD hh hp i2' ho hm g.1 g.2 rt_s_u1 (fun j _ c => rt_s_un c) j1 ?_ ?_
        · rw [rt_tu (by omega) hh p h hh, if_pos ⟨rfl, rfl⟩]
        · intro x j hx' hj c
          rw [rt_tu (by omega) hh x j hj, if_neg c]
theorem rx_label_ends_begins_fromHub_toHub {post : SX → Prop} {f : Int32} {B E L T MF MT C HT HF FL SG bs st up dn : Nat → Int32} {h : Nat} (hh : h < 12) (HN : rt_N f B E L) {D : Nat → Nat → Nat} (hD : rt_AP (rt_eP (rt_b f) E B L) D) (ok1 : rt_ok HT 144 1000000) (ok2 : rt_ok HF 144 1000000) (lo : rt_LO (rt_tr D) (rt_t HF) h) (li : rt_LI D (rt_t HT) h) (hx : ∀ w bs' st', rt_ok w 144 1000000 → rt_LI D (rt_t w) (h + 1) → post (f, B, E, L, T, MF, MT, C, w, HF, FL, SG, bs', st', up, dn)) : wpX_label__ends_begins_fromHub_toHub post (f, B, E, L, T, MF, MT, C, HT, HF, FL, SG, bs, st, up, dn) (nI h) := by
  obtain ⟨hB, hE, hL, h1⟩ := HN
  have N : rt_net (rt_eP (rt_b f) E B L) := rt_eP_net hE hB h1
  unfold wpX_label__ends_begins_fromHub_toHub
  refine rx_start hh (fun bs0 st0 k0 k1 k2 k3 => ?_)
  refine loop_0 (fun n i (w : (Nat → Int32) × (Nat → Int32) × (Nat → Int32)) => wX_label__ends_begins_fromHub_toHub_8 post (nI h) n (nI i) f B E L T MF MT C w.2.2 HF FL SG w.1 w.2.1 up dn) (fun i w => rt_ok w.1 12 1000000 ∧ rt_ok w.2.2 144 1000000 ∧ rt_LB (rt_eP (rt_b f) E B L) D h (rt_v w.1) (rt_s w.2.1) i (rt_t w.2.2)) 12 (bs0, st0, HT) ?_ ?_ ?_
  · exact ⟨k0, by assumption, rt_LB_init hD hh k1 k2 k3 li⟩
  · rintro n w ⟨i0, i1, i2⟩
    refine pk_le 12 12 (fun _ => ?_) (fun h => by omega)
    exact hx _ _ _ i1 (rt_LB_end N hD hh i2 (Or.inl rfl))
  · rintro n i ⟨b, s, w⟩ hi ⟨i0, i1, i2⟩ ih
    have i0' : rt_ok b 12 1000000 := i0
    have i1' : rt_ok w 144 1000000 := i1
    have i2' : rt_LB (rt_eP (rt_b f) E B L) D h (rt_v b) (rt_s s) i (rt_t w) := i2
    refine pk_le 12 i (fun h => by omega) (fun _ => ?_)
    refine rx_near i0' (fun hn => br_t rfl ?_) (fun p hp ho hlt hm => br_f (rt_nm1 (by omega)) ⟨vp_in_nI hp (by omega), nm_r (rt_uc (y := 1) (by omega) rt_n1) ?_⟩)
    · exact hx _ _ _ i1 (rt_LB_end N hD hh i2' (Or.inr hn))
    · refine rx_fbh_fromHub_toHub hh hp (by assumption) (by assumption) (fun r hr => ⟨vp_in_nI hp (by omega), ?_⟩)
      have hq := rt_LB_q N hD hh hp i2' lo ho hm hlt hr
      have hr1 := hr.1
      have hlt' : rt_v b p < 1000000 := hlt
      refine pk_le r (rt_v b p) (fun hle => nm_r (nI_1 i) ?_) (fun hgt => ⟨vp_in_nI hp (by omega), rt_inx hp hh, nm_r (rt_ucx hp hh (rt_rd i0' hp)) ?_⟩) rfl (rt_rd i0' hp)
      · exact ih (b, upd s p 1, w) ⟨i0', i1', rt_LB_skip hp i2' ho hm (hq.2 hle) rt_s_u1 (fun j _ c => rt_s_un c)⟩
      · refine rx_goOn_ends_begins hp hB hE hL h1 i0' (fun bs' j0 j1 => nm_r (nI_1 i) ?_)
        have g := hq.1 hgt
        refine ih (bs', upd s p 1, upd w (p * 12 + h) (nI (rt_v b p))) ⟨j0, rt_oku i1' (by omega) (by decide), ?_⟩
        refine rt_LB_step N hD hh hp i2' ho hm g.1 g.2 rt_s_u1 (fun j _ c => rt_s_un c) j1 ?_ ?_
        · rw [rt_tu (by omega) hh p h hh, if_pos ⟨rfl, rfl⟩]
        · intro x j hx' hj c
          rw [rt_tu (by omega) hh x j hj, if_neg c]
theorem rx_prepHubs {post : SX → Prop} {f : Int32} {B E L T MF MT C HT HF FL SG bs st up dn : Nat → Int32} (HN : rt_N f B E L) {D : Nat → Nat → Nat} (hD : rt_AP (rt_eP (rt_b f) B E L) D) (h : ∀ w1 w2 bs' st', rt_ok w1 144 1000000 → rt_ok w2 144 1000000 → rt_LI (rt_tr D) (rt_t w1) 12 → rt_LI D (rt_t w2) 12 → post (f, B, E, L, T, MF, MT, C, w1, w2, FL, SG, bs', st', up, dn)) : wpX_prepareHubs post (f, B, E, L, T, MF, MT, C, HT, HF, FL, SG, bs, st, up, dn) := by
  have hR := rt_rev_AP (rt_N_net HN) hD
  rw [← rt_eP_rev] at hR
  refine loop_0 (fun n i (w : (Nat → Int32) × (Nat → Int32)) => wX_prepareHubs_2 post f n (nI i) B E L T MF MT C w.1 w.2 FL SG bs st up dn) (fun i w => ∀ j, j < i → w.1 j = nI 1000000 ∧ w.2 j = nI 1000000) 144 (HT, HF) (fun j hj => by omega) ?_ ?_
  · rintro n ⟨w1, w2⟩ hw
    have ok1 : rt_ok w1 144 1000000 := rt_okI (by decide) (fun j hj => ⟨1000000, by omega, (hw j hj).1⟩)
    have ok2 : rt_ok w2 144 1000000 := rt_okI (by decide) (fun j hj => ⟨1000000, by omega, (hw j hj).2⟩)
    have z1 : ∀ p j, p < 12 → j < 12 → rt_t w1 p j = 1000000 := fun p j hp hj => rt_v_of (hw _ (by omega)).1 (by decide)
    have z2 : ∀ p j, p < 12 → j < 12 → rt_t w2 p j = 1000000 := fun p j hp hj => rt_v_of (hw _ (by omega)).2 (by decide)
    refine pk_le 144 144 (fun _ => ?_) (fun h => by omega)
    refine loop_0 (fun n i (w : (Nat → Int32) × (Nat → Int32) × (Nat → Int32) × (Nat → Int32)) => wX_prepareHubs_33 post n (nI i) f B E L T MF MT C w.1 w.2.1 FL SG w.2.2.1 w.2.2.2 up dn) (fun i w => rt_ok w.1 144 1000000 ∧ rt_ok w.2.1 144 1000000 ∧ rt_LI (rt_tr D) (rt_t w.1) i ∧ rt_LI D (rt_t w.2.1) i) 12 (w1, w2, bs, st) ?_ ?_ ?_
    · exact ⟨ok1, ok2, fun p j hp hj => ⟨Or.inl (z1 p j hp hj), fun c => by omega, fun _ => z1 p j hp hj⟩, fun p j hp hj => ⟨Or.inl (z2 p j hp hj), fun c => by omega, fun _ => z2 p j hp hj⟩⟩
    · rintro n w ⟨i0, i1, i2, i3⟩
      exact pk_le 12 12 (fun _ => h _ _ _ _ i0 i1 i2 i3) (fun h => by omega)
    · rintro n i ⟨a, b, c, d⟩ hi ⟨i0, i1, i2, i3⟩ ih
      refine pk_le 12 i (fun h => by omega) (fun _ => ?_)
      refine rx_label_begins_ends_toHub_fromHub hi HN hD i0 i1 (rt_LI_LO i2 (Nat.le_refl _)) i3 (fun b' bs1 st1 j0 j1 => ?_)
      refine rx_label_ends_begins_fromHub_toHub hi HN hR i0 j0 (rt_LI_LO j1 (by omega)) i2 (fun a' bs2 st2 j2 j3 => nm_r (nI_1 i) ?_)
      exact ih (a', b', bs2, st2) ⟨j2, j0, j3, j1⟩
  · rintro n i ⟨w1, w2⟩ hi hw ih
    refine pk_le 144 i (fun h => by omega) (fun _ => ⟨vp_in_nI hi (by omega), nm_r (rt_uc (y := nI 1000000) (by omega)) ⟨vp_in_nI hi (by omega), nm_r (rt_uc (y := nI 1000000) (by omega)) (nm_r (nI_1 i) ?_)⟩⟩)
    refine ih (_, _) (fun j hj => ?_)
    by_cases c : j = i
    · subst c; exact ⟨pk_us, pk_us⟩
    · exact ⟨(pk_un c).trans (hw j (by omega)).1, (pk_un c).trans (hw j (by omega)).2⟩
/-! flags and signs -/
def rt_OW (f : Int32) (B E L : Nat → Int32) (D : Nat → Nat → Nat) (t k : Nat) : Prop := rt_b f k ∧ D (rt_v B k) t = rt_v L k + D (rt_v E k) t
theorem rx_onWay {post : Int32 → Prop} {f : Int32} {B E L T MF MT C HT HF FL SG bs st up dn : Nat → Int32} (HN : rt_N f B E L) {D : Nat → Nat → Nat} {t k : Nat} (hk : k < 28) (ok : rt_ok bs 12 1000000) (hb : ∀ x, x < 12 → rt_v bs x = D x t) (h1 : rt_OW f B E L D t k → post 1) (h0 : ¬ rt_OW f B E L D t k → post 0) : wpX_isOnTheWay post (f, B, E, L, T, MF, MT, C, HT, HF, FL, SG, bs, st, up, dn) (nI k) := by
  obtain ⟨hB, hE, hL, hl1⟩ := HN
  have q1 := (hB k hk).2
  have q2 := (hE k hk).2
  have q3 := (hL k hk).2
  have q4 := (ok (rt_v B k) (by omega)).2
  have q5 := (ok (rt_v E k) (by omega)).2
  have e1 := hb (rt_v B k) (by omega)
  have e2 := hb (rt_v E k) (by omega)
  unfold wpX_isOnTheWay
  refine rx_isRoad hk (fun hb' => br_f rt_10 ⟨vp_in_nI hk (by omega), pk_in (rt_v B k) 12 (by omega) (rt_rd hB hk), vp_in_nI hk (by omega), vp_in_nI hk (by omega), pk_in (rt_v E k) 12 (by omega) (rt_rd hE hk), ?_⟩) (fun hb' => br_t rfl (h0 (fun z => hb' z.1)))
  refine pk_eq (rt_v bs (rt_v B k)) (rt_v L k + rt_v bs (rt_v E k)) (fun c => h1 ⟨hb', by omega⟩) (fun c => h0 (fun z => c (by have := z.2; omega))) (rt_rde ok (rt_rd hB hk) (by omega)) ?_
  rw [rt_rd hL hk, rt_rde ok (rt_rd hE hk) (by omega), nI_add]
def rt_FG (f : Int32) (B E L : Nat → Int32) (D : Nat → Nat → Nat) (FL : Nat → Int32) (n : Nat) : Prop := ∀ r k, r < 4 → k < 32 → (rt_b (FL r) k ↔ k < 28 ∧ ∃ t, t < n ∧ t / 3 = r ∧ rt_OW f B E L D t k)
theorem rx_prepFlags {post : SX → Prop} {f : Int32} {B E L T MF MT C HT HF FL SG bs st up dn : Nat → Int32} (HN : rt_N f B E L) {D : Nat → Nat → Nat} (hD : rt_AP (rt_eP (rt_b f) B E L) D) (h : ∀ w bs' st', rt_FG f B E L D w 12 → post (f, B, E, L, T, MF, MT, C, HT, HF, w, SG, bs', st', up, dn)) : wpX_prepareFlags post (f, B, E, L, T, MF, MT, C, HT, HF, FL, SG, bs, st, up, dn) := by
  have NR := rt_rev_net (rt_N_net HN)
  have hR := rt_rev_AP (rt_N_net HN) hD
  refine loop_0 (fun n i (w : Nat → Int32) => wX_prepareFlags_2 post f n (nI i) B E L T MF MT C HT HF w SG bs st up dn) (fun i w => ∀ j, j < i → w j = 0) 4 FL (fun j hj => by omega) ?_ ?_
  · intro n w0 hw0
    refine pk_le 4 4 (fun _ => ?_) (fun h => by omega)
    refine loop_0 (fun n i (w : (Nat → Int32) × (Nat → Int32) × (Nat → Int32)) => wX_prepareFlags_22 post n (nI i) f B E L T MF MT C HT HF w.1 SG w.2.1 w.2.2 up dn) (fun i w => rt_FG f B E L D w.1 i) 12 (w0, bs, st) ?_ ?_ ?_
    · intro r k hr hk
      show rt_b (w0 r) k ↔ _
      rw [hw0 r hr]
      exact ⟨fun z => absurd z (rt_b_0 hk), fun ⟨_, t, ht, _⟩ => by omega⟩
    · intro n w i0
      exact pk_le 12 12 (fun _ => h _ _ _ i0) (fun h => by omega)
    · rintro n t ⟨w1, w2, w3⟩ ht i0 ih
      refine pk_le 12 t (fun h => by omega) (fun _ => ?_)
      refine rx_search_ends_begins ht HN.1 HN.2.1 HN.2.2.1 HN.2.2.2 (fun bs1 st1 k1 k2 => ?_)
      rw [rt_eP_rev] at k2
      have hcol : ∀ x, x < 12 → rt_v bs1 x = D x t := fun x hx => rt_SS_eq NR k2 (hR t ht) x hx
      have ed : nI t / 3 = nI (t / 3) := pk_div (d := 3) (by omega) (by omega) (by omega)
      refine loop_0 (fun m i (w : Nat → Int32) => wX_prepareFlags_47 post (wX_prepareFlags_22 post n) (nI t) f m (nI i) B E L T MF MT C HT HF w SG bs1 st1 up dn) (fun i w => ∀ r k, r < 4 → k < 32 → (rt_b (w r) k ↔ (k < 28 ∧ ∃ t', t' < t ∧ t' / 3 = r ∧ rt_OW f B E L D t' k) ∨ (r = t / 3 ∧ k < i ∧ rt_OW f B E L D t k))) 28 w1 ?_ ?_ ?_
      · intro r k hr hk
        rw [i0 r k hr hk]
        exact ⟨fun z => Or.inl z, fun z => z.elim id (fun z => by omega)⟩
      · intro m w j0
        refine pk_le 28 28 (fun _ => nm_r (nI_1 t) ?_) (fun h => by omega)
        refine ih (w, bs1, st1) (fun r k hr hk => ?_)
        rw [show rt_b (w r) k ↔ _ from j0 r k hr hk]
        constructor
        · rintro (⟨c1, t', c2, c3⟩ | ⟨c1, c2, c3⟩)
          · exact ⟨c1, t', by omega, c3⟩
          · exact ⟨c2, t, by omega, c1.symm, c3⟩
        · rintro ⟨c1, t', c2, c3, c4⟩
          by_cases c : t' = t
          · subst c; exact Or.inr ⟨c3.symm, c1, c4⟩
          · exact Or.inl ⟨c1, t', by omega, c3, c4⟩
      · intro m i w hi j0 ih2
        refine pk_le 28 i (fun h => by omega) (fun _ => ?_)
        refine rx_onWay (t := t) HN hi k1 hcol (fun ow => br_f rt_10 ⟨by decide, pk_in (t / 3) 4 (by omega) ed, pk_in (t / 3) 4 (by omega) ed, nm_r (e' := upd w (t / 3) (w (t / 3) ||| ((1 : Int32) <<< (nI i &&& 31)))) (by rw [pk_cl (t / 3) ed (by omega)]) (nm_r (nI_1 i) ?_)⟩) (fun ow => br_t rfl (nm_r (nI_1 i) ?_))
        · refine ih2 _ (fun r k hr hk => ?_)
          have j1 := j0 r k hr hk
          by_cases c : r = t / 3
          · subst c
            rw [pk_us, rt_b_or hk (by omega), j1]
            constructor
            · rintro ((z | ⟨z1, z2, z3⟩) | z)
              · exact Or.inl z
              · exact Or.inr ⟨z1, by omega, z3⟩
              · subst z; exact Or.inr ⟨rfl, by omega, ow⟩
            · rintro (z | ⟨z1, z2, z3⟩)
              · exact Or.inl (Or.inl z)
              · by_cases ck : k = i
                · exact Or.inr ck
                · exact Or.inl (Or.inr ⟨z1, by omega, z3⟩)
          · rw [pk_un c, j1]
            constructor
            · rintro (z | ⟨z1, z2, z3⟩)
              · exact Or.inl z
              · exact absurd z1 c
            · rintro (z | ⟨z1, z2, z3⟩)
              · exact Or.inl z
              · exact absurd z1 c
        · refine ih2 w (fun r k hr hk => ?_)
          rw [j0 r k hr hk]
          constructor
          · rintro (z | ⟨z1, z2, z3⟩)
            · exact Or.inl z
            · exact Or.inr ⟨z1, by omega, z3⟩
          · rintro (z | ⟨z1, z2, z3⟩)
            · exact Or.inl z
            · by_cases ck : k = i
              · subst ck; exact absurd z3 ow
              · exact Or.inr ⟨z1, by omega, z3⟩
  · intro n i w hi hw ih
    refine pk_le 4 i (fun h => by omega) (fun _ => ⟨vp_in_nI hi (by omega), nm_r (rt_uc (y := 0) (by omega)) (nm_r (nI_1 i) ?_)⟩)
    refine ih _ (fun j hj => ?_)
    by_cases c : j = i
    · subst c; exact pk_us
    · exact (pk_un c).trans (hw j (by omega))
def rt_SGN (f : Int32) (B E L : Nat → Int32) (D : Nat → Nat → Nat) (SG : Nat → Int32) (s t : Nat) (n : Nat) : Prop :=
  (SG (s * 12 + t) = -1 ∧ ∀ k, k < n → ¬ (rt_OW f B E L D t k ∧ rt_v B k = s)) ∨ ∃ k, k < 28 ∧ SG (s * 12 + t) = nI k ∧ rt_OW f B E L D t k ∧ rt_v B k = s
theorem rx_prepSigns {post : SX → Prop} {f : Int32} {B E L T MF MT C HT HF FL SG bs st up dn : Nat → Int32} (HN : rt_N f B E L) {D : Nat → Nat → Nat} (hD : rt_AP (rt_eP (rt_b f) B E L) D) (h : ∀ w bs' st', (∀ s t, s < 12 → t < 12 → rt_SGN f B E L D w s t 28) → post (f, B, E, L, T, MF, MT, C, HT, HF, FL, w, bs', st', up, dn)) : wpX_prepareSigns post (f, B, E, L, T, MF, MT, C, HT, HF, FL, SG, bs, st, up, dn) := by
  have NR := rt_rev_net (rt_N_net HN)
  have hR := rt_rev_AP (rt_N_net HN) hD
  refine loop_0 (fun n i (w : (Nat → Int32) × (Nat → Int32) × (Nat → Int32)) => wX_prepareSigns_2 post n (nI i) f B E L T MF MT C HT HF FL w.1 w.2.1 w.2.2 up dn) (fun i w => ∀ s t, s < 12 → t < i → rt_SGN f B E L D w.1 s t 28) 12 (SG, bs, st) (fun s t hs ht => by omega) ?_ ?_
  · intro n w i0
    exact pk_le 12 12 (fun _ => h _ _ _ i0) (fun h => by omega)
  · rintro n t ⟨w1, w2, w3⟩ ht i0 ih
    refine pk_le 12 t (fun h => by omega) (fun _ => ?_)
    refine rx_search_ends_begins ht HN.1 HN.2.1 HN.2.2.1 HN.2.2.2 (fun bs1 st1 k1 k2 => ?_)
    rw [rt_eP_rev] at k2
    have hcol : ∀ x, x < 12 → rt_v bs1 x = D x t := fun x hx => rt_SS_eq NR k2 (hR t ht) x hx
    refine loop_0 (fun m i (w : Nat → Int32) => wX_prepareSigns_27 post (wX_prepareSigns_2 post n) (nI t) f m (nI i) B E L T MF MT C HT HF FL w bs1 st1 up dn) (fun i w => (∀ s t', s < 12 → t' < t → rt_SGN f B E L D w s t' 28) ∧ ∀ s, s < i → w (s * 12 + t) = -1) 12 w1 ⟨i0, fun s hs => by omega⟩ ?_ ?_
    · rintro m w4 ⟨j0, j1⟩
      refine pk_le 12 12 (fun _ => ?_) (fun h => by omega)
      refine loop_0 (fun m i (w : Nat → Int32) => wX_prepareSigns_53 post (wX_prepareSigns_2 post n) (nI t) f m (nI i) B E L T MF MT C HT HF FL w bs1 st1 up dn) (fun i w => (∀ s t', s < 12 → t' < t → rt_SGN f B E L D w s t' 28) ∧ ∀ s, s < 12 → rt_SGN f B E L D w s t i) 28 w4 ⟨j0, fun s hs => Or.inl ⟨j1 s hs, fun k hk => by omega⟩⟩ ?_ ?_
      · rintro m w ⟨l0, l1⟩
        refine pk_le 28 28 (fun _ => nm_r (nI_1 t) ?_) (fun h => by omega)
        refine ih (w, bs1, st1) (fun s t' hs ht' => ?_)
        by_cases c : t' = t
        · subst c; exact l1 s hs
        · exact l0 s t' hs (by omega)
      · rintro m i w hi ⟨l0, l1⟩ ih2
        have q1 := (HN.1 i hi).2
        have q2 : rt_v B i < 12 := by omega
        refine pk_le 28 i (fun h => by omega) (fun _ => ?_)
        refine rx_onWay (t := t) HN hi k1 hcol (fun ow => br_f rt_10 ⟨vp_in_nI hi (by omega), ?_, nm_r (e' := upd w (rt_v B i * 12 + t) (nI i)) (by rw [rt_rd HN.1 hi, rt_cx q2 ht]) (nm_r (nI_1 i) ?_)⟩) (fun ow => br_t rfl (nm_r (nI_1 i) ?_))
        · rw [rt_rd HN.1 hi]; exact rt_inx q2 ht
        · refine ih2 _ ⟨fun s t' hs ht' => ?_, fun s hs => ?_⟩
          · have := l0 s t' hs ht'
            unfold rt_SGN at this ⊢
            rw [pk_un (by omega)]; exact this
          · by_cases c : s = rt_v B i
            · subst c
              exact Or.inr ⟨i, hi, pk_us, ow, rfl⟩
            · rcases l1 s hs with ⟨z1, z2⟩ | ⟨k, hk, z1, z2, z3⟩
              · refine Or.inl ⟨(pk_un (by omega)).trans z1, fun k hk z => ?_⟩
                by_cases ck : k = i
                · subst ck; exact c z.2.symm
                · exact z2 k (by omega) z
              · exact Or.inr ⟨k, hk, (pk_un (by omega)).trans z1, z2, z3⟩
        · refine ih2 w ⟨l0, fun s hs => ?_⟩
          rcases l1 s hs with ⟨z1, z2⟩ | z
          · refine Or.inl ⟨z1, fun k hk z => ?_⟩
            by_cases ck : k = i
            · subst ck; exact ow z.1
            · exact z2 k (by omega) z
          · exact Or.inr z
    · rintro m i w hi ⟨j0, j1⟩ ih2
      refine pk_le 12 i (fun h => by omega) (fun _ => ⟨rt_inx hi ht, nm_r (rt_ucx hi ht) (nm_r (nI_1 i) ?_)⟩)
      refine ih2 _ ⟨fun s t' hs ht' => ?_, fun s hs => ?_⟩
      · have := j0 s t' hs ht'
        unfold rt_SGN at this ⊢
        rw [pk_un (by omega)]; exact this
      · by_cases c : s = i
        · subst c; exact pk_us
        · exact (pk_un (by omega)).trans (j1 s (by omega))
/-! all that is prepared -/
def rt_P (f : Int32) (B E L T MF MT C HT HF FL SG : Nat → Int32) : Prop :=
  rt_N f B E L ∧ rt_ok T 144 1000000 ∧ rt_FW (rt_eP (rt_b f) B E L) 12 (rt_t T) ∧ rt_MK (rt_t T) MF MT 3 ∧
  rt_ok C 144 1000000 ∧ rt_CL (rt_eP (rt_b f) B E L) (rt_t T) 12 (rt_t C) ∧
  rt_ok HT 144 1000000 ∧ rt_ok HF 144 1000000 ∧ rt_LI (rt_tr (rt_t T)) (rt_t HT) 12 ∧ rt_LI (rt_t T) (rt_t HF) 12 ∧
  rt_FG f B E L (rt_t T) FL 12 ∧ ∀ s t, s < 12 → t < 12 → rt_SGN f B E L (rt_t T) SG s t 28
theorem rx_prepare {post : SX → Prop} {f : Int32} {B E L T MF MT C HT HF FL SG bs st up dn : Nat → Int32} (HN : rt_N f B E L) (h : ∀ T' MF' MT' C' HT' HF' FL' SG' bs' st', rt_P f B E L T' MF' MT' C' HT' HF' FL' SG' → post (f, B, E, L, T', MF', MT', C', HT', HF', FL', SG', bs', st', up, dn)) : wpX_prepare post (f, B, E, L, T, MF, MT, C, HT, HF, FL, SG, bs, st, up, dn) := by
  have N := rt_N_net HN
  unfold wpX_prepare
  refine rx_prepTable HN (fun T' a1 a2 => ?_)
  have hD := rt_FW_end N a2
  refine rx_prepMarks HN hD (fun MF' MT' bs1 st1 a3 => ?_)
  refine rx_prepClimb HN hD (fun C' a4 a5 => ?_)
  refine rx_prepHubs HN hD (fun HT' HF' bs2 st2 a6 a7 a8 a9 => ?_)
  refine rx_prepFlags HN hD (fun FL' bs3 st3 a10 => ?_)
  refine rx_prepSigns HN hD (fun SG' bs4 st4 a11 => ?_)
  exact h T' MF' MT' C' HT' HF' FL' SG' bs4 st4 ⟨HN, a1, a2, a3, a4, a5, a6, a7, a8, a9, a10, a11⟩
