/-! walks: the seven ways to find -/
theorem rt_suble {A Q : Prop} {x y : Int32} (a b c : Nat) (ha : a < 2 ^ 30) (hb : b < 2 ^ 30) (hc : c < 2 ^ 30) (hx : x = nI a - nI b) (hy : y = nI c) (h1 : a - b ≤ c → A) (h2 : c < a - b → x = nI (a - b) → Q) : (x ≤ y → A) ∧ (¬ x ≤ y → Q) := by
  subst hx; subst hy
  rw [Int32.le_iff_toInt_le, pk_sub_toInt ha hb, nI_toInt (by omega)]
  refine ⟨fun z => h1 (by omega), fun z => h2 (by omega) (pk_sub (by omega))⟩
theorem rt_mk1 {D : Nat → Nat → Nat} {MF MT : Nat → Int32} (h : rt_MK D MF MT 3) {m x : Nat} (hm : m < 3) (hx : x < 12) : MF (nI (m * 12) + nI x).toNatClampNeg = nI (D (m * 4) x) := by
  rw [pk_cl (m * 12 + x) (nI_add _ _) (by omega)]; exact (h m x hm hx).1
theorem rt_mk2 {D : Nat → Nat → Nat} {MF MT : Nat → Int32} (h : rt_MK D MF MT 3) {m x : Nat} (hm : m < 3) (hx : x < 12) : MT (nI (m * 12) + nI x).toNatClampNeg = nI (D x (m * 4)) := by
  rw [pk_cl (m * 12 + x) (nI_add _ _) (by omega)]; exact (h m x hm hx).2
theorem rx_ltg48 {post : Int32 → Prop} {J : Int32 → Int32 → Prop} {f : Int32} {B E L T MF MT C HT HF FL SG bs st up dn : Nat → Int32} {D : Nat → Nat → Nat} (mk : rt_MK D MF MT 3) (hf : ∀ a b, a < 12 → b < 12 → D a b ≤ 1000000) {p t m c : Nat} (hp : p < 12) (ht : t < 12) (hm : m < 3) (hc : c ≤ 1000000) (h : J (nI (max c (D (m * 4) t - D (m * 4) p))) (nI (m + 1))) : wX_leastToGo_48 post J (nI p) (nI t) (nI c) (nI m) (nI (m * 12)) f B E L T MF MT C HT HF FL SG bs st up dn := by
  have b1 := hf (m * 4) t (by omega) ht
  have b2 := hf (m * 4) p (by omega) hp
  refine ⟨pk_in (m * 12 + t) 36 (by omega) (nI_add _ _), pk_in (m * 12 + p) 36 (by omega) (nI_add _ _), nm_r (e' := nI (D (m * 4) t) - nI (D (m * 4) p)) (by rw [rt_mk1 mk hm ht, rt_mk1 mk hm hp]) ?_⟩
  refine rt_suble (D (m * 4) t) (D (m * 4) p) c (by omega) (by omega) (by omega) rfl rfl (fun hle => nm_r (nI_1 m) ?_) (fun hlt he => nm_r (nI_1 m) ?_)
  · rw [show max c (D (m * 4) t - D (m * 4) p) = c by omega] at h; exact h
  · rw [he]
    rw [show max c (D (m * 4) t - D (m * 4) p) = D (m * 4) t - D (m * 4) p by omega] at h; exact h
theorem rx_ltg {post : Int32 → Prop} {f : Int32} {B E L T MF MT C HT HF FL SG bs st up dn : Nat → Int32} {D : Nat → Nat → Nat} (mk : rt_MK D MF MT 3) (hf : ∀ a b, a < 12 → b < 12 → D a b ≤ 1000000) {p t : Nat} (hp : p < 12) (ht : t < 12) (hpi : ∀ i, i ≤ 3 → rt_pi D t p i ≤ 1000000) (h : post (nI (rt_pi D t p 3))) : wpX_leastToGo post (f, B, E, L, T, MF, MT, C, HT, HF, FL, SG, bs, st, up, dn) (nI p) (nI t) := by
  refine loop_0 (fun n i (w : Int32) => wX_leastToGo_5 post (nI p) (nI t) f B E L T MF MT C HT HF FL SG bs st up dn n w (nI i)) (fun i w => w = nI (rt_pi D t p i)) 3 0 rfl ?_ ?_
  · intro n w e
    subst e
    exact pk_le 3 3 (fun _ => h) (fun h => by omega)
  · intro n m w hm e ih
    subst e
    have b1 := hf p (m * 4) hp (by omega)
    have b2 := hf t (m * 4) ht (by omega)
    have b3 := hpi m (by omega)
    refine pk_le 3 m (fun h => by omega) (fun _ => nm_r (pk_mul m 12) ⟨pk_in (m * 12 + p) 36 (by omega) (nI_add _ _), pk_in (m * 12 + t) 36 (by omega) (nI_add _ _), nm_r (e' := nI (D p (m * 4)) - nI (D t (m * 4))) (by rw [rt_mk2 mk hm hp, rt_mk2 mk hm ht]) ?_⟩)
    refine rt_suble (D p (m * 4)) (D t (m * 4)) (rt_pi D t p m) (by omega) (by omega) (by omega) rfl rfl (fun hle => ?_) (fun hlt he => ?_)
    · refine rx_ltg48 mk hf hp ht hm b3 ?_
      refine ih _ ?_
      show nI _ = nI (max (max (rt_pi D t p m) (D p (m * 4) - D t (m * 4))) (D (m * 4) t - D (m * 4) p))
      rw [show max (rt_pi D t p m) (D p (m * 4) - D t (m * 4)) = rt_pi D t p m by omega]
    · rw [he]
      refine rx_ltg48 mk hf hp ht hm (by omega) ?_
      refine ih _ ?_
      show nI _ = nI (max (max (rt_pi D t p m) (D p (m * 4) - D t (m * 4))) (D (m * 4) t - D (m * 4) p))
      rw [show max (rt_pi D t p m) (D p (m * 4) - D t (m * 4)) = D p (m * 4) - D t (m * 4) by omega]
theorem rx_most {post : Int32 → Prop} {f : Int32} {B E L T MF MT C HT HF FL SG bs st up dn : Nat → Int32} {D : Nat → Nat → Nat} (mk : rt_MK D MF MT 3) (hf : ∀ a b, a < 12 → b < 12 → D a b ≤ 1000000) {t : Nat} (ht : t < 12) (hpi : ∀ p i, p < 12 → i ≤ 3 → rt_pi D t p i ≤ 1000000) (hb : rt_ok bs 12 1000000) (h0 : (∀ q, q < 12 → rt_s st q = false → 1000000 ≤ rt_v bs q + rt_pi D t q 3) → post (-1)) (h1 : ∀ p, p < 12 → rt_s st p = false → rt_v bs p + rt_pi D t p 3 < 1000000 → (∀ q, q < 12 → rt_s st q = false → rt_v bs p + rt_pi D t p 3 ≤ rt_v bs q + rt_pi D t q 3) → post (nI p)) : wpX_mostPromising post (f, B, E, L, T, MF, MT, C, HT, HF, FL, SG, bs, st, up, dn) (nI t) := by
  refine loop_0 (fun n i (w : Int32 × Int32) => wX_mostPromising_8 post (nI t) f B E L T MF MT C HT HF FL SG bs st up dn n w.1 w.2 (nI i)) (fun i w => ∃ m, w.2 = nI m ∧ m ≤ 1000000 ∧ (∀ q, q < i → rt_s st q = false → m ≤ rt_v bs q + rt_pi D t q 3) ∧ ((w.1 = -1 ∧ m = 1000000) ∨ ∃ p, p < 12 ∧ w.1 = nI p ∧ rt_s st p = false ∧ rt_v bs p + rt_pi D t p 3 = m ∧ m < 1000000)) 12 (-1, 1000000) ?_ ?_ ?_
  · exact ⟨1000000, rfl, Nat.le_refl _, fun q hq => by omega, Or.inl ⟨rfl, rfl⟩⟩
  · rintro n ⟨x1, x2⟩ ⟨m, e2, hm, hq, hc⟩
    refine pk_le 12 12 (fun _ => ?_) (fun h => by omega)
    rcases hc with ⟨e1, em⟩ | ⟨p, hp, e1, ho, ev, hlt⟩
    · have e1' : x1 = -1 := e1
      rw [e1']; subst em; exact h0 hq
    · have e1' : x1 = nI p := e1
      rw [e1']; subst ev; exact h1 p hp ho hlt hq
  · rintro n i ⟨x1, x2⟩ hi ⟨m, e2, hm, hq, hc⟩ ih
    have e2' : x2 = nI m := e2
    refine pk_le 12 i (fun h => by omega) (fun _ => ⟨vp_in_nI hi (by omega), ?_⟩)
    by_cases c : st i = 0
    · refine br_t (show st (nI i).toNatClampNeg = 0 by rw [nI_clamp (by omega)]; exact c) ⟨vp_in_nI hi (by omega), ?_⟩
      have hv := hb i hi
      have hpi3 := hpi i 3 hi (by omega)
      refine pk_le m (rt_v bs i) (fun hle => nm_r (nI_1 i) ?_) (fun hlt => ⟨vp_in_nI hi (by omega), ?_⟩) e2' (rt_rd hb hi)
      · refine ih (x1, x2) ⟨m, e2, hm, fun q hq' ho => ?_, hc⟩
        by_cases cq : q = i
        · subst cq; omega
        · exact hq q (by omega) ho
      · refine rx_ltg mk hf hi ht (fun j hj => hpi i j hi hj) (nm_r (e' := nI (rt_v bs i + rt_pi D t i 3)) (by rw [rt_rd hb hi, nI_add]) ?_)
        refine pk_le m (rt_v bs i + rt_pi D t i 3) (fun hle => nm_r (nI_1 i) ?_) (fun hlt => nm_r (nI_1 i) ?_) e2' rfl
        · refine ih (x1, x2) ⟨m, e2, hm, fun q hq' ho => ?_, hc⟩
          by_cases cq : q = i
          · subst cq; exact hle
          · exact hq q (by omega) ho
        · refine ih (nI i, nI (rt_v bs i + rt_pi D t i 3)) ⟨rt_v bs i + rt_pi D t i 3, rfl, by omega, fun q hq' ho => ?_, Or.inr ⟨i, hi, rfl, rt_s_f.mpr c, rfl, by omega⟩⟩
          by_cases cq : q = i
          · subst cq; exact Nat.le_refl _
          · have := hq q (by omega) ho
            omega
    · refine br_f (show ¬ st (nI i).toNatClampNeg = 0 by rw [nI_clamp (by omega)]; exact c) (nm_r (nI_1 i) ?_)
      refine ih (x1, x2) ⟨m, e2, hm, fun q hq' ho => ?_, hc⟩
      by_cases cq : q = i
      · subst cq; exact absurd (rt_s_f.mp ho) c
      · exact hq q (by omega) ho
theorem rx_marks {post : Int32 → SX → Prop} {f : Int32} {B E L T MF MT C HT HF FL SG bs st up dn : Nat → Int32} (HN : rt_N f B E L) {D : Nat → Nat → Nat} (hD : rt_AP (rt_eP (rt_b f) B E L) D) (mk : rt_MK D MF MT 3) {s t : Nat} (hs : s < 12) (ht : t < 12) (h : ∀ bs' st', post (nI (D s t)) (f, B, E, L, T, MF, MT, C, HT, HF, FL, SG, bs', st', up, dn)) : wpX_findByMarks post (f, B, E, L, T, MF, MT, C, HT, HF, FL, SG, bs, st, up, dn) (nI s) (nI t) := by
  have N := rt_N_net HN
  obtain ⟨hB, hE, hL, hl1⟩ := HN
  have hf : ∀ a b, a < 12 → b < 12 → D a b ≤ 1000000 := fun a b ha hb => (hD a ha).2.1 b hb
  have hpi : ∀ p i, p < 12 → i ≤ 3 → rt_pi D t p i ≤ 1000000 := fun p i hp hi => Nat.le_trans (rt_pi_adm N hD ht hp i hi) (hf p t hp ht)
  have hadm : ∀ a, a < 12 → rt_pi D t a 3 ≤ D a t := fun a ha => rt_pi_adm N hD ht ha 3 (Nat.le_refl _)
  have htt : rt_pi D t t 3 = 0 := by
    have := hadm t ht
    have := (hD t ht).1
    omega
  unfold wpX_findByMarks
  refine rx_start hs (fun bs0 st0 k0 k1 k2 k3 => ?_)
  have fin : ∀ (b z : Nat → Int32), rt_ok b 12 1000000 → rt_v b t = D s t → vp_in (nI t) 12 ∧ post (b (nI t).toNatClampNeg) (f, B, E, L, T, MF, MT, C, HT, HF, FL, SG, b, z, up, dn) := by
    intro b z ok e
    refine ⟨vp_in_nI ht (by omega), ?_⟩
    rw [rt_rd ok ht, e]
    exact h b z
  refine loop_0 (fun n i (w : (Nat → Int32) × (Nat → Int32)) => wX_findByMarks_7 post (nI t) n (nI i) f B E L T MF MT C HT HF FL SG w.1 w.2 up dn) (fun i w => rt_ok w.1 12 1000000 ∧ rt_AS (rt_eP (rt_b f) B E L) D s t (fun p => rt_pi D t p 3) (rt_v w.1) (rt_s w.2) i) 12 (bs0, st0) ⟨k0, rt_AS_init N hD hs ht k1 k2 k3⟩ ?_ ?_
  · rintro n ⟨b, z⟩ ⟨i0, i1⟩
    exfalso
    have h1 := rt_c_all i1.2.2.2.2.2.1 t ht
    have h2 := i1.2.2.2.2.2.2
    rw [h1] at h2
    exact absurd h2 (by decide)
  · rintro n i ⟨b, z⟩ hi ⟨i0, i1⟩ ih
    have i0' : rt_ok b 12 1000000 := i0
    have i1' : rt_AS (rt_eP (rt_b f) B E L) D s t (fun p => rt_pi D t p 3) (rt_v b) (rt_s z) i := i1
    refine pk_le 12 i (fun h => by omega) (fun _ => ?_)
    refine rx_most mk hf ht hpi i0' (fun hn => br_t rfl ?_) (fun p hp ho hlt hm => br_f (rt_nm1 (by omega)) ?_)
    · exact fin b z i0' (rt_AS_end N hD hadm i1' hs ht (Or.inl hn))
    · refine pk_eq p t (fun c => ?_) (fun c => ⟨vp_in_nI hp (by omega), nm_r (rt_uc (y := 1) (by omega) rt_n1) ?_⟩)
      · subst c
        refine fin b z i0' (rt_AS_end N hD hadm i1' hs ht (Or.inr (fun q hq hst => ?_)))
        have h1 : rt_v b p + rt_pi D p p 3 ≤ rt_v b q + rt_pi D p q 3 := hm q hq hst
        show rt_v b p ≤ rt_v b q + rt_pi D p q 3
        omega
      · refine rx_goOn_begins_ends hp hB hE hL hl1 i0' (fun bs' j0 j1 => nm_r (nI_1 i) ?_)
        exact ih (bs', upd z p 1) ⟨j0, rt_AS_step N hD (fun a b l w => rt_pi_con N hD w 3 (Nat.le_refl _)) i1' hs ht hp c ho hm j1 rt_s_u1 (fun j _ c => rt_s_un c)⟩
theorem rx_climbFrom {post : SX → Prop} {f : Int32} {B E L T MF MT C HT HF FL SG bs st up dn : Nat → Int32} (HN : rt_N f B E L) {D : Nat → Nat → Nat} (hD : rt_AP (rt_eP (rt_b f) B E L) D) (okC : rt_ok C 144 1000000) (hDC : ∀ a b, a < 12 → b < 12 → D a b ≤ rt_t C a b) {s : Nat} (hs : s < 12) (h : ∀ w, rt_ok w 12 1000000 → rt_v w s = 0 → (∀ i j, i < j → j < 12 → rt_v w j ≤ rt_v w i + rt_t C i j) → (∀ x, x < 12 → D s x ≤ rt_v w x) → post (f, B, E, L, T, MF, MT, C, HT, HF, FL, SG, bs, st, w, dn)) : wpX_climbFrom post (f, B, E, L, T, MF, MT, C, HT, HF, FL, SG, bs, st, up, dn) (nI s) := by
  have N := rt_N_net HN
  have hfar : ∀ a b, a < 12 → b < 12 → D a b ≤ 1000000 := fun a b ha hb => (hD a ha).2.1 b hb
  refine loop_0 (fun n i (w : Nat → Int32) => wX_climbFrom_2 post (nI s) f n (nI i) B E L T MF MT C HT HF FL SG bs st w dn) (fun i w => ∀ j, j < i → w j = nI 1000000) 12 up (fun j hj => by omega) ?_ ?_
  · intro n w0 hw0
    have ok0 : rt_ok w0 12 1000000 := rt_okI (by decide) (fun j hj => ⟨1000000, by omega, hw0 j hj⟩)
    have v0 : ∀ j, j < 12 → rt_v w0 j = 1000000 := fun j hj => rt_v_of (hw0 j hj) (by decide)
    refine pk_le 12 12 (fun _ => ⟨vp_in_nI hs (by omega), nm_r (rt_uc (y := nI 0) (by omega)) ?_⟩) (fun h => by omega)
    refine pk_loop (fun n i (w : Nat → Int32) => wX_climbFrom_31 post f n (nI i) B E L T MF MT C HT HF FL SG bs st w dn) (fun i w => s ≤ i ∧ rt_ok w 12 1000000 ∧ rt_v w s = 0 ∧ (∀ x, x < s → rt_v w x = 1000000) ∧ (∀ p j, p < i → p < j → j < 12 → (fun i j => rt_v w j ≤ rt_v w i + rt_t C i j) p j) ∧ (∀ x, x < 12 → D s x ≤ rt_v w x)) 12 s (upd w0 s (nI 0)) (by omega) ?_ ?_ ?_
    · have hv : ∀ x, x < 12 → rt_v (upd w0 s (nI 0)) x = if x = s then 0 else 1000000 := fun x hx => by
        rw [rt_vu (by decide), v0 x hx]
      refine ⟨Nat.le_refl _, rt_oku ok0 (by omega) (by decide), ?_, fun x hx => ?_, fun p j hp hpj hj => ?_, fun x hx => ?_⟩
      · rw [hv s hs, if_pos rfl]
      · rw [hv x (by omega), if_neg (by omega)]
      · show rt_v _ _ ≤ rt_v _ _ + _
        rw [hv j hj, hv p (by omega), if_neg (show ¬ p = s by omega)]
        split <;> omega
      · rw [hv x hx]
        by_cases c : x = s
        · subst c
          have := (hD x hs).1
          rw [if_pos rfl]; omega
        · rw [if_neg c]; exact hfar _ _ (by assumption) (by assumption)
    · rintro n w ⟨_, i0, i1, i2, i3, i4⟩
      exact pk_le 12 12 (fun _ => h w i0 i1 (fun i j hij hj => i3 i j (by omega) hij hj) i4) (fun h => by omega)
    · rintro n i w hi ⟨hsi, i0, i1, i2, i3, i4⟩ ih
      refine pk_le 12 i (fun h => by omega) (fun _ => nm_r (nI_1 i) ?_)
      refine pk_loop (fun m j (w : Nat → Int32) => wX_climbFrom_41 post (wX_climbFrom_31 post f n) (nI i) f m (nI j) B E L T MF MT C HT HF FL SG bs st w dn) (fun k w => i + 1 ≤ k ∧ rt_ok w 12 1000000 ∧ rt_v w s = 0 ∧ (∀ x, x < s → rt_v w x = 1000000) ∧ (∀ p j, p < i → p < j → j < 12 → (fun i j => rt_v w j ≤ rt_v w i + rt_t C i j) p j) ∧ (∀ x, x < 12 → D s x ≤ rt_v w x) ∧ (∀ j, i < j → j < k → rt_v w j ≤ rt_v w i + rt_t C i j)) 12 (i + 1) w (by omega) ⟨Nat.le_refl _, i0, i1, i2, i3, i4, fun j h1 h2 => by omega⟩ ?_ ?_
      · rintro m w2 ⟨_, j0, j1, j2, j3, j4, j5⟩
        refine pk_le 12 12 (fun _ => nm_r (nI_1 i) ?_) (fun h => by omega)
        refine ih w2 ⟨by omega, j0, j1, j2, fun p j hp hpj hj => ?_, j4⟩
        by_cases c : p = i
        · subst c; exact j5 j hpj hj
        · exact j3 p j (by omega) hpj hj
      · rintro m j w2 hj ⟨hij, j0, j1, j2, j3, j4, j5⟩ ih2
        have b1 := (j0 i hi).2
        have b2 := (rt_tok okC (show i < 12 by assumption) (show j < 12 by assumption)).2
        have b3 := (j0 j hj).2
        refine pk_le 12 j (fun h => by omega) (fun _ => ⟨vp_in_nI hi (by omega), rt_inx hi hj, nm_r (e' := nI (rt_v w2 i + rt_t C i j)) (by rw [rt_rd j0 hi, rt_rdx okC hi hj, nI_add]) ⟨vp_in_nI hj (by omega), ?_⟩⟩)
        refine pk_le (rt_v w2 j) (rt_v w2 i + rt_t C i j) (fun hle => nm_r (nI_1 j) ?_) (fun hlt => ⟨vp_in_nI hj (by omega), nm_r (rt_uc (by omega)) (nm_r (nI_1 j) ?_)⟩) (rt_rd j0 hj) rfl
        · refine ih2 w2 ⟨by omega, j0, j1, j2, j3, j4, fun j' h1 h2 => ?_⟩
          by_cases c : j' = j
          · subst c; exact hle
          · exact j5 j' h1 (by omega)
        · have hv : ∀ x, rt_v (upd w2 j (nI (rt_v w2 i + rt_t C i j))) x = if x = j then rt_v w2 i + rt_t C i j else rt_v w2 x := fun x => rt_vu (by omega) x
          refine ih2 _ ⟨by omega, rt_oku j0 (by omega) (by decide), ?_, fun x hx => ?_, fun p j' hp hpj hj' => ?_, fun x hx => ?_, fun j' h1 h2 => ?_⟩
          · rw [hv, if_neg (by omega)]; exact j1
          · rw [hv, if_neg (by omega)]; exact j2 x hx
          · have := j3 p j' hp hpj hj'
            dsimp only at this ⊢
            rw [hv, hv, if_neg (show ¬ p = j by omega)]
            by_cases c : j' = j
            · subst c; rw [if_pos rfl]; omega
            · rw [if_neg c]; exact this
          · rw [hv]
            by_cases c : x = j
            · rw [if_pos c, c]
              have q1 := rt_tri N hD hs hi hj
              have q2 := j4 i hi
              have q3 := hDC i j (by assumption) (by assumption)
              omega
            · rw [if_neg c]; exact j4 x hx
          · rw [hv, hv, if_neg (show ¬ i = j by omega)]
            by_cases c : j' = j
            · subst c; rw [if_pos rfl]; exact Nat.le_refl _
            · rw [if_neg c]; exact j5 j' h1 (by omega)
  · intro n i w hi hw ih
    refine pk_le 12 i (fun h => by omega) (fun _ => ⟨vp_in_nI hi (by omega), nm_r (rt_uc (y := nI 1000000) (by omega)) (nm_r (nI_1 i) ?_)⟩)
    refine ih _ (fun j hj => ?_)
    by_cases c : j = i
    · subst c; exact pk_us
    · exact (pk_un c).trans (hw j (by omega))
theorem rx_descendTo {post : SX → Prop} {f : Int32} {B E L T MF MT C HT HF FL SG bs st up dn : Nat → Int32} (HN : rt_N f B E L) {D : Nat → Nat → Nat} (hD : rt_AP (rt_eP (rt_b f) B E L) D) (okC : rt_ok C 144 1000000) (hDC : ∀ a b, a < 12 → b < 12 → D a b ≤ rt_t C a b) {s : Nat} (hs : s < 12) (h : ∀ w, rt_ok w 12 1000000 → rt_v w s = 0 → (∀ i j, i < j → j < 12 → rt_v w j ≤ rt_v w i + rt_t C j i) → (∀ x, x < 12 → D x s ≤ rt_v w x) → post (f, B, E, L, T, MF, MT, C, HT, HF, FL, SG, bs, st, up, w)) : wpX_descendTo post (f, B, E, L, T, MF, MT, C, HT, HF, FL, SG, bs, st, up, dn) (nI s) := by
  have N := rt_N_net HN
  have hfar : ∀ a b, a < 12 → b < 12 → D a b ≤ 1000000 := fun a b ha hb => (hD a ha).2.1 b hb
  refine loop_0 (fun n i (w : Nat → Int32) => wX_descendTo_2 post (nI s) f n (nI i) B E L T MF MT C HT HF FL SG bs st up w) (fun i w => ∀ j, j < i → w j = nI 1000000) 12 dn (fun j hj => by omega) ?_ ?_
  · intro n w0 hw0
    have ok0 : rt_ok w0 12 1000000 := rt_okI (by decide) (fun j hj => ⟨1000000, by omega, hw0 j hj⟩)
    have v0 : ∀ j, j < 12 → rt_v w0 j = 1000000 := fun j hj => rt_v_of (hw0 j hj) (by decide)
    refine pk_le 12 12 (fun _ => ⟨vp_in_nI hs (by omega), nm_r (rt_uc (y := nI 0) (by omega)) ?_⟩) (fun h => by omega)
    refine pk_loop (fun n i (w : Nat → Int32) => wX_descendTo_31 post f n (nI i) B E L T MF MT C HT HF FL SG bs st up w) (fun i w => s ≤ i ∧ rt_ok w 12 1000000 ∧ rt_v w s = 0 ∧ (∀ x, x < s → rt_v w x = 1000000) ∧ (∀ p j, p < i → p < j → j < 12 → (fun i j => rt_v w j ≤ rt_v w i + rt_t C j i) p j) ∧ (∀ x, x < 12 → D x s ≤ rt_v w x)) 12 s (upd w0 s (nI 0)) (by omega) ?_ ?_ ?_
    · have hv : ∀ x, x < 12 → rt_v (upd w0 s (nI 0)) x = if x = s then 0 else 1000000 := fun x hx => by
        rw [rt_vu (by decide), v0 x hx]
      refine ⟨Nat.le_refl _, rt_oku ok0 (by omega) (by decide), ?_, fun x hx => ?_, fun p j hp hpj hj => ?_, fun x hx => ?_⟩
      · rw [hv s hs, if_pos rfl]
      · rw [hv x (by omega), if_neg (by omega)]
      · show rt_v _ _ ≤ rt_v _ _ + _
        rw [hv j hj, hv p (by omega), if_neg (show ¬ p = s by omega)]
        split <;> omega
      · rw [hv x hx]
        by_cases c : x = s
        · subst c
          have := (hD x hs).1
          rw [if_pos rfl]; omega
        · rw [if_neg c]; exact hfar _ _ (by assumption) (by assumption)
    · rintro n w ⟨_, i0, i1, i2, i3, i4⟩
      exact pk_le 12 12 (fun _ => h w i0 i1 (fun i j hij hj => i3 i j (by omega) hij hj) i4) (fun h => by omega)
    · rintro n i w hi ⟨hsi, i0, i1, i2, i3, i4⟩ ih
      refine pk_le 12 i (fun h => by omega) (fun _ => nm_r (nI_1 i) ?_)
      refine pk_loop (fun m j (w : Nat → Int32) => wX_descendTo_41 post (wX_descendTo_31 post f n) (nI i) f m (nI j) B E L T MF MT C HT HF FL SG bs st up w) (fun k w => i + 1 ≤ k ∧ rt_ok w 12 1000000 ∧ rt_v w s = 0 ∧ (∀ x, x < s → rt_v w x = 1000000) ∧ (∀ p j, p < i → p < j → j < 12 → (fun i j => rt_v w j ≤ rt_v w i + rt_t C j i) p j) ∧ (∀ x, x < 12 → D x s ≤ rt_v w x) ∧ (∀ j, i < j → j < k → rt_v w j ≤ rt_v w i + rt_t C j i)) 12 (i + 1) w (by omega) ⟨Nat.le_refl _, i0, i1, i2, i3, i4, fun j h1 h2 => by omega⟩ ?_ ?_
      · rintro m w2 ⟨_, j0, j1, j2, j3, j4, j5⟩
        refine pk_le 12 12 (fun _ => nm_r (nI_1 i) ?_) (fun h => by omega)
        refine ih w2 ⟨by omega, j0, j1, j2, fun p j hp hpj hj => ?_, j4⟩
        by_cases c : p = i
        · subst c; exact j5 j hpj hj
        · exact j3 p j (by omega) hpj hj
      · rintro m j w2 hj ⟨hij, j0, j1, j2, j3, j4, j5⟩ ih2
        have b1 := (j0 i hi).2
        have b2 := (rt_tok okC (show j < 12 by assumption) (show i < 12 by assumption)).2
        have b3 := (j0 j hj).2
        refine pk_le 12 j (fun h => by omega) (fun _ => ⟨rt_inx hj hi, vp_in_nI hi (by omega), nm_r (e' := nI (rt_v w2 i + rt_t C j i)) (by rw [rt_rdx okC hj hi, rt_rd j0 hi, nI_add, Nat.add_comm]) ⟨vp_in_nI hj (by omega), ?_⟩⟩)
        refine pk_le (rt_v w2 j) (rt_v w2 i + rt_t C j i) (fun hle => nm_r (nI_1 j) ?_) (fun hlt => ⟨vp_in_nI hj (by omega), nm_r (rt_uc (by omega)) (nm_r (nI_1 j) ?_)⟩) (rt_rd j0 hj) rfl
        · refine ih2 w2 ⟨by omega, j0, j1, j2, j3, j4, fun j' h1 h2 => ?_⟩
          by_cases c : j' = j
          · subst c; exact hle
          · exact j5 j' h1 (by omega)
        · have hv : ∀ x, rt_v (upd w2 j (nI (rt_v w2 i + rt_t C j i))) x = if x = j then rt_v w2 i + rt_t C j i else rt_v w2 x := fun x => rt_vu (by omega) x
          refine ih2 _ ⟨by omega, rt_oku j0 (by omega) (by decide), ?_, fun x hx => ?_, fun p j' hp hpj hj' => ?_, fun x hx => ?_, fun j' h1 h2 => ?_⟩
          · rw [hv, if_neg (by omega)]; exact j1
          · rw [hv, if_neg (by omega)]; exact j2 x hx
          · have := j3 p j' hp hpj hj'
            dsimp only at this ⊢
            rw [hv, hv, if_neg (show ¬ p = j by omega)]
            by_cases c : j' = j
            · subst c; rw [if_pos rfl]; omega
            · rw [if_neg c]; exact this
          · rw [hv]
            by_cases c : x = j
            · rw [if_pos c, c]
              have q1 := rt_tri N hD hj hi hs
              have q2 := j4 i hi
              have q3 := hDC j i (by assumption) (by assumption)
              omega
            · rw [if_neg c]; exact j4 x hx
          · rw [hv, hv, if_neg (show ¬ i = j by omega)]
            by_cases c : j' = j
            · subst c; rw [if_pos rfl]; exact Nat.le_refl _
            · rw [if_neg c]; exact j5 j' h1 (by omega)
  · intro n i w hi hw ih
    refine pk_le 12 i (fun h => by omega) (fun _ => ⟨vp_in_nI hi (by omega), nm_r (rt_uc (y := nI 1000000) (by omega)) (nm_r (nI_1 i) ?_)⟩)
    refine ih _ (fun j hj => ?_)
    by_cases c : j = i
    · subst c; exact pk_us
    · exact (pk_un c).trans (hw j (by omega))
theorem rx_climb {post : Int32 → SX → Prop} {f : Int32} {B E L T MF MT C HT HF FL SG bs st up dn : Nat → Int32} (HN : rt_N f B E L) {D : Nat → Nat → Nat} (hD : rt_AP (rt_eP (rt_b f) B E L) D) (okC : rt_ok C 144 1000000) (hC : rt_CL (rt_eP (rt_b f) B E L) D 12 (rt_t C)) {s t : Nat} (hs : s < 12) (ht : t < 12) (h : ∀ up' dn', post (nI (D s t)) (f, B, E, L, T, MF, MT, C, HT, HF, FL, SG, bs, st, up', dn')) : wpX_findByClimb post (f, B, E, L, T, MF, MT, C, HT, HF, FL, SG, bs, st, up, dn) (nI s) (nI t) := by
  have N := rt_N_net HN
  unfold wpX_findByClimb
  refine rx_climbFrom HN hD okC hC.2.2.2.2.2 hs (fun w a1 a2 a3 a4 => ?_)
  refine rx_descendTo HN hD okC hC.2.2.2.2.2 ht (fun v b1 b2 b3 b4 => ?_)
  refine loop_0 (fun n i (x : Int32) => wX_findByClimb_16 post f B E L T MF MT C HT HF FL SG bs st w v n x (nI i)) (fun i x => ∃ m, x = nI m ∧ m ≤ 1000000 ∧ (∀ j, j < i → m ≤ rt_v w j + rt_v v j) ∧ (m = 1000000 ∨ ∃ j, j < 12 ∧ m = rt_v w j + rt_v v j)) 12 1000000 ⟨1000000, rfl, Nat.le_refl _, fun j hj => by omega, Or.inl rfl⟩ ?_ ?_
  · rintro n x ⟨m, e, hm, k1, k2⟩
    have := rt_climb N hD hC hs ht a2 a3 a4 b2 (fun p j hpj hj => by have := b3 p j hpj hj; omega) b4 hm k1 k2
    subst e
    subst this
    exact pk_le 12 12 (fun _ => h w v) (fun h => by omega)
  · rintro n i x hi ⟨m, e, hm, k1, k2⟩ ih
    have q1 := (a1 i hi).2
    have q2 := (b1 i hi).2
    refine pk_le 12 i (fun h => by omega) (fun _ => ⟨vp_in_nI hi (by omega), vp_in_nI hi (by omega), nm_r (e' := nI (rt_v w i + rt_v v i)) (by rw [rt_rd a1 hi, rt_rd b1 hi, nI_add]) ?_⟩)
    refine pk_le m (rt_v w i + rt_v v i) (fun hle => nm_r (nI_1 i) ?_) (fun hlt => nm_r (nI_1 i) ?_) e rfl
    · refine ih x ⟨m, e, hm, fun j hj => ?_, k2⟩
      by_cases c : j = i
      · subst c; exact hle
      · exact k1 j (by omega)
    · refine ih _ ⟨_, rfl, by omega, fun j hj => ?_, Or.inr ⟨i, hi, rfl⟩⟩
      by_cases c : j = i
      · subst c; exact Nat.le_refl _
      · have := k1 j (by omega)
        omega
theorem rx_flags {post : Int32 → SX → Prop} {f : Int32} {B E L T MF MT C HT HF FL SG bs st up dn : Nat → Int32} (HN : rt_N f B E L) {D : Nat → Nat → Nat} (hD : rt_AP (rt_eP (rt_b f) B E L) D) (hF : rt_FG f B E L D FL 12) {s t : Nat} (hs : s < 12) (ht : t < 12) (h : ∀ bs' st', post (nI (D s t)) (f, B, E, L, T, MF, MT, C, HT, HF, FL, SG, bs', st', up, dn)) : wpX_findByFlags post (f, B, E, L, T, MF, MT, C, HT, HF, FL, SG, bs, st, up, dn) (nI s) (nI t) := by
  have N := rt_N_net HN
  have ed : nI t / 3 = nI (t / 3) := pk_div (d := 3) (by omega) (by omega) (by omega)
  have hr : t / 3 < 4 := by omega
  have ec : FL (nI t / 3).toNatClampNeg = FL (t / 3) := by rw [pk_cl (t / 3) ed (by omega)]
  unfold wpX_findByFlags
  refine ⟨by decide, pk_in (t / 3) 4 hr ed, ?_⟩
  rw [ec]
  refine rx_search_begins_ends hs HN.1 HN.2.1 HN.2.2.1 (fun k hk hb => ?_) (fun bs1 st1 k1 k2 => ⟨vp_in_nI ht (by omega), ?_⟩)
  · obtain ⟨_, t', _, _, ow⟩ := (hF (t / 3) k hr (by omega)).mp hb
    exact HN.2.2.2 k hk ow.1
  · have e := rt_flags N hD hs ht (ef := rt_eP (rt_b (FL (t / 3))) B E L) ?_ ?_ k2
    · rw [rt_rd k1 ht, e]; exact h bs1 st1
    · rintro a b l ⟨k, hk, hb, r⟩
      obtain ⟨_, t', _, _, ow⟩ := (hF (t / 3) k hr (by omega)).mp hb
      exact ⟨k, hk, ow.1, r⟩
    · rintro a b l ⟨k, hk, hb, r1, r2, r3⟩ z
      exact ⟨k, hk, (hF (t / 3) k hr (by omega)).mpr ⟨hk, t, ht, rfl, hb, by rw [r1, r2, r3]; exact z⟩, r1, r2, r3⟩
theorem rx_signs {post : Int32 → Prop} {f : Int32} {B E L T MF MT C HT HF FL SG bs st up dn : Nat → Int32} (HN : rt_N f B E L) {D : Nat → Nat → Nat} (hD : rt_AP (rt_eP (rt_b f) B E L) D) (hS : ∀ s t, s < 12 → t < 12 → rt_SGN f B E L D SG s t 28) {s t : Nat} (hs : s < 12) (ht : t < 12) (h : post (nI (D s t))) : wpX_findBySigns post (f, B, E, L, T, MF, MT, C, HT, HF, FL, SG, bs, st, up, dn) (nI s) (nI t) := by
  have N := rt_N_net HN
  have hst := (hD s hs).2.1 t ht
  refine loop_0 (fun n i (w : Int32 × Int32) => wX_findBySigns_8 post (nI t) f B E L T MF MT C HT HF FL SG bs st up dn n w.1 w.2 (nI i)) (fun i w => ∃ p l, w.1 = nI p ∧ w.2 = nI l ∧ p < 12 ∧ l + D p t = D s t ∧ rt_rk D t p + i < 12) 12 (nI s, 0) ⟨s, 0, rfl, rfl, hs, by omega, by have := rt_rk_11 (D := D) (t := t) hs; omega⟩ ?_ ?_
  · rintro n w ⟨p, l, _, _, _, _, z⟩
    exfalso
    omega
  · rintro n i ⟨x1, x2⟩ hi ⟨p, l, e1, e2, hp, hl, hr⟩ ih
    have e1' : x1 = nI p := e1
    have e2' : x2 = nI l := e2
    subst e1'; subst e2'
    refine pk_le 12 i (fun h => by omega) (fun _ => ?_)
    refine pk_eq p t (fun c => ?_) (fun c => ⟨rt_inx hp ht, ?_⟩)
    · subst c
      have := (hD p hp).1
      rw [show D s p = l by omega] at h
      exact h
    · rcases hS p t hp ht with ⟨z1, z2⟩ | ⟨k, hk, z1, z2, z3⟩
      · refine nm_r (e' := -1) (by rw [rt_cx hp ht]; exact z1) ?_
        refine br_t (by decide) (br_t rfl ?_)
        have : D s t = 1000000 := by
          rcases rt_first N hD hp ht c with w | ⟨b, l', ⟨k, hk, w1, w2, w3, w4⟩, r⟩
          · omega
          · refine absurd ⟨⟨w1, ?_⟩, w2⟩ (z2 k hk)
            rw [w2, w3, w4]; exact r
        rw [this] at h
        exact h
      · have q1 := (HN.2.2.1 k hk)
        have q2 := (HN.2.1 k hk)
        have q3 := HN.2.2.2 k hk z2.1
        have q4 := z2.2
        rw [z3] at q4
        refine nm_r (e' := nI k) (by rw [rt_cx hp ht]; exact z1) ?_
        refine rx_isRoad hk (fun hb => br_f rt_10 ⟨vp_in_nI hk (by omega), nm_r (e' := nI (l + rt_v L k)) (by rw [rt_rd HN.2.2.1 hk, nI_add]) ⟨vp_in_nI hk (by omega), nm_r (rt_rd HN.2.1 hk) (nm_r (nI_1 i) ?_)⟩⟩) (fun hb => absurd z2.1 hb)
        have hlt := rt_rk_lt (D := D) (t := t) (p := p) (b := rt_v E k) (by omega) (by omega)
        exact ih (nI (rt_v E k), nI (l + rt_v L k)) ⟨rt_v E k, l + rt_v L k, rfl, rfl, by omega, by omega, by omega⟩
theorem rx_plain {post : Int32 → SX → Prop} {f : Int32} {B E L T MF MT C HT HF FL SG bs st up dn : Nat → Int32} (HN : rt_N f B E L) {D : Nat → Nat → Nat} (hD : rt_AP (rt_eP (rt_b f) B E L) D) {s t : Nat} (hs : s < 12) (ht : t < 12) (h : ∀ bs' st', post (nI (D s t)) (f, B, E, L, T, MF, MT, C, HT, HF, FL, SG, bs', st', up, dn)) : wpX_findPlainly post (f, B, E, L, T, MF, MT, C, HT, HF, FL, SG, bs, st, up, dn) (nI s) (nI t) := by
  unfold wpX_findPlainly
  refine rx_search_begins_ends hs HN.1 HN.2.1 HN.2.2.1 HN.2.2.2 (fun bs1 st1 k1 k2 => ⟨vp_in_nI ht (by omega), ?_⟩)
  rw [rt_rd k1 ht, rt_SS_eq (rt_N_net HN) k2 (hD s hs) t ht]
  exact h bs1 st1
theorem rx_find {post : Int32 → SX → Prop} {f : Int32} {B E L T MF MT C HT HF FL SG bs st up dn : Nat → Int32} (HP : rt_P f B E L T MF MT C HT HF FL SG) {g s t : Nat} (hg : g < 7) (hs : s < 12) (ht : t < 12) (h : ∀ bs' st' up' dn', post (nI (rt_t T s t)) (f, B, E, L, T, MF, MT, C, HT, HF, FL, SG, bs', st', up', dn')) : wpX_find post (f, B, E, L, T, MF, MT, C, HT, HF, FL, SG, bs, st, up, dn) (nI g) (nI s) (nI t) := by
  obtain ⟨HN, p1, p2, p3, p4, p5, p6, p7, p8, p9, p10, p11⟩ := HP
  have N := rt_N_net HN
  have hD := rt_FW_end N p2
  unfold wpX_find
  refine br_f (nI_pos (by omega)) (br_f (nI_nlt (a := 6) (by omega) (by omega)) ?_)
  refine pk_eq g 0 (fun _ => ?_) (fun c0 => pk_eq g 1 (fun _ => ⟨rt_inx hs ht, ?_⟩) (fun c1 => pk_eq g 2 (fun _ => ?_) (fun c2 => pk_eq g 3 (fun _ => ?_) (fun c3 => pk_eq g 4 (fun _ => ?_) (fun c4 => pk_eq g 5 (fun _ => ?_) (fun c5 => pk_eq g 6 (fun _ => ?_) (fun c6 => trivial)))))))
  · unfold wX_find_99
    exact rx_plain HN hD hs ht (fun bs' st' => h bs' st' up dn)
  · rw [rt_rdx p1 hs ht]; exact h bs st up dn
  · exact rx_marks HN hD p3 hs ht (fun bs' st' => h bs' st' up dn)
  · exact rx_climb HN hD p4 p5 hs ht (fun up' dn' => h bs st up' dn')
  · refine rx_fbh_toHub_fromHub hs ht p6 p7 (fun r hr => ?_)
    rw [rt_hubs N hD hs ht (rt_LI_LO p8 (Nat.le_refl _)) (rt_LI_LO p9 (Nat.le_refl _)) hr]
    exact h bs st up dn
  · exact rx_flags HN hD p10 hs ht (fun bs' st' => h bs' st' up dn)
  · exact rx_signs HN hD p11 hs ht (h bs st up dn)
