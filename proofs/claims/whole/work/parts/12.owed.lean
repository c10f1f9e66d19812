/-! what is owed -/
theorem i_vc_add {k : Nat} {u : SX} {v : SY} (I : i_Rel k u v) (hk : k + 4 ≤ 2048) (v1 : Int32) (v2 : Int32) (v3 : Int32) : wpX_add (fun r u' => wpY_add (fun r' v' => r' = r ∧ i_Rel (k + 4) u' v') v v1 v2 v3) u v1 v2 v3 := by
  obtain ⟨f, B, E, L, T, MF, MT, C, HT, HF, FL, SG, bs, st, up, dn, TH, LE, rfl, rfl, HP, hT, hb⟩ := I
  have R : i_Rel (k + 4) (f, B, E, L, T, MF, MT, C, HT, HF, FL, SG, bs, st, up, dn) (TH, B, E, L, LE) := rt_rel HP hT hb
  unfold wpX_add wpY_add
  rcases rt_pt v1 with b1 | ⟨a, ha, rfl⟩
  · exact rx_pt_bad b1 (br_t rfl (ry_pt_bad b1 (br_t rfl ⟨rfl, R⟩)))
  rcases rt_pt v2 with b2 | ⟨b, hb', rfl⟩
  · exact rx_pt ha (br_f rt_10 (rx_pt_bad b2 (br_t rfl (ry_pt ha (br_f rt_10 (ry_pt_bad b2 (br_t rfl ⟨rfl, R⟩)))))))
  refine rx_pt ha (br_f rt_10 (rx_pt hb' (br_f rt_10 ?_)))
  refine pk_eq a b (fun c => ry_pt ha (br_f rt_10 (ry_pt hb' (br_f rt_10 (br_t (congrArg nI c) ⟨rfl, R⟩))))) (fun c => ?_)
  have c' : ¬ nI a = nI b := fun z => c ((nI_eq (by omega) (by omega)).mp z)
  rcases rt_len v3 with b3 | ⟨l, h1, h2, rfl⟩
  · exact rx_len_bad b3 (br_t rfl (ry_pt ha (br_f rt_10 (ry_pt hb' (br_f rt_10 (br_f c' (ry_len_bad b3 (br_t rfl ⟨rfl, R⟩))))))))
  refine rx_len h1 h2 (br_f rt_10 ?_)
  refine rx_add_loop HP.1 ha hb' h1 h2 (fun hf => ?_) (fun j hj z1 z2 T' MF' MT' C' HT' HF' FL' SG' bs' st' HP' => ?_)
  · refine ry_pt ha (br_f rt_10 (ry_pt hb' (br_f rt_10 (br_f c' (ry_len h1 h2 (br_f rt_10 ?_))))))
    exact ry_add_full (fun j hj z => (hT j hj).mp z (hf j hj)) ⟨rfl, R⟩
  · refine ry_pt ha (br_f rt_10 (ry_pt hb' (br_f rt_10 (br_f c' (ry_len h1 h2 (br_f rt_10 ?_))))))
    refine ry_add_at hj ((hT j hj).mpr z1) (fun i hi z => (hT i (by omega)).mp z (z2 i hi)) ⟨rfl, ?_⟩
    refine rt_rel HP' (fun i hi => ?_) (fun i h28 h32 z => ?_)
    · rw [rt_b_or (by omega) (by omega)]
      by_cases c : i = j
      · subst c
        rw [pk_us]
        exact ⟨fun z => absurd z (by decide), fun z => absurd (Or.inr rfl) z⟩
      · rw [pk_un c, hT i hi]
        exact ⟨fun z w => w.elim z c, fun z w => z (Or.inl w)⟩
    · rcases (rt_b_or h32 (by omega)).mp z with w | w
      · exact hb i h28 h32 w
      · omega
theorem i_vc_remove {k : Nat} {u : SX} {v : SY} (I : i_Rel k u v) (hk : k + 4 ≤ 2048) (v1 : Int32) : wpX_remove (fun r u' => wpY_remove (fun r' v' => r' = r ∧ i_Rel (k + 4) u' v') v v1) u v1 := by
  obtain ⟨f, B, E, L, T, MF, MT, C, HT, HF, FL, SG, bs, st, up, dn, TH, LE, rfl, rfl, HP, hT, hb⟩ := I
  have R : i_Rel (k + 4) (f, B, E, L, T, MF, MT, C, HT, HF, FL, SG, bs, st, up, dn) (TH, B, E, L, LE) := rt_rel HP hT hb
  unfold wpX_remove wpY_remove
  rcases rt_rd28 f v1 with b1 | ⟨j, hj, rfl, hbj⟩
  · exact rx_rd_bad b1 (br_t rfl (ry_is_bad hT b1 (br_t rfl ⟨rfl, R⟩)))
  refine rx_isRoad hj (fun _ => br_f rt_10 (nm_e ?_)) (fun z => absurd hbj z)
  refine rx_prepare (rt_N_rem HP.1 hj) (fun T' MF' MT' C' HT' HF' FL' SG' bs' st' HP' => ⟨vp_in_nI hj (by omega), ?_⟩)
  refine ry_is hT hj (fun _ => br_f rt_10 ⟨vp_in_nI hj (by omega), nm_r (rt_uc (y := 0) (by omega) rt_n0) ⟨vp_in_nI hj (by omega), rfl, ?_⟩⟩) (fun z => absurd hbj z)
  refine rt_rel HP' (fun i hi => ?_) (fun i h28 h32 z => hb i h28 h32 ((rt_b_clr h32 (by omega)).mp z).1)
  rw [rt_b_clr (by omega) (by omega)]
  by_cases c : i = j
  · subst c
    rw [pk_us]
    exact ⟨fun _ z => z.2 rfl, fun _ => rfl⟩
  · rw [pk_un c, hT i hi]
    exact ⟨fun z w => z w.1, fun z w => z ⟨w, c⟩⟩
theorem i_vc_change {k : Nat} {u : SX} {v : SY} (I : i_Rel k u v) (hk : k + 4 ≤ 2048) (v1 : Int32) (v2 : Int32) : wpX_change (fun r u' => wpY_change (fun r' v' => r' = r ∧ i_Rel (k + 4) u' v') v v1 v2) u v1 v2 := by
  obtain ⟨f, B, E, L, T, MF, MT, C, HT, HF, FL, SG, bs, st, up, dn, TH, LE, rfl, rfl, HP, hT, hb⟩ := I
  have R : i_Rel (k + 4) (f, B, E, L, T, MF, MT, C, HT, HF, FL, SG, bs, st, up, dn) (TH, B, E, L, LE) := rt_rel HP hT hb
  unfold wpX_change wpY_change
  rcases rt_rd28 f v1 with b1 | ⟨j, hj, rfl, hbj⟩
  · exact rx_rd_bad b1 (br_t rfl (ry_is_bad hT b1 (br_t rfl ⟨rfl, R⟩)))
  refine rx_isRoad hj (fun _ => br_f rt_10 ?_) (fun z => absurd hbj z)
  rcases rt_len v2 with b3 | ⟨l, h1, h2, rfl⟩
  · exact rx_len_bad b3 (br_t rfl (ry_is hT hj (fun _ => br_f rt_10 (ry_len_bad b3 (br_t rfl ⟨rfl, R⟩))) (fun z => absurd hbj z)))
  refine rx_len h1 h2 (br_f rt_10 ⟨vp_in_nI hj (by omega), nm_e ⟨vp_in_nI hj (by omega), nm_r (rt_uc (by omega)) ?_⟩⟩)
  refine rx_prepare (rt_N_chg HP.1 h1 h2) (fun T' MF' MT' C' HT' HF' FL' SG' bs' st' HP' => ?_)
  refine ry_is hT hj (fun _ => br_f rt_10 (ry_len h1 h2 (br_f rt_10 ⟨vp_in_nI hj (by omega), nm_e ⟨vp_in_nI hj (by omega), nm_r (rt_uc (by omega)) ⟨rfl, ?_⟩⟩⟩))) (fun z => absurd hbj z)
  exact rt_rel HP' hT hb
theorem i_vc_roads {k : Nat} {u : SX} {v : SY} (I : i_Rel k u v) (hk : k + 4 ≤ 2048) : wpX_roads (fun r => wpY_roads (fun r' => r' = r ∧ i_Rel (k + 4) u v) v) u := by
  obtain ⟨f, B, E, L, T, MF, MT, C, HT, HF, FL, SG, bs, st, up, dn, TH, LE, rfl, rfl, HP, hT, hb⟩ := I
  refine ry_roads (fun r hr => ⟨?_, rt_rel HP hT hb⟩)
  apply rt_b_ext
  intro j hj
  rw [hr j hj]
  show (j < 28 ∧ ¬ TH j = 0) ↔ rt_b f j
  by_cases c : j < 28
  · rw [hT j c]
    exact ⟨fun z => Classical.byContradiction z.2, fun z => ⟨c, fun w => w z⟩⟩
  · exact ⟨fun z => absurd z.1 c, fun z => absurd z (hb j (by omega) hj)⟩
theorem i_vc_distance {k : Nat} {u : SX} {v : SY} (I : i_Rel k u v) (hk : k + 4 ≤ 2048) (v1 : Int32) (v2 : Int32) (v3 : Int32) : wpX_distance (fun r u' => wpY_distance (fun r' v' => r' = r ∧ i_Rel (k + 4) u' v') v v1 v2 v3) u v1 v2 v3 := by
  obtain ⟨f, B, E, L, T, MF, MT, C, HT, HF, FL, SG, bs, st, up, dn, TH, LE, rfl, rfl, HP, hT, hb⟩ := I
  have R : i_Rel (k + 4) (f, B, E, L, T, MF, MT, C, HT, HF, FL, SG, bs, st, up, dn) (TH, B, E, L, LE) := rt_rel HP hT hb
  have HN := HP.1
  have hD := rt_FW_end (rt_N_net HN) HP.2.2.1
  unfold wpX_distance wpY_distance
  rcases rt_eng v1 with b1 | ⟨g, hg, rfl⟩
  · exact rx_eng_bad b1 (br_t rfl (ry_eng_bad b1 (br_t rfl ⟨rfl, R⟩)))
  rcases rt_pt v2 with b2 | ⟨s, hs, rfl⟩
  · exact rx_eng hg (br_f rt_10 (rx_pt_bad b2 (br_t rfl (ry_eng hg (br_f rt_10 (ry_pt_bad b2 (br_t rfl ⟨rfl, R⟩)))))))
  rcases rt_pt v3 with b3 | ⟨t, ht, rfl⟩
  · exact rx_eng hg (br_f rt_10 (rx_pt hs (br_f rt_10 (rx_pt_bad b3 (br_t rfl (ry_eng hg (br_f rt_10 (ry_pt hs (br_f rt_10 (ry_pt_bad b3 (br_t rfl ⟨rfl, R⟩)))))))))))
  have hf := (hD s hs).2.1 t ht
  refine rx_eng hg (br_f rt_10 (rx_pt hs (br_f rt_10 (rx_pt ht (br_f rt_10 ?_)))))
  refine rx_find HP hg hs ht (fun bs' st' up' dn' => ?_)
  refine rx_orNone (by omega) (fun c => ?_) (fun c => ?_)
  · refine ry_eng hg (br_f rt_10 (ry_pt hs (br_f rt_10 (ry_pt ht (br_f rt_10 ?_)))))
    refine ry_measure hs HN.1 HN.2.1 HN.2.2.1 (rt_TH_P hT) HN.2.2.2 (hD s hs) (fun LE' k1 _ => ?_)
    exact ry_way hs ht ((k1 t ht).trans (rt_en_lt (by omega))) ⟨rfl, rt_rel HP hT hb⟩
  · refine ry_eng hg (br_f rt_10 (ry_pt hs (br_f rt_10 (ry_pt ht (br_f rt_10 ?_)))))
    refine ry_measure hs HN.1 HN.2.1 HN.2.2.1 (rt_TH_P hT) HN.2.2.2 (hD s hs) (fun LE' k1 _ => ?_)
    have e : rt_t T s t = 1000000 := by omega
    have k2 := k1 t ht
    rw [e, rt_en_far] at k2
    exact ry_way hs ht k2 ⟨rfl, rt_rel HP hT hb⟩
theorem i_vc_agree {k : Nat} {u : SX} {v : SY} (I : i_Rel k u v) (hk : k + 4 ≤ 2048) (v1 : Int32) (v2 : Int32) : wpX_agree (fun r u' => wpY_agree (fun r' => r' = r ∧ i_Rel (k + 4) u' v) v v1 v2) u v1 v2 := by
  obtain ⟨f, B, E, L, T, MF, MT, C, HT, HF, FL, SG, bs, st, up, dn, TH, LE, rfl, rfl, HP, hT, hb⟩ := I
  have R : i_Rel (k + 4) (f, B, E, L, T, MF, MT, C, HT, HF, FL, SG, bs, st, up, dn) (TH, B, E, L, LE) := rt_rel HP hT hb
  unfold wpY_agree
  rcases rt_eng v1 with b1 | ⟨g, hg, rfl⟩
  · unfold wpX_agree
    exact rx_eng_bad b1 (br_t rfl (ry_eng_bad b1 (br_t rfl ⟨rfl, R⟩)))
  rcases rt_eng v2 with b2 | ⟨g2, hg2, rfl⟩
  · unfold wpX_agree
    exact rx_eng hg (br_f rt_10 (rx_eng_bad b2 (br_t rfl (ry_eng hg (br_f rt_10 (ry_eng_bad b2 (br_t rfl ⟨rfl, R⟩)))))))
  refine rx_agree HP hg hg2 (fun bs' st' up' dn' => ?_)
  exact ry_eng hg (br_f rt_10 (ry_eng hg2 (br_f rt_10 ⟨rfl, rt_rel HP hT hb⟩)))
theorem i_vc_between {k : Nat} {u : SX} {v : SY} (I : i_Rel k u v) (hk : k + 4 ≤ 2048) (v1 : Int32) (v2 : Int32) : wpX_between (fun r => wpY_between (fun r' v' => r' = r ∧ i_Rel (k + 4) u v') v v1 v2) u v1 v2 := by
  obtain ⟨f, B, E, L, T, MF, MT, C, HT, HF, FL, SG, bs, st, up, dn, TH, LE, rfl, rfl, HP, hT, hb⟩ := I
  have R : i_Rel (k + 4) (f, B, E, L, T, MF, MT, C, HT, HF, FL, SG, bs, st, up, dn) (TH, B, E, L, LE) := rt_rel HP hT hb
  have HN := HP.1
  have hD := rt_FW_end (rt_N_net HN) HP.2.2.1
  have hfar : ∀ a b, a < 12 → b < 12 → rt_t T a b ≤ 1000000 := fun a b ha hb => (hD a ha).2.1 b hb
  unfold wpY_between
  rcases rt_pt v1 with b1 | ⟨s, hs, rfl⟩
  · unfold wpX_between
    exact rx_pt_bad b1 (br_t rfl (ry_pt_bad b1 (br_t rfl ⟨rfl, R⟩)))
  rcases rt_pt v2 with b2 | ⟨t, ht, rfl⟩
  · unfold wpX_between
    exact rx_pt hs (br_f rt_10 (rx_pt_bad b2 (br_t rfl (ry_pt hs (br_f rt_10 (ry_pt_bad b2 (br_t rfl ⟨rfl, R⟩)))))))
  refine rx_between HP.2.1 hs ht (fun c => ?_) (fun c r hr => ?_)
  · refine ry_pt hs (br_f rt_10 (ry_pt ht (br_f rt_10 ?_)))
    refine ry_all HN.1 HN.2.1 HN.2.2.1 (rt_TH_P hT) HN.2.2.2 hD (fun LE' k1 => ?_)
    refine ry_between_loop hfar k1 hs ht (fun r' hr' => ⟨?_, rt_rel HP hT hb⟩)
    refine rt_bl_eq (R := fun _ => False) hr' (fun j hj => ⟨fun z => absurd z (rt_b_0 hj), fun z => z.2.elim⟩) (fun j hj => ⟨fun z => ?_, fun z => z.elim⟩)
    have h1 := hfar s j hs hj
    have h2 := hfar j t hj ht
    have h3 := z.2.2
    rw [c, rt_en_far] at h3
    have h4 : (nI (rt_t T s j + rt_t T j t)).toInt = (-3 : Int32).toInt := by rw [h3]
    rw [nI_toInt (by omega)] at h4
    have h5 : (-3 : Int32).toInt = -3 := by decide
    omega
  · refine ry_pt hs (br_f rt_10 (ry_pt ht (br_f rt_10 ?_)))
    refine ry_all HN.1 HN.2.1 HN.2.2.1 (rt_TH_P hT) HN.2.2.2 hD (fun LE' k1 => ?_)
    refine ry_between_loop hfar k1 hs ht (fun r' hr' => ⟨?_, rt_rel HP hT hb⟩)
    refine rt_bl_eq hr' hr (fun j hj => ?_)
    have h0 := hfar s t hs ht
    have h1 := hfar s j hs hj
    have h2 := hfar j t hj ht
    rw [rt_en_lt c, nI_eq (by omega) (by omega)]
    exact ⟨fun z => z.2.2, fun z => ⟨by omega, by omega, z⟩⟩
theorem i_vc_around {k : Nat} {u : SX} {v : SY} (I : i_Rel k u v) (hk : k + 4 ≤ 2048) (v1 : Int32) (v2 : Int32) : wpX_around (fun r => wpY_around (fun r' v' => r' = r ∧ i_Rel (k + 4) u v') v v1 v2) u v1 v2 := by
  obtain ⟨f, B, E, L, T, MF, MT, C, HT, HF, FL, SG, bs, st, up, dn, TH, LE, rfl, rfl, HP, hT, hb⟩ := I
  have R : i_Rel (k + 4) (f, B, E, L, T, MF, MT, C, HT, HF, FL, SG, bs, st, up, dn) (TH, B, E, L, LE) := rt_rel HP hT hb
  have HN := HP.1
  have hD := rt_FW_end (rt_N_net HN) HP.2.2.1
  unfold wpY_around
  rcases rt_pt v1 with b1 | ⟨s, hs, rfl⟩
  · unfold wpX_around
    exact rx_pt_bad b1 (br_t rfl (ry_pt_bad b1 (br_t rfl ⟨rfl, R⟩)))
  refine rx_around HP.2.1 hs (fun r hr => ?_)
  refine ry_pt hs (br_f rt_10 ?_)
  refine ry_measure hs HN.1 HN.2.1 HN.2.2.1 (rt_TH_P hT) HN.2.2.2 (hD s hs) (fun LE' k1 _ => ?_)
  refine ry_around_loop hs (hD s hs).2.1 k1 (fun r' hr' => ⟨?_, rt_rel HP hT hb⟩)
  exact rt_bl_eq hr' hr (fun j hj => Iff.rfl)
theorem i_vc_detour {k : Nat} {u : SX} {v : SY} (I : i_Rel k u v) (hk : k + 4 ≤ 2048) (v1 : Int32) : wpX_detour (fun r u' => wpY_detour (fun r' v' => r' = r ∧ i_Rel (k + 4) u' v') v v1) u v1 := by
  obtain ⟨f, B, E, L, T, MF, MT, C, HT, HF, FL, SG, bs, st, up, dn, TH, LE, rfl, rfl, HP, hT, hb⟩ := I
  have R : i_Rel (k + 4) (f, B, E, L, T, MF, MT, C, HT, HF, FL, SG, bs, st, up, dn) (TH, B, E, L, LE) := rt_rel HP hT hb
  have HN := HP.1
  have hD := rt_FW_end (rt_N_net HN) HP.2.2.1
  have ok := HP.2.1
  unfold wpX_detour
  rcases rt_rd28 f v1 with b1 | ⟨j, hj, rfl, hbj⟩
  · unfold wpY_detour
    exact rx_rd_bad b1 (br_t rfl (ry_is_bad hT b1 (br_t rfl ⟨rfl, R⟩)))
  have q1 := (HN.1 j hj).2
  have q2 := (HN.2.1 j hj).2
  have hs : rt_v B j < 12 := by omega
  have ht : rt_v E j < 12 := by omega
  refine rx_isRoad hj (fun _ => br_f rt_10 ⟨vp_in_nI hj (by omega), nm_r (rt_rd HN.1 hj) ⟨vp_in_nI hj (by omega), nm_r (rt_rd HN.2.1 hj) ?_⟩⟩) (fun z => absurd hbj z)
  refine rx_search_begins_ends hs HN.1 HN.2.1 HN.2.2.1 (rt_N_rem HN hj).2.2.2 (fun bs' st' k1 k2 => ⟨vp_in_nI ht (by omega), ?_⟩)
  have b5 := (k1 (rt_v E j) ht).2
  refine pk_eq (rt_v bs' (rt_v E j)) 1000000 (fun c => ?_) (fun c => ⟨vp_in_nI ht (by omega), rt_inx hs ht, ?_⟩) (rt_rd k1 ht) rfl
  · refine ry_detour HN hT hj hbj hD k2 (fun LE' => ⟨?_, rt_rel HP hT hb⟩)
    rw [if_pos c]
  · refine ry_detour HN hT hj hbj hD k2 (fun LE' => ⟨?_, rt_rel HP hT hb⟩)
    rw [if_neg c, rt_rd k1 ht, rt_rdx ok hs ht]
theorem i_vc_farthest {k : Nat} {u : SX} {v : SY} (I : i_Rel k u v) (hk : k + 4 ≤ 2048) (v1 : Int32) : wpX_farthest (fun r => wpY_farthest (fun r' v' => r' = r ∧ i_Rel (k + 4) u v') v v1) u v1 := by
  obtain ⟨f, B, E, L, T, MF, MT, C, HT, HF, FL, SG, bs, st, up, dn, TH, LE, rfl, rfl, HP, hT, hb⟩ := I
  have R : i_Rel (k + 4) (f, B, E, L, T, MF, MT, C, HT, HF, FL, SG, bs, st, up, dn) (TH, B, E, L, LE) := rt_rel HP hT hb
  have HN := HP.1
  have hD := rt_FW_end (rt_N_net HN) HP.2.2.1
  unfold wpX_farthest
  rcases rt_pt v1 with b1 | ⟨s, hs, rfl⟩
  · unfold wpY_farthest
    exact rx_pt_bad b1 (br_t rfl (ry_pt_bad b1 (br_t rfl ⟨rfl, R⟩)))
  refine rx_pt hs (br_f rt_10 (rx_great HP.2.1 hs (fun m hm => ?_)))
  exact ry_farthest hs HN hT (hD s hs) (fun m' LE' hm' => ⟨congrArg nI (rt_mx_eq hm' hm), rt_rel HP hT hb⟩)
theorem i_vc_widest {k : Nat} {u : SX} {v : SY} (I : i_Rel k u v) (hk : k + 4 ≤ 2048) : wpX_widest (fun r => wpY_widest (fun r' v' => r' = r ∧ i_Rel (k + 4) u v') v) u := by
  obtain ⟨f, B, E, L, T, MF, MT, C, HT, HF, FL, SG, bs, st, up, dn, TH, LE, rfl, rfl, HP, hT, hb⟩ := I
  have hD := rt_FW_end (rt_N_net HP.1) HP.2.2.1
  refine rx_widest HP.2.1 (fun m hm => ?_)
  exact ry_widest HP.1 hT hD (fun m' LE' hm' => ⟨congrArg nI (rt_mx2_eq hm' hm), rt_rel HP hT hb⟩)
theorem i_vc_needless {k : Nat} {u : SX} {v : SY} (I : i_Rel k u v) (hk : k + 4 ≤ 2048) : wpX_needless (fun r => wpY_needless (fun r' v' => r' = r ∧ i_Rel (k + 4) u v') v) u := by
  obtain ⟨f, B, E, L, T, MF, MT, C, HT, HF, FL, SG, bs, st, up, dn, TH, LE, rfl, rfl, HP, hT, hb⟩ := I
  have hD := rt_FW_end (rt_N_net HP.1) HP.2.2.1
  refine rx_needless HP.1 HP.2.1 (fun r hr => ?_)
  exact ry_needless HP.1 hT hD (fun r' LE' hr' => ⟨rt_bl_eq hr' hr (fun j hj => Iff.rfl), rt_rel HP hT hb⟩)
theorem i_vc_over {k : Nat} {u : SX} {v : SY} (I : i_Rel k u v) (hk : k + 4 ≤ 2048) (v1 : Int32) (v2 : Int32) (v3 : Int32) : wpX_over (fun r => wpY_over (fun r' v' => r' = r ∧ i_Rel (k + 4) u v') v v1 v2 v3) u v1 v2 v3 := by
  obtain ⟨f, B, E, L, T, MF, MT, C, HT, HF, FL, SG, bs, st, up, dn, TH, LE, rfl, rfl, HP, hT, hb⟩ := I
  have R : i_Rel (k + 4) (f, B, E, L, T, MF, MT, C, HT, HF, FL, SG, bs, st, up, dn) (TH, B, E, L, LE) := rt_rel HP hT hb
  have HN := HP.1
  have ok := HP.2.1
  have hD := rt_FW_end (rt_N_net HN) HP.2.2.1
  unfold wpX_over wpY_over
  rcases rt_pt v1 with b1 | ⟨s, hs, rfl⟩
  · exact rx_pt_bad b1 (br_t rfl (ry_pt_bad b1 (br_t rfl ⟨rfl, R⟩)))
  rcases rt_pt v2 with b2 | ⟨p, hp, rfl⟩
  · exact rx_pt hs (br_f rt_10 (rx_pt_bad b2 (br_t rfl (ry_pt hs (br_f rt_10 (ry_pt_bad b2 (br_t rfl ⟨rfl, R⟩)))))))
  rcases rt_pt v3 with b3 | ⟨t, ht, rfl⟩
  · exact rx_pt hs (br_f rt_10 (rx_pt hp (br_f rt_10 (rx_pt_bad b3 (br_t rfl (ry_pt hs (br_f rt_10 (ry_pt hp (br_f rt_10 (ry_pt_bad b3 (br_t rfl ⟨rfl, R⟩)))))))))))
  have d1 := rt_bd HP.2.2.1 hs hp
  have d2 := rt_bd HP.2.2.1 hp ht
  refine rx_pt hs (br_f rt_10 (rx_pt hp (br_f rt_10 (rx_pt ht (br_f rt_10 ⟨rt_inx hs hp, rt_inx hp ht, ?_⟩)))))
  rw [rt_rdx ok hs hp, rt_rdx ok hp ht, nI_add]
  refine rx_orNone (by omega) (fun c => ?_) (fun c => ?_)
  · refine ry_pt hs (br_f rt_10 (ry_pt hp (br_f rt_10 (ry_pt ht (br_f rt_10 ?_)))))
    refine ry_all HN.1 HN.2.1 HN.2.2.1 (rt_TH_P hT) HN.2.2.2 hD (fun LE' k1 => ?_)
    have e1 := (k1 s hs p hp).trans (rt_en_lt (by omega))
    have e2 := (k1 p hp t ht).trans (rt_en_lt (by omega))
    exact ry_way hs hp e1 (br_f (nI_pos (by omega)) (ry_way hp ht e2 (br_f (nI_pos (by omega)) (ry_way hs hp e1 (ry_way hp ht e2 ⟨nI_add _ _, rt_rel HP hT hb⟩)))))
  · refine ry_pt hs (br_f rt_10 (ry_pt hp (br_f rt_10 (ry_pt ht (br_f rt_10 ?_)))))
    refine ry_all HN.1 HN.2.1 HN.2.2.1 (rt_TH_P hT) HN.2.2.2 hD (fun LE' k1 => ?_)
    by_cases c1 : rt_t T s p = 1000000
    · have e1 := k1 s hs p hp
      rw [c1, rt_en_far] at e1
      exact ry_way hs hp e1 (br_t (by decide) ⟨rfl, rt_rel HP hT hb⟩)
    · have e1 := (k1 s hs p hp).trans (rt_en_lt c1)
      have e2 := k1 p hp t ht
      rw [show rt_t T p t = 1000000 by omega, rt_en_far] at e2
      exact ry_way hs hp e1 (br_f (nI_pos (by omega)) (ry_way hp ht e2 (br_t (by decide) ⟨rfl, rt_rel HP hT hb⟩)))
theorem i_vc_sound {k : Nat} {u : SX} {v : SY} (I : i_Rel k u v) (hk : k + 4 ≤ 2048) : wpX_sound (fun r => wpY_sound (fun r' => r' = r ∧ i_Rel (k + 4) u v) v) u := by
  obtain ⟨f, B, E, L, T, MF, MT, C, HT, HF, FL, SG, bs, st, up, dn, TH, LE, rfl, rfl, HP, hT, hb⟩ := I
  exact rx_sound HP ⟨rfl, rt_rel HP hT hb⟩
