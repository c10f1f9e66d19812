/-! the net as a relation e a b l, distances by their local properties -/
def rt_net (e : Nat → Nat → Nat → Prop) : Prop := ∀ a b l, e a b l → a < 12 ∧ b < 12 ∧ 1 ≤ l
def rt_SS (e : Nat → Nat → Nat → Prop) (s : Nat) (d : Nat → Nat) : Prop :=
  d s = 0 ∧ (∀ t, t < 12 → d t ≤ 1000000) ∧ (∀ a b l, e a b l → d b ≤ d a + l) ∧
  (∀ t, t < 12 → t ≠ s → d t = 1000000 ∨ ∃ a l, e a t l ∧ d t = d a + l)
theorem rt_SS_le {e : Nat → Nat → Nat → Prop} {s : Nat} {d d' : Nat → Nat} (N : rt_net e) (h : rt_SS e s d) (h' : rt_SS e s d') : ∀ n t, t < 12 → d' t ≤ n → d t ≤ d' t := by
  intro n
  induction n with
  | zero =>
    intro t ht hn
    by_cases hs : t = s
    · subst hs; rw [h.1]; omega
    · rcases h'.2.2.2 t ht hs with q | ⟨a, l, q, r⟩
      · omega
      · have := (N a t l q).2.2
        omega
  | succ n ih =>
    intro t ht hn
    by_cases hs : t = s
    · subst hs; rw [h.1]; omega
    · rcases h'.2.2.2 t ht hs with q | ⟨a, l, q, r⟩
      · have := h.2.1 t ht
        omega
      · have hl := N a t l q
        have h1 := ih a hl.1 (by omega)
        have h2 := h.2.2.1 a t l q
        omega
theorem rt_SS_eq {e : Nat → Nat → Nat → Prop} {s : Nat} {d d' : Nat → Nat} (N : rt_net e) (h : rt_SS e s d) (h' : rt_SS e s d') (t : Nat) (ht : t < 12) : d t = d' t :=
  Nat.le_antisymm (rt_SS_le N h h' _ t ht (Nat.le_refl _)) (rt_SS_le N h' h _ t ht (Nat.le_refl _))
def rt_AP (e : Nat → Nat → Nat → Prop) (D : Nat → Nat → Nat) : Prop := ∀ s, s < 12 → rt_SS e s (D s)
theorem rt_el {e : Nat → Nat → Nat → Prop} {D : Nat → Nat → Nat} (N : rt_net e) (h : rt_AP e D) {a b l : Nat} (q : e a b l) : D a b ≤ l := by
  have h1 := h a (N a b l q).1
  have h2 := h1.2.2.1 a b l q
  have h3 := h1.1
  omega
theorem rt_tri' {e : Nat → Nat → Nat → Prop} {D : Nat → Nat → Nat} (N : rt_net e) (h : rt_AP e D) : ∀ n s p t, s < 12 → p < 12 → t < 12 → D p t ≤ n → D s t ≤ D s p + D p t := by
  intro n
  induction n with
  | zero =>
    intro s p t hs hp ht hn
    by_cases c : t = p
    · subst c; omega
    · rcases (h p hp).2.2.2 t ht c with q | ⟨a, l, q, r⟩
      · omega
      · have := (N a t l q).2.2
        omega
  | succ n ih =>
    intro s p t hs hp ht hn
    by_cases c : t = p
    · subst c; omega
    · rcases (h p hp).2.2.2 t ht c with q | ⟨a, l, q, r⟩
      · have := (h s hs).2.1 t ht
        omega
      · have hl := N a t l q
        have h1 := ih s p a hs hp hl.1 (by omega)
        have h2 := (h s hs).2.2.1 a t l q
        omega
theorem rt_tri {e : Nat → Nat → Nat → Prop} {D : Nat → Nat → Nat} (N : rt_net e) (h : rt_AP e D) {s p t : Nat} (hs : s < 12) (hp : p < 12) (ht : t < 12) : D s t ≤ D s p + D p t :=
  rt_tri' N h _ s p t hs hp ht (Nat.le_refl _)
theorem rt_first' {e : Nat → Nat → Nat → Prop} {D : Nat → Nat → Nat} (N : rt_net e) (h : rt_AP e D) : ∀ n s t, s < 12 → t < 12 → s ≠ t → D s t ≤ n → D s t = 1000000 ∨ ∃ b l, e s b l ∧ D s t = l + D b t := by
  intro n
  induction n with
  | zero =>
    intro s t hs ht c hn
    rcases (h s hs).2.2.2 t ht (fun z => c z.symm) with q | ⟨a, l, q, r⟩
    · exact Or.inl q
    · have := (N a t l q).2.2
      omega
  | succ n ih =>
    intro s t hs ht c hn
    rcases (h s hs).2.2.2 t ht (fun z => c z.symm) with q | ⟨a, l, q, r⟩
    · exact Or.inl q
    · have hl := N a t l q
      by_cases z : s = a
      · subst z
        refine Or.inr ⟨t, l, q, ?_⟩
        have h1 := (h s hs).1
        have h2 := (h t ht).1
        omega
      · rcases ih s a hs hl.1 z (by omega) with w | ⟨b, l', w, r'⟩
        · have := (h s hs).2.1 t ht
          omega
        · refine Or.inr ⟨b, l', w, ?_⟩
          have hb := N s b l' w
          have h1 := rt_el N h w
          have h2 := rt_tri N h hs hb.2.1 ht
          have h3 := (h b hb.2.1).2.2.1 a t l q
          omega
theorem rt_first {e : Nat → Nat → Nat → Prop} {D : Nat → Nat → Nat} (N : rt_net e) (h : rt_AP e D) {s t : Nat} (hs : s < 12) (ht : t < 12) (c : s ≠ t) : D s t = 1000000 ∨ ∃ b l, e s b l ∧ D s t = l + D b t :=
  rt_first' N h _ s t hs ht c (Nat.le_refl _)
def rt_rev (e : Nat → Nat → Nat → Prop) : Nat → Nat → Nat → Prop := fun a b l => e b a l
def rt_tr (D : Nat → Nat → Nat) : Nat → Nat → Nat := fun s t => D t s
theorem rt_rev_net {e : Nat → Nat → Nat → Prop} (N : rt_net e) : rt_net (rt_rev e) := fun a b l q => ⟨(N b a l q).2.1, (N b a l q).1, (N b a l q).2.2⟩
theorem rt_rev_AP {e : Nat → Nat → Nat → Prop} {D : Nat → Nat → Nat} (N : rt_net e) (h : rt_AP e D) : rt_AP (rt_rev e) (rt_tr D) := by
  intro s hs
  refine ⟨(h s hs).1, fun t ht => (h t ht).2.1 s hs, ?_, ?_⟩
  · intro a b l q
    have q' : e b a l := q
    have hn := N b a l q'
    have h1 := rt_el N h q'
    have h2 := rt_tri N h hn.1 hn.2.1 hs
    show D b s ≤ D a s + l
    omega
  · intro t ht c
    rcases rt_first N h ht hs c with w | ⟨b, l, w, r⟩
    · exact Or.inl w
    · refine Or.inr ⟨b, l, w, ?_⟩
      show D t s = D b s + l
      omega
/-! Floyd and Warshall -/
def rt_FW (e : Nat → Nat → Nat → Prop) (p : Nat) (T : Nat → Nat → Nat) : Prop :=
  (∀ a, a < 12 → T a a = 0) ∧
  (∀ a b, a < 12 → b < 12 → T a b ≤ 1000000) ∧
  (∀ a b l, e a b l → T a b ≤ l) ∧
  (∀ a b, a < 12 → b < 12 → a ≠ b → 1 ≤ T a b) ∧
  (∀ a b, a < 12 → b < 12 → a ≠ b → T a b = 1000000 ∨ (∃ l, e a b l ∧ l ≤ T a b) ∨ ∃ q, q < 12 ∧ q ≠ a ∧ q ≠ b ∧ T a q + T q b ≤ T a b) ∧
  (∀ q a b, q < p → a < 12 → b < 12 → T a b ≤ T a q + T q b) ∧
  (∀ a b, a < 12 → b < 12 → T a b < 1000000 → T a b ≤ 30 * 2 ^ p)
theorem rt_FW_step {e : Nat → Nat → Nat → Prop} (N : rt_net e) {p : Nat} {T T' : Nat → Nat → Nat} (hp : p < 12) (h : rt_FW e p T) (h' : ∀ a b, a < 12 → b < 12 → T' a b = min (T a b) (T a p + T p b)) : rt_FW e (p + 1) T' := by
  obtain ⟨h1, h2, h3, h4, h5, h6, h7⟩ := h
  have hpp := h1 p hp
  have hcol : ∀ a, a < 12 → T' a p = T a p := fun a ha => by rw [h' a p ha hp]; omega
  have hrow : ∀ b, b < 12 → T' p b = T p b := fun b hb => by rw [h' p b hp hb]; omega
  have hle : ∀ a b, a < 12 → b < 12 → T' a b ≤ T a b := fun a b ha hb => by rw [h' a b ha hb]; omega
  refine ⟨?_, ?_, ?_, ?_, ?_, ?_, ?_⟩
  · intro a ha
    have := hle a a ha ha
    have := h1 a ha
    omega
  · intro a b ha hb
    have := hle a b ha hb
    have := h2 a b ha hb
    omega
  · intro a b l q
    have hn := N a b l q
    have := hle a b hn.1 hn.2.1
    have := h3 a b l q
    omega
  · intro a b ha hb c
    have w := h4 a b ha hb c
    by_cases c1 : a = p
    · subst c1; rw [hrow b hb]; exact w
    · have := h4 a p ha hp c1
      rw [h' a b ha hb]; omega
  · intro a b ha hb c
    have e1 := h' a b ha hb
    by_cases c0 : T' a b = T a b
    · rw [c0]
      rcases h5 a b ha hb c with w | ⟨l, w, r⟩ | ⟨q, hq, w1, w2, r⟩
      · exact Or.inl w
      · exact Or.inr (Or.inl ⟨l, w, r⟩)
      · refine Or.inr (Or.inr ⟨q, hq, w1, w2, ?_⟩)
        have := hle a q ha hq
        have := hle q b hq hb
        omega
    · have e2 : T' a b = T a p + T p b := by omega
      refine Or.inr (Or.inr ⟨p, hp, ?_, ?_, ?_⟩)
      · intro z; subst z; rw [hrow b hb] at c0; exact c0 rfl
      · intro z; subst z; rw [hcol a ha] at c0; exact c0 rfl
      · rw [hcol a ha, hrow b hb]; omega
  · intro q a b hq ha hb
    have e1 := h' a b ha hb
    by_cases c : q = p
    · subst c; rw [hcol a ha, hrow b hb]; omega
    · have hq' : q < 12 := by omega
      have e2 := h' a q ha hq'
      have e3 := h' q b hq' hb
      have g1 := h6 q a b (by omega) ha hb
      have g2 := h6 q p b (by omega) hp hb
      have g3 := h6 q a p (by omega) ha hp
      omega
  · intro a b ha hb w
    have e1 := h' a b ha hb
    have g1 := h7 a b ha hb
    have g2 := h7 a p ha hp
    have g3 := h7 p b hp hb
    rw [Nat.pow_succ]
    generalize 2 ^ p = m at *
    omega
theorem rt_FW_last {e : Nat → Nat → Nat → Prop} {T : Nat → Nat → Nat} (h : rt_FW e 12 T) : ∀ n a b, a < 12 → b < 12 → a ≠ b → T a b ≤ n → T a b = 1000000 ∨ ∃ c l, c < 12 ∧ e c b l ∧ T a c + l ≤ T a b := by
  obtain ⟨h1, h2, h3, h4, h5, h6, h7⟩ := h
  intro n
  induction n with
  | zero =>
    intro a b ha hb c hn
    have := h4 a b ha hb c
    omega
  | succ n ih =>
    intro a b ha hb c hn
    rcases h5 a b ha hb c with w | ⟨l, w, r⟩ | ⟨q, hq, w1, w2, r⟩
    · exact Or.inl w
    · refine Or.inr ⟨a, l, ha, w, ?_⟩
      have := h1 a ha
      omega
    · have g1 := h4 a q ha hq (fun z => w1 z.symm)
      rcases ih q b hq hb w2 (by omega) with v | ⟨x, l, hx, v, r'⟩
      · have := h2 a b ha hb
        omega
      · refine Or.inr ⟨x, l, hx, v, ?_⟩
        have := h6 q a x hq ha hx
        omega
theorem rt_FW_end {e : Nat → Nat → Nat → Prop} (N : rt_net e) {T : Nat → Nat → Nat} (h : rt_FW e 12 T) : rt_AP e T := by
  have hr : ∀ a b l s, s < 12 → e a b l → T s b ≤ T s a + l := by
    intro a b l s hs q
    have hn := N a b l q
    have g1 := h.2.2.2.2.2.1 a s b hn.1 hs hn.2.1
    have g2 := h.2.2.1 a b l q
    omega
  intro s hs
  refine ⟨h.1 s hs, fun t ht => h.2.1 s t hs ht, fun a b l q => hr a b l s hs q, ?_⟩
  intro t ht c
  rcases rt_FW_last h _ s t hs ht (fun z => c z.symm) (Nat.le_refl _) with w | ⟨x, l, hx, w, r⟩
  · exact Or.inl w
  · refine Or.inr ⟨x, l, w, ?_⟩
    have := hr x t l s hs w
    omega
/-! climb -/
def rt_CL (e : Nat → Nat → Nat → Prop) (D : Nat → Nat → Nat) (p : Nat) (T : Nat → Nat → Nat) : Prop :=
  (∀ a, a < 12 → T a a = 0) ∧
  (∀ a b, a < 12 → b < 12 → T a b ≤ 1000000) ∧
  (∀ a b l, e a b l → T a b ≤ l) ∧
  (∀ a b, a < 12 → b < 12 → a ≠ b → T a b = 1000000 ∨ (∃ l, e a b l ∧ l ≤ T a b) ∨ ∃ q, q < a ∧ q < b ∧ T a q + T q b ≤ T a b) ∧
  (∀ q a b, q < p → a < 12 → b < 12 → q < a → q < b → T a b ≤ T a q + T q b) ∧
  (∀ a b, a < 12 → b < 12 → D a b ≤ T a b)
theorem rt_CL_step {e : Nat → Nat → Nat → Prop} {D : Nat → Nat → Nat} (N : rt_net e) (hD : rt_AP e D) {p : Nat} {T T' : Nat → Nat → Nat} (hp : p < 12) (h : rt_CL e D p T) (h' : ∀ a b, a < 12 → b < 12 → T' a b = if p + 1 ≤ a ∧ p + 1 ≤ b then min (T a b) (T a p + T p b) else T a b) : rt_CL e D (p + 1) T' := by
  obtain ⟨h1, h2, h3, h5, h6, h7⟩ := h
  have hle : ∀ a b, a < 12 → b < 12 → T' a b ≤ T a b := fun a b ha hb => by
    rw [h' a b ha hb]; split <;> omega
  have hsame : ∀ a b, a < 12 → b < 12 → (a ≤ p ∨ b ≤ p) → T' a b = T a b := fun a b ha hb c => by
    rw [h' a b ha hb, if_neg (by omega)]
  refine ⟨?_, ?_, ?_, ?_, ?_, ?_⟩
  · intro a ha
    have := hle a a ha ha
    have := h1 a ha
    omega
  · intro a b ha hb
    have := hle a b ha hb
    have := h2 a b ha hb
    omega
  · intro a b l q
    have hn := N a b l q
    have := hle a b hn.1 hn.2.1
    have := h3 a b l q
    omega
  · intro a b ha hb c
    by_cases c0 : T' a b = T a b
    · rw [c0]
      rcases h5 a b ha hb c with w | ⟨l, w, r⟩ | ⟨q, w1, w2, r⟩
      · exact Or.inl w
      · exact Or.inr (Or.inl ⟨l, w, r⟩)
      · refine Or.inr (Or.inr ⟨q, w1, w2, ?_⟩)
        have := hle a q ha (by omega)
        have := hle q b (by omega) hb
        omega
    · have e1 := h' a b ha hb
      by_cases c1 : p + 1 ≤ a ∧ p + 1 ≤ b
      · rw [if_pos c1] at e1
        refine Or.inr (Or.inr ⟨p, by omega, by omega, ?_⟩)
        rw [hsame a p ha hp (by omega), hsame p b hp hb (by omega)]
        omega
      · rw [if_neg c1] at e1
        exact absurd e1 c0
  · intro q a b hq ha hb hqa hqb
    by_cases c : q = p
    · subst c
      rw [hsame a q ha hp (by omega), hsame q b hp hb (by omega), h' a b ha hb, if_pos (by omega)]
      omega
    · rw [hsame a q ha (by omega) (by omega), hsame q b (by omega) hb (by omega)]
      have := hle a b ha hb
      have := h6 q a b (by omega) ha hb hqa hqb
      omega
  · intro a b ha hb
    have g1 := h7 a b ha hb
    have g2 := h7 a p ha hp
    have g3 := h7 p b hp hb
    have g4 := rt_tri N hD ha hp hb
    rw [h' a b ha hb]
    split <;> omega
/-- a climb of n steps from s to x of length v -/
def rt_UR (C : Nat → Nat → Nat) : Nat → Nat → Nat → Nat → Prop
  | 0 => fun s x v => s = x ∧ v = 0
  | n + 1 => fun s x v => ∃ m w, s < m ∧ m < 12 ∧ rt_UR C n m x w ∧ v = C s m + w
theorem rt_UR_top {C : Nat → Nat → Nat} : ∀ n s x v, s < 12 → rt_UR C n s x v → x < 12 := by
  intro n
  induction n with
  | zero => intro s x v hs h; have := h.1; omega
  | succ n ih => intro s x v hs h; obtain ⟨m, w, h1, h2, h3, h4⟩ := h; exact ih m x w h2 h3
theorem rt_UR_le {C : Nat → Nat → Nat} {A : Nat → Nat} (hA : ∀ p h, p < h → h < 12 → A h ≤ A p + C p h) : ∀ n s x v, s < 12 → rt_UR C n s x v → A x ≤ A s + v := by
  intro n
  induction n with
  | zero => intro s x v hs h; obtain ⟨h1, h2⟩ := h; subst h1; omega
  | succ n ih =>
    intro s x v hs h
    obtain ⟨m, w, h1, h2, h3, h4⟩ := h
    have g1 := ih m x w h2 h3
    have g2 := hA s m h1 h2
    omega
theorem rt_UR_step {e : Nat → Nat → Nat → Prop} {D : Nat → Nat → Nat} {C : Nat → Nat → Nat} (hC : rt_CL e D 12 C) {Bt : Nat → Nat} (hB : ∀ p h, p < h → h < 12 → Bt h ≤ C h p + Bt p) : ∀ n u top v s, s < 12 → u < 12 → rt_UR C n u top v → ∃ n' top' v', rt_UR C n' s top' v' ∧ v' + Bt top' ≤ C s u + v + Bt top := by
  obtain ⟨h1, h2, h3, h5, h6, h7⟩ := hC
  intro n
  induction n with
  | zero =>
    intro u top v s hs hu h
    obtain ⟨q1, q2⟩ := h
    subst q1; subst q2
    rcases Nat.lt_trichotomy s u with c | c | c
    · exact ⟨1, u, C s u, ⟨u, 0, c, hu, ⟨rfl, rfl⟩, rfl⟩, by omega⟩
    · subst c; exact ⟨0, s, 0, ⟨rfl, rfl⟩, by omega⟩
    · refine ⟨0, s, 0, ⟨rfl, rfl⟩, ?_⟩
      have := hB u s c hs
      omega
  | succ n ih =>
    intro u top v s hs hu h
    rcases Nat.lt_trichotomy s u with c | c | c
    · exact ⟨n + 2, top, C s u + v, ⟨u, v, c, hu, h, rfl⟩, by omega⟩
    · subst c; exact ⟨n + 1, top, v, h, by omega⟩
    · obtain ⟨m, w, g1, g2, g3, g4⟩ := h
      obtain ⟨n', top', v', k1, k2⟩ := ih m top w s hs g2 g3
      refine ⟨n', top', v', k1, ?_⟩
      have := h6 u s m hu hs g2 c g1
      omega
theorem rt_UR_all {e : Nat → Nat → Nat → Prop} {D : Nat → Nat → Nat} (N : rt_net e) (hD : rt_AP e D) {C : Nat → Nat → Nat} (hC : rt_CL e D 12 C) {t : Nat} (ht : t < 12) {Bt : Nat → Nat} (hB0 : Bt t = 0) (hB : ∀ p h, p < h → h < 12 → Bt h ≤ C h p + Bt p) : ∀ k s, s < 12 → D s t ≤ k → D s t < 1000000 → ∃ n top v, rt_UR C n s top v ∧ v + Bt top ≤ D s t := by
  intro k
  induction k with
  | zero =>
    intro s hs hk hf
    by_cases c : s = t
    · subst c; exact ⟨0, s, 0, ⟨rfl, rfl⟩, by omega⟩
    · rcases rt_first N hD hs ht c with w | ⟨b, l, w, r⟩
      · omega
      · have := (N s b l w).2.2
        omega
  | succ k ih =>
    intro s hs hk hf
    by_cases c : s = t
    · subst c; exact ⟨0, s, 0, ⟨rfl, rfl⟩, by omega⟩
    · rcases rt_first N hD hs ht c with w | ⟨b, l, w, r⟩
      · omega
      · have hn := N s b l w
        obtain ⟨n, top, v, g1, g2⟩ := ih b hn.2.1 (by omega) (by omega)
        obtain ⟨n', top', v', k1, k2⟩ := rt_UR_step hC hB n b top v s hs hn.2.1 g1
        refine ⟨n', top', v', k1, ?_⟩
        have := hC.2.2.1 s b l w
        omega
/-- what the climbing question finds -/
theorem rt_climb {e : Nat → Nat → Nat → Prop} {D : Nat → Nat → Nat} (N : rt_net e) (hD : rt_AP e D) {C : Nat → Nat → Nat} (hC : rt_CL e D 12 C) {s t : Nat} (hs : s < 12) (ht : t < 12) {A Bt : Nat → Nat} {r : Nat}
    (hA0 : A s = 0) (hA : ∀ p h, p < h → h < 12 → A h ≤ A p + C p h) (hAD : ∀ x, x < 12 → D s x ≤ A x)
    (hB0 : Bt t = 0) (hB : ∀ p h, p < h → h < 12 → Bt h ≤ C h p + Bt p) (hBD : ∀ x, x < 12 → D x t ≤ Bt x)
    (hr1 : r ≤ 1000000) (hr2 : ∀ x, x < 12 → r ≤ A x + Bt x) (hr3 : r = 1000000 ∨ ∃ x, x < 12 ∧ r = A x + Bt x) : r = D s t := by
  have hf := (hD s hs).2.1 t ht
  apply Nat.le_antisymm
  · by_cases c : D s t < 1000000
    · obtain ⟨n, top, v, g1, g2⟩ := rt_UR_all N hD hC ht hB0 hB _ s hs (Nat.le_refl _) c
      have g3 := rt_UR_top n s top v hs g1
      have g4 := rt_UR_le hA n s top v hs g1
      have g5 := hr2 top g3
      omega
    · omega
  · rcases hr3 with w | ⟨x, hx, w⟩
    · omega
    · have g1 := rt_tri N hD hs hx ht
      have g2 := hAD x hx
      have g3 := hBD x hx
      omega
