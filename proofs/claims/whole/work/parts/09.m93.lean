/-! ===== the best that one who knew all could do: the pure picture ===== -/
def mnC (f : Nat → Nat) (b : Nat → Bool) (m : Nat) : Nat → Nat
  | 0 => m
  | n + 1 => if f n < mnC f b m n ∧ b n = true then f n else mnC f b m n
theorem mnC_le {f : Nat → Nat} {b : Nat → Bool} {m : Nat} : ∀ n, mnC f b m n ≤ m ∧ ∀ i, i < n → b i = true → mnC f b m n ≤ f i := by
  intro n
  induction n with
  | zero => exact ⟨Nat.le_refl _, fun i h => by omega⟩
  | succ n ih =>
    show (if f n < mnC f b m n ∧ b n = true then f n else mnC f b m n) ≤ m ∧ ∀ i, i < n + 1 → b i = true → (if f n < mnC f b m n ∧ b n = true then f n else mnC f b m n) ≤ f i
    by_cases c : f n < mnC f b m n ∧ b n = true
    · rw [if_pos c]
      refine ⟨by omega, fun i hi hb => ?_⟩
      by_cases z : i = n
      · subst z; exact Nat.le_refl _
      · have := ih.2 i (by omega) hb; omega
    · rw [if_neg c]
      refine ⟨ih.1, fun i hi hb => ?_⟩
      by_cases z : i = n
      · subst z
        by_cases w : f i < mnC f b m i
        · exact absurd ⟨w, hb⟩ c
        · omega
      · exact ih.2 i (by omega) hb
theorem mnC_or {f : Nat → Nat} {b : Nat → Bool} {m : Nat} : ∀ n, mnC f b m n = m ∨ ∃ i, i < n ∧ b i = true ∧ mnC f b m n = f i := by
  intro n
  induction n with
  | zero => exact Or.inl rfl
  | succ n ih =>
    show (if f n < mnC f b m n ∧ b n = true then f n else mnC f b m n) = m ∨ ∃ i, i < n + 1 ∧ b i = true ∧ (if f n < mnC f b m n ∧ b n = true then f n else mnC f b m n) = f i
    by_cases c : f n < mnC f b m n ∧ b n = true
    · rw [if_pos c]
      exact Or.inr ⟨n, by omega, c.2, rfl⟩
    · rw [if_neg c]
      rcases ih with h | ⟨i, h, hb, e⟩
      · exact Or.inl h
      · exact Or.inr ⟨i, by omega, hb, e⟩
theorem mnC_eq {f : Nat → Nat} {b : Nat → Bool} {m n v : Nat} (h0 : v ≤ m) (h1 : ∀ i, i < n → b i = true → v ≤ f i) (h2 : ∃ i, i < n ∧ b i = true ∧ f i ≤ v) : mnC f b m n = v := by
  have hl := mnC_le (f := f) (b := b) (m := m) n
  have h3 : v ≤ mnC f b m n := by
    rcases mnC_or (f := f) (b := b) (m := m) n with h | ⟨i, h, hb, e⟩
    · omega
    · rw [e]; exact h1 i h hb
  obtain ⟨i, h, hb, e⟩ := h2
  have h4 := Nat.le_trans (hl.2 i h hb) e
  omega
def Lx (t : Nat) (L : Nat → Nat) (c : Nat) : Nat := mnF (fun o => L (oC t o) + dst t (oC t o) c) 1000000 (oN t)
def Lp (t : Nat) (L : Nat → Nat) (x c : Nat) : Nat := Lx t L c + (pl t c x + 1)
def Lm (t : Nat) (L : Nat → Nat) (x p : Nat) : Nat := mnC (fun o => Lp t L x (oC t o)) (fun o => cO t (oC t o) p x) 1000000 (oN t)
def Lv (t : Nat) (a : Nat → Nat) : Nat → Nat → Nat
  | 0 => fun c => if c = fo t then 0 else 1000000
  | k + 1 => Lm t (Lv t a k) (a k)
def BD (t k : Nat) (L : Nat → Nat) : Prop := (∀ c, c ∈ oT t → L c ≤ 1000000) ∧ ∃ c, c ∈ oT t ∧ L c ≤ 10 * k
theorem cO_self {t p x : Nat} (h1 : 1 ≤ t) (h4 : t ≤ 4) (hp : p ∈ oT t) (hx : x < t) : cO t p p x = true := by
  rw [f_c1 h1 h4 p hp p hp x hx, decide_eq_true rfl]
  rfl
theorem d6 {t c0 c : Nat} (h1 : 1 ≤ t) (h4 : t ≤ 4) (h : c0 ∈ oT t) (h' : c ∈ oT t) : dst t c0 c ≤ 6 := by
  have h2 := f_d4 h1 h4 c0 h c h'
  have h3 : t * (t - 1) ≤ 4 * 3 := Nat.mul_le_mul h4 (by omega)
  omega
theorem Lx_b {t k : Nat} {L : Nat → Nat} (h1 : 1 ≤ t) (h4 : t ≤ 4) (h : BD t k L) {c : Nat} (hc : c ∈ oT t) : Lx t L c ≤ 10 * k + 6 := by
  have hn := f_nn h1 h4
  obtain ⟨-, c0, h0, hl⟩ := h
  obtain ⟨i, hi, rfl⟩ := hn.2.2.2 c0 h0
  have h2 := (mnF_le (f := fun o => L (oC t o) + dst t (oC t o) c) (b := 1000000) (oN t)).2 i hi
  have h3 := d6 h1 h4 h0 hc
  unfold Lx
  exact Nat.le_trans h2 (by omega)
theorem Lp_b {t k x : Nat} {L : Nat → Nat} (h1 : 1 ≤ t) (h4 : t ≤ 4) (h : BD t k L) (hx : x < t) {c : Nat} (hc : c ∈ oT t) : Lp t L x c ≤ 10 * k + 10 := by
  have h2 := Lx_b h1 h4 h hc
  have h3 := (f_pl h1 h4 c hc x hx).1
  unfold Lp
  omega
theorem Lm_b {t k x : Nat} {L : Nat → Nat} (h1 : 1 ≤ t) (h4 : t ≤ 4) (h : BD t k L) (hx : x < t) {c : Nat} (hc : c ∈ oT t) : Lm t L x c ≤ 10 * k + 10 := by
  have hn := f_nn h1 h4
  obtain ⟨i, hi, rfl⟩ := hn.2.2.2 c hc
  have h2 := (mnC_le (f := fun o => Lp t L x (oC t o)) (b := fun o => cO t (oC t o) (oC t i) x) (m := 1000000) (oN t)).2 i hi (cO_self h1 h4 hc hx)
  unfold Lm
  exact Nat.le_trans h2 (Lp_b h1 h4 h hx hc)
theorem Lv_b {t : Nat} {a : Nat → Nat} (h1 : 1 ≤ t) (h4 : t ≤ 4) : ∀ k, k ≤ 16 → (∀ j, j < k → a j < t) → BD t k (Lv t a k) := by
  intro k
  induction k with
  | zero =>
    intro _ _
    refine ⟨fun c _ => ?_, fo t, (f_fo h1 h4).1, ?_⟩
    · show (if c = fo t then 0 else 1000000) ≤ 1000000
      split <;> omega
    · show (if fo t = fo t then 0 else 1000000) ≤ 10 * 0
      rw [if_pos rfl]
      exact Nat.le_refl 0
  | succ k ih =>
    intro hk ha
    have hb := ih (by omega) (fun j hj => ha j (by omega))
    have hx := ha k (by omega)
    refine ⟨fun c hc => ?_, fo t, (f_fo h1 h4).1, ?_⟩
    · exact Nat.le_trans (Lm_b h1 h4 hb hx hc) (by omega)
    · exact Lm_b h1 h4 hb hx (f_fo h1 h4).1
/-! ===== the class's steps ===== -/
def RL' (t : Nat) (L : Nat → Nat) (F : Nat → Int32) : Prop := ∀ c, c ∈ oT t → F c = nI (L c)
def seen (t c : Nat) : Nat → Bool
  | 0 => false
  | i + 1 => seen t c i || decide (oC t i = c)
theorem seen_of {t c : Nat} : ∀ n i, i < n → oC t i = c → seen t c n = true := by
  intro n
  induction n with
  | zero => intro i h; omega
  | succ n ih =>
    intro i hi e
    show (seen t c n || decide (oC t n = c)) = true
    by_cases z : i = n
    · rw [← z, decide_eq_true e, Bool.or_true]
    · rw [ih i (by omega) e]; rfl
theorem seen_all {t c : Nat} (h1 : 1 ≤ t) (h4 : t ≤ 4) (hc : c ∈ oT t) : seen t c (oN t) = true := by
  obtain ⟨i, hi, e⟩ := (f_nn h1 h4).2.2.2 c hc
  exact seen_of (oN t) i hi e
set_option maxRecDepth 100000 in
theorem f_sn {t : Nat} (h1 : 1 ≤ t) (h4 : t ≤ 4) : ∀ i, i < oN t → seen t (oC t i) i = false := f_all (P := fun t => ∀ i, i < oN t → seen t (oC t i) i = false) h1 h4 (by decide +kernel) (by decide +kernel) (by decide +kernel) (by decide +kernel)
/-- what one order's exchanges do -/
def XI (t c : Nat) (L L' : Nat → Nat) (b : Bool) (m : Nat) : Prop := (∀ x, x ∈ oT t → L' x ≤ L x) ∧ (∀ x, x ∈ oT t → L' x = L x ∨ ∃ j, j < t - 1 ∧ x = exc c j ∧ L' x = L c + 1) ∧ L' c = L c ∧ (∀ j, j < m → L' (exc c j) ≤ L c + 1) ∧ (b = false → ∀ x, x ∈ oT t → L' x = L x)
section C93
variable {req ocn : Int32} {t : Nat}
theorem exchangeIn_c (h1 : 1 ≤ t) (h4 : t ≤ 4) {c : Nat} (hc : c ∈ oT t) {L : Nat → Nat} {F : Nat → Int32} (hF : RL' t L F) (hb : ∀ x, x ∈ oT t → L x ≤ 1000000) {K : Int32 → (Nat → Int32) → Prop} (hK : ∀ b L' F', RL' t L' F' → XI t c L L' b (t - 1) → K (bI b) F') : g_X5_exchangeIn (nI t) req ocn F (nI c) K := by
  have hc2 := f_lt h1 h4 c hc
  unfold g_X5_exchangeIn
  refine ⟨fun n v i F => ∃ j b L', j ≤ t - 1 ∧ n = t - j ∧ v = bI b ∧ i = nI j ∧ RL' t L' F ∧ XI t c L L' b j, ⟨t, 0, false, L, by omega, rfl, rfl, rfl, hF, fun _ _ => Nat.le_refl _, fun _ _ => Or.inl rfl, rfl, fun j hj => by omega, fun _ _ _ => rfl⟩, ?_, ?_⟩
  · rintro v i F ⟨j, b, L', h, h', -⟩
    omega
  · rintro n v i F2 ⟨j, b, L', hj, hn, rfl, rfl, hR, hX⟩
    obtain ⟨x1, x2, x3, x4, x5⟩ := id hX
    rw [nI_1]
    refine ⟨fun z => ?_, fun z => ?_⟩
    · have z := (nI_leI (by omega) (by omega)).mp z
      have : j = t - 1 := by omega
      subst this
      exact ⟨bI_or _, hK b L' F2 hR hX⟩
    · have z : ¬ t ≤ j + 1 := fun y => z ((nI_leI (by omega) (by omega)).mpr y)
      obtain ⟨e1, e2, e3⟩ := f_ex h1 h4 c hc j (by omega)
      have hy := f_lt h1 h4 _ e1
      have hbc := hb c hc
      have hby := hb _ e1
      have hly := x1 _ e1
      refine exchanged_c hc2 (by omega) ⟨vp_in_nI hc2 (by omega), vp_in_nI hy (by omega), ?_⟩
      rw [nI_clamp (by omega), nI_clamp (by omega), hR _ e1, hR _ hc, x3, nI_1]
      refine ⟨fun v F => ∃ b L', v = bI b ∧ RL' t L' F ∧ XI t c L L' b (j + 1), ?_, fun w => ?_, fun w => ?_⟩
      · rintro v F ⟨b, L', rfl, h2, h3⟩
        exact ⟨j + 1, b, L', by omega, by omega, rfl, rfl, h2, h3⟩
      · have w := (nI_leI (by omega) (by omega)).mp w
        refine ⟨b, L', rfl, hR, x1, x2, x3, fun i hi => ?_, x5⟩
        by_cases g : i = j
        · rw [g]; exact w
        · exact x4 i (by omega)
      · have w : ¬ L' (exc c j) ≤ L c + 1 := fun y => w ((nI_leI (by omega) (by omega)).mpr y)
        refine ⟨vp_in_nI hc2 (by omega), vp_in_nI hy (by omega), true, fun x => if x = exc c j then L c + 1 else L' x, rfl, fun x hx => ?_, fun x hx => ?_, fun x hx => ?_, ?_, fun i hi => ?_, fun g => absurd g (by decide)⟩
        · show upd F2 (exc c j) (nI (L c + 1)) x = nI (if x = exc c j then L c + 1 else L' x)
          by_cases g : x = exc c j
          · rw [g, pk_us, if_pos rfl]
          · rw [pk_un g, if_neg g]; exact hR x hx
        · show (if x = exc c j then L c + 1 else L' x) ≤ L x
          by_cases g : x = exc c j
          · rw [if_pos g, g]; omega
          · rw [if_neg g]; exact x1 x hx
        · show (if x = exc c j then L c + 1 else L' x) = L x ∨ ∃ i, i < t - 1 ∧ x = exc c i ∧ (if x = exc c j then L c + 1 else L' x) = L c + 1
          by_cases g : x = exc c j
          · rw [if_pos g]; exact Or.inr ⟨j, by omega, g, rfl⟩
          · rw [if_neg g]; exact x2 x hx
        · show (if c = exc c j then L c + 1 else L' c) = L c
          rw [if_neg (fun g => e2 g.symm)]; exact x3
        · show (if exc c i = exc c j then L c + 1 else L' (exc c i)) ≤ L c + 1
          by_cases g : exc c i = exc c j
          · rw [if_pos g]; exact Nat.le_refl _
          · rw [if_neg g]
            refine x4 i ?_
            by_cases g2 : i = j
            · exact absurd (by rw [g2]) g
            · omega
theorem fix_fin (h1 : 1 ≤ t) (h4 : t ≤ 4) {L : Nat → Nat} (h : ∀ c, c ∈ oT t → ∀ j, j < t - 1 → L (exc c j) ≤ L c + 1) : ∀ n c0 c, c0 ∈ oT t → c ∈ oT t → dst t c0 c = n → L c ≤ L c0 + n := by
  intro n
  induction n with
  | zero =>
    intro c0 c h0 hc e
    rcases f_d3 h1 h4 c0 h0 c hc with g | ⟨j, hj, g⟩
    · rw [g]; exact Nat.le_refl _
    · omega
  | succ n ih =>
    intro c0 c h0 hc e
    rcases f_d3 h1 h4 c0 h0 c hc with g | ⟨j, hj, g⟩
    · rw [g]; omega
    · obtain ⟨e1, -, e3⟩ := f_ex h1 h4 c hc j hj
      have h2 := ih c0 (exc c j) h0 e1 (by omega)
      have h3 := h (exc c j) e1 j hj
      rw [e3] at h3
      omega
/-- behind all exchanges -/
def FIN (t : Nat) (L L' : Nat → Nat) : Prop := (∀ c, c ∈ oT t → ∃ c0, c0 ∈ oT t ∧ L c0 + dst t c0 c ≤ L' c) ∧ ∀ c0 c, c0 ∈ oT t → c ∈ oT t → L' c ≤ L c0 + dst t c0 c
theorem exchangeNeighbours_c {osF : Nat → Int32} (h1 : 1 ≤ t) (h4 : t ≤ 4) (hr : OR t ocn osF) {L : Nat → Nat} {F : Nat → Int32} (hF : RL' t L F) (hb : ∀ x, x ∈ oT t → L x ≤ 1000000) {K : (Nat → Int32) → Prop} (hK : ∀ L' F', RL' t L' F' → (∀ x, x ∈ oT t → L' x ≤ L x) → FIN t L L' → K F') : g_X5_exchangeNeighbours (nI t) req ocn osF F K := by
  have hn := f_nn h1 h4
  obtain ⟨rfl, hO⟩ := hr
  have hD : t * (t - 1) ≤ 12 := Nat.le_trans (Nat.mul_le_mul h4 (show t - 1 ≤ 3 by omega)) (by omega)
  unfold g_X5_exchangeNeighbours
  refine ⟨fun n v i F => ∃ r f L', r ≤ t * (t - 1) / 2 ∧ n = t * (t - 1) / 2 - r + 1 ∧ v = bI f ∧ i = nI r ∧ RL' t L' F ∧ (∀ x, x ∈ oT t → L' x ≤ L x) ∧ (∀ c, c ∈ oT t → ∃ c0, c0 ∈ oT t ∧ L c0 + dst t c0 c ≤ L' c) ∧ (∀ c0 c, c0 ∈ oT t → c ∈ oT t → dst t c0 c ≤ r → L' c ≤ L c0 + dst t c0 c) ∧ (f = false → ∀ c0 c, c0 ∈ oT t → c ∈ oT t → L' c ≤ L c0 + dst t c0 c), ⟨t * (t - 1) / 2 + 1, 0, true, L, by omega, by omega, rfl, rfl, hF, fun _ _ => Nat.le_refl _, fun c hc => ⟨c, hc, by rw [f_d1 h1 h4 c hc]; exact Nat.le_refl _⟩, fun c0 c h0 hc hd => ?_, fun g => absurd g (by decide)⟩, ?_, ?_⟩
  · rcases f_d3 h1 h4 c0 h0 c hc with g | ⟨j, hj, g⟩
    · rw [g]; omega
    · omega
  · rintro v i F ⟨r, f, L', h, h', -⟩
    omega
  · rintro n v i F2 ⟨r, f, L', hrr, hn2, rfl, rfl, hR, m1, m2, m3, m4⟩
    rw [show nI t - 1 = nI (t - 1) from pk_sub (b := 1) h1, pk_mul, show (2 : Int32) = nI 2 from rfl, pk_div (by omega) (by omega) (by omega)]
    refine ⟨fun z => ?_, fun z => ⟨by decide, fun y => ?_, fun y => ?_⟩⟩
    · exact hK L' F2 hR m1 ⟨m2, m4 (bI_0.mp z)⟩
    · have y := (nI_leI (by omega) (by omega)).mp y
      exact hK L' F2 hR m1 ⟨m2, fun c0 c h0 hc => m3 c0 c h0 hc (Nat.le_trans (f_d4 h1 h4 c0 h0 c hc) y)⟩
    · have y : ¬ t * (t - 1) / 2 ≤ r := fun x => y ((nI_leI (by omega) (by omega)).mpr x)
      refine ⟨fun n v i F => ∃ k g M, k ≤ oN t ∧ n = oN t - k + 1 ∧ v = bI g ∧ i = nI k ∧ RL' t M F ∧ (∀ x, x ∈ oT t → M x ≤ L' x) ∧ (∀ c, c ∈ oT t → ∃ c0, c0 ∈ oT t ∧ L c0 + dst t c0 c ≤ M c) ∧ (∀ u, u < k → ∀ j, j < t - 1 → M (exc (oC t u) j) ≤ L' (oC t u) + 1) ∧ (g = false → ∀ x, x ∈ oT t → M x = L' x), ⟨oN t + 1, 0, false, L', by omega, by omega, rfl, rfl, hR, fun _ _ => Nat.le_refl _, m2, fun u hu => by omega, fun _ _ _ => rfl⟩, ?_, ?_⟩
      · rintro v i F ⟨k, g, M, h, h', -⟩
        omega
      · rintro n3 v i F3 ⟨k, g, M, hk, hn3, rfl, rfl, hR3, p1, p2, p3, p4⟩
        refine ⟨fun w => ?_, fun w => ?_⟩
        · have w := (nI_leI (by omega) (by omega)).mp w
          have : k = oN t := by omega
          subst this
          have p3' : ∀ c, c ∈ oT t → ∀ j, j < t - 1 → M (exc c j) ≤ L' c + 1 := by
            intro c hc j hj
            obtain ⟨u, hu, rfl⟩ := hn.2.2.2 c hc
            exact p3 u hu j hj
          refine ⟨r + 1, g, M, by omega, by omega, rfl, nI_1 _, hR3, fun x hx => Nat.le_trans (p1 x hx) (m1 x hx), p2, fun c0 c h0 hc hd => ?_, fun e c0 c h0 hc => ?_⟩
          · by_cases d : dst t c0 c ≤ r
            · exact Nat.le_trans (p1 c hc) (m3 c0 c h0 hc d)
            · rcases f_d3 h1 h4 c0 h0 c hc with b | ⟨j, hj, b⟩
              · exfalso
                rw [b, f_d1 h1 h4 c hc] at d
                omega
              · obtain ⟨e1, -, e3⟩ := f_ex h1 h4 c hc j hj
                have q1 := m3 c0 (exc c j) h0 e1 (by omega)
                have q2 := p3' (exc c j) e1 j hj
                rw [e3] at q2
                omega
          · have e' := p4 e
            have q := fix_fin h1 h4 (L := M) (fun c hc j hj => by rw [e' c hc]; exact p3' c hc j hj) (dst t c0 c) c0 c h0 hc rfl
            have q2 := p1 c0 h0
            have q3 := m1 c0 h0
            omega
        · have w : ¬ oN t ≤ k := fun x => w ((nI_leI (by omega) (by omega)).mpr x)
          have hc := hn.2.2.1 k (by omega)
          refine ⟨vp_in_nI (by omega) (by omega), ?_⟩
          rw [nI_clamp (by omega), hO k (by omega)]
          refine exchangeIn_c h1 h4 hc hR3 (fun x hx => Nat.le_trans (p1 x hx) (Nat.le_trans (m1 x hx) (hb x hx))) (fun b M' F4 hR4 hX => ?_)
          obtain ⟨x1, x2, x3, x4, x5⟩ := hX
          refine ⟨fun v => v = bI (g || b), ?_, fun e => ?_, fun e => ?_⟩
          · rintro v rfl
            refine ⟨k + 1, g || b, M', by omega, by omega, rfl, nI_1 _, hR4, fun x hx => Nat.le_trans (x1 x hx) (p1 x hx), fun c2 hc2 => ?_, fun u hu j hj => ?_, fun e x hx => ?_⟩
            · rcases x2 c2 hc2 with e | ⟨j, hj, e, e2⟩
              · rw [e]; exact p2 c2 hc2
              · obtain ⟨c0, h0, hl⟩ := p2 _ hc
                refine ⟨c0, h0, ?_⟩
                have q := f_d2 h1 h4 c0 h0 _ hc j hj
                rw [← e] at q
                omega
            · by_cases d : u = k
              · subst d
                exact Nat.le_trans (x4 j hj) (by have := p1 _ hc; omega)
              · have q1 := p3 u (by omega) j hj
                have q2 := x1 _ (f_ex h1 h4 _ (hn.2.2.1 u (by omega)) j hj).1
                omega
            · have eg : g = false := by cases g with | false => rfl | true => exact absurd e (by cases b <;> decide)
              have eb : b = false := by rw [eg] at e; exact e
              rw [x5 eb x hx, p4 eg x hx]
          · show bI g = _
            rw [bI_0.mp e, Bool.or_false]
          · have eb : b = true := by
              cases b with
              | true => rfl
              | false => exact absurd rfl e
            show (1 : Int32) = _
            rw [eb, Bool.or_true]
            rfl
end C93
