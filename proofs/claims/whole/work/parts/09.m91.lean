/-! ===== the list: front, stays ===== -/
/-- the requests a 0 .. a (q - 1) of things below t, as the array F holds them -/
def AK (t q : Nat) (a : Nat → Nat) (F : Nat → Int32) : Prop := ∀ j, j < q → F j = nI (a j) ∧ a j < t
def fr (t : Nat) (a : Nat → Nat) : Nat → Nat
  | 0 => fo t
  | k + 1 => mtf (fr t a k) (pl t (fr t a k) (a k))
def fC (t : Nat) (a : Nat → Nat) : Nat → Nat
  | 0 => 0
  | k + 1 => fC t a k + (pl t (fr t a k) (a k) + 1)
def sC (t : Nat) (a : Nat → Nat) (c : Nat) : Nat → Nat
  | 0 => 0
  | k + 1 => sC t a c k + (pl t c (a k) + 1)
/-- the least of b and f 0 .. f (n - 1) -/
def mnF (f : Nat → Nat) (b : Nat) : Nat → Nat
  | 0 => b
  | n + 1 => if f n < mnF f b n then f n else mnF f b n
theorem mnF_le {f : Nat → Nat} {b : Nat} : ∀ n, mnF f b n ≤ b ∧ ∀ i, i < n → mnF f b n ≤ f i := by
  intro n
  induction n with
  | zero => exact ⟨Nat.le_refl _, fun i h => by omega⟩
  | succ n ih =>
    show (if f n < mnF f b n then f n else mnF f b n) ≤ b ∧ ∀ i, i < n + 1 → (if f n < mnF f b n then f n else mnF f b n) ≤ f i
    split
    · refine ⟨by omega, fun i hi => ?_⟩
      by_cases z : i = n
      · subst z; exact Nat.le_refl _
      · have := ih.2 i (by omega); omega
    · refine ⟨ih.1, fun i hi => ?_⟩
      by_cases z : i = n
      · subst z; omega
      · exact ih.2 i (by omega)
theorem mnF_or {f : Nat → Nat} {b : Nat} : ∀ n, mnF f b n = b ∨ ∃ i, i < n ∧ mnF f b n = f i := by
  intro n
  induction n with
  | zero => exact Or.inl rfl
  | succ n ih =>
    show (if f n < mnF f b n then f n else mnF f b n) = b ∨ ∃ i, i < n + 1 ∧ (if f n < mnF f b n then f n else mnF f b n) = f i
    split
    · exact Or.inr ⟨n, by omega, rfl⟩
    · rcases ih with h | ⟨i, h, e⟩
      · exact Or.inl h
      · exact Or.inr ⟨i, by omega, e⟩
theorem mnF_eq {f : Nat → Nat} {b n m : Nat} (h0 : m ≤ b) (h1 : ∀ i, i < n → m ≤ f i) (h2 : m = b ∨ ∃ i, i < n ∧ f i ≤ m) : mnF f b n = m := by
  have hl := mnF_le (f := f) (b := b) n
  have h3 : m ≤ mnF f b n := by
    rcases mnF_or (f := f) (b := b) n with h | ⟨i, h, e⟩
    · omega
    · rw [e]; exact h1 i h
  have h4 : mnF f b n ≤ m := by
    rcases h2 with h | ⟨i, h, e⟩
    · omega
    · exact Nat.le_trans (hl.2 i h) e
  omega
theorem fr_in {t : Nat} (h1 : 1 ≤ t) (h4 : t ≤ 4) {a : Nat → Nat} : ∀ k, (∀ j, j < k → a j < t) → fr t a k ∈ oT t := by
  intro k
  induction k with
  | zero => intro _; exact (f_fo h1 h4).1
  | succ k ih =>
    intro h
    exact (f_mt h1 h4 _ (ih (fun j hj => h j (by omega))) (a k) (h k (by omega))).1
theorem sC_b {t c : Nat} (h1 : 1 ≤ t) (h4 : t ≤ 4) (hc : c ∈ oT t) {a : Nat → Nat} : ∀ k, (∀ j, j < k → a j < t) → sC t a c k ≤ 4 * k := by
  intro k
  induction k with
  | zero => intro _; exact Nat.le_refl 0
  | succ k ih =>
    intro h
    have h2 := ih (fun j hj => h j (by omega))
    have h3 := (f_pl h1 h4 c hc (a k) (h k (by omega))).1
    show sC t a c k + (pl t c (a k) + 1) ≤ 4 * (k + 1)
    omega
section C91
variable {ocn : Int32} {t q : Nat} {a : Nat → Nat} {akF : Nat → Int32}
theorem movedToFront_c {req : Int32} (h1 : 1 ≤ t) (h4 : t ≤ 4) {c x : Nat} (hc : c ∈ oT t) (hx : x < t) {K : Int32 → Prop} (hK : K (nI (mtf c (pl t c x)))) : g_X5_movedToFront (nI t) req ocn (nI c) (nI x) K := by
  have hp := (f_pl h1 h4 c hc x hx).1
  unfold g_X5_movedToFront
  refine placeOf_c h1 h4 (f_lt h1 h4 c hc) (by omega) ?_
  refine ⟨fun n v i => ∃ m p, m < 256 ∧ p ≤ 3 ∧ n = p + 1 ∧ v = nI m ∧ i = nI p ∧ mtf m p = mtf c (pl t c x), ⟨pl t c x + 1, c, pl t c x, f_lt h1 h4 c hc, by omega, rfl, rfl, rfl, rfl⟩, ?_, ?_⟩
  · rintro v i ⟨m, p, -, -, h, -⟩
    omega
  · rintro n v i ⟨m, p, hm, hp3, hn, rfl, rfl, e⟩
    refine ⟨fun z => ?_, fun z => ?_⟩
    · have z := (nI_leI (b := 0) (by omega) (by omega)).mp z
      have : p = 0 := by omega
      subst this
      rw [show m = mtf c (pl t c x) from e]
      exact hK
    · have z : ¬ p ≤ 0 := fun y => z ((nI_leI (b := 0) (by omega) (by omega)).mpr y)
      obtain ⟨r, rfl⟩ : ∃ r, p = r + 1 := ⟨p - 1, by omega⟩
      rw [show nI (r + 1) - 1 = nI r from nI_pred r, pk_m1]
      exact exchanged_c hm (by omega) ⟨exc m r, r, (f_xc m hm r (by omega)).2, by omega, by omega, rfl, rfl, e⟩
theorem frontOrder_c (h1 : 1 ≤ t) (h4 : t ≤ 4) (hq : q ≤ 16) (ha : AK t q a akF) {K : Int32 → Prop} (hK : K (nI (fr t a q))) : g_X5_frontOrder (nI t) (nI q) ocn akF K := by
  unfold g_X5_frontOrder
  refine firstOrder_c h4 ?_
  refine ⟨fun n v i => ∃ k, k ≤ q ∧ n = q - k + 1 ∧ v = nI (fr t a k) ∧ i = nI k, ⟨q + 1, 0, by omega, by omega, rfl, rfl⟩, ?_, ?_⟩
  · rintro v i ⟨j, h, h', -⟩
    omega
  · rintro n v i ⟨k, hk, hn, rfl, rfl⟩
    refine ⟨fun z => ?_, fun z => ?_⟩
    · have z := (nI_leI (by omega) (by omega)).mp z
      have : k = q := by omega
      subst this
      exact hK
    · have z : ¬ q ≤ k := fun y => z ((nI_leI (by omega) (by omega)).mpr y)
      refine ⟨vp_in_nI (by omega) (by omega), ?_⟩
      rw [nI_clamp (by omega), (ha k (by omega)).1]
      exact movedToFront_c h1 h4 (fr_in h1 h4 k (fun j hj => (ha j (by omega)).2)) (ha k (by omega)).2 ⟨k + 1, by omega, by omega, rfl, nI_1 _⟩
theorem frontCost_c (h1 : 1 ≤ t) (h4 : t ≤ 4) (hq : q ≤ 16) (ha : AK t q a akF) {K : Int32 → Prop} (hK : K (nI (fC t a q))) : g_X5_frontCost (nI t) (nI q) ocn akF K := by
  unfold g_X5_frontCost
  refine firstOrder_c h4 ?_
  refine ⟨fun n v s i => ∃ k, k ≤ q ∧ n = q - k + 1 ∧ v = nI (fr t a k) ∧ s = nI (fC t a k) ∧ i = nI k, ⟨q + 1, 0, by omega, by omega, rfl, rfl, rfl⟩, ?_, ?_⟩
  · rintro v s i ⟨j, h, h', -⟩
    omega
  · rintro n v s i ⟨k, hk, hn, rfl, rfl, rfl⟩
    refine ⟨fun z => ?_, fun z => ?_⟩
    · have z := (nI_leI (by omega) (by omega)).mp z
      have : k = q := by omega
      subst this
      exact hK
    · have z : ¬ q ≤ k := fun y => z ((nI_leI (by omega) (by omega)).mpr y)
      have hf := fr_in h1 h4 (a := a) k (fun j hj => (ha j (by omega)).2)
      have hx := (ha k (by omega)).2
      refine ⟨vp_in_nI (by omega) (by omega), ?_⟩
      rw [nI_clamp (by omega), (ha k (by omega)).1]
      refine placeOf_c h1 h4 (f_lt h1 h4 _ hf) (by omega) ⟨vp_in_nI (by omega) (by omega), movedToFront_c h1 h4 hf hx ⟨k + 1, by omega, by omega, rfl, ?_, nI_1 _⟩⟩
      rw [nI_1, nI_add]
      rfl
theorem stayCost_c (h1 : 1 ≤ t) (h4 : t ≤ 4) (hq : q ≤ 16) (ha : AK t q a akF) {c : Nat} (hc : c < 256) {K : Int32 → Prop} (hK : K (nI (sC t a c q))) : g_X5_stayCost (nI t) (nI q) ocn akF (nI c) K := by
  unfold g_X5_stayCost
  refine ⟨fun n s i => ∃ k, k ≤ q ∧ n = q - k + 1 ∧ s = nI (sC t a c k) ∧ i = nI k, ⟨q + 1, 0, by omega, by omega, rfl, rfl⟩, ?_, ?_⟩
  · rintro s i ⟨j, h, h', -⟩
    omega
  · rintro n s i ⟨k, hk, hn, rfl, rfl⟩
    refine ⟨fun z => ?_, fun z => ?_⟩
    · have z := (nI_leI (by omega) (by omega)).mp z
      have : k = q := by omega
      subst this
      exact hK
    · have z : ¬ q ≤ k := fun y => z ((nI_leI (by omega) (by omega)).mpr y)
      have hx := (ha k (by omega)).2
      refine ⟨vp_in_nI (by omega) (by omega), ?_⟩
      rw [nI_clamp (by omega), (ha k (by omega)).1]
      refine placeOf_c h1 h4 hc (by omega) ⟨k + 1, by omega, by omega, ?_, nI_1 _⟩
      rw [nI_1, nI_add]
      rfl
theorem bestStayCost_c {osF : Nat → Int32} (h1 : 1 ≤ t) (h4 : t ≤ 4) (hq : q ≤ 16) (ha : AK t q a akF) (hr : OR t ocn osF) {K : Int32 → Prop} (hK : K (nI (mnF (fun i => sC t a (oC t i) q) 1000000 (oN t)))) : g_X5_bestStayCost (nI t) (nI q) ocn akF osF K := by
  have hn := f_nn h1 h4
  obtain ⟨rfl, hF⟩ := hr
  unfold g_X5_bestStayCost
  refine ⟨fun n s i => ∃ k, k ≤ oN t ∧ n = oN t - k + 1 ∧ s = nI (mnF (fun i => sC t a (oC t i) q) 1000000 k) ∧ i = nI k, ⟨oN t + 1, 0, by omega, by omega, rfl, rfl⟩, ?_, ?_⟩
  · rintro s i ⟨j, h, h', -⟩
    omega
  · rintro n s i ⟨k, hk, hn2, rfl, rfl⟩
    refine ⟨fun z => ?_, fun z => ?_⟩
    · have z := (nI_leI (by omega) (by omega)).mp z
      have : k = oN t := by omega
      subst this
      exact hK
    · have z : ¬ oN t ≤ k := fun y => z ((nI_leI (by omega) (by omega)).mpr y)
      have hc := hn.2.2.1 k (by omega)
      have hb := sC_b h1 h4 hc q (fun j hj => (ha j hj).2)
      have hm := (mnF_le (f := fun i => sC t a (oC t i) q) (b := 1000000) k).1
      refine ⟨vp_in_nI (by omega) (by omega), ?_⟩
      rw [nI_clamp (by omega), hF k (by omega)]
      refine stayCost_c h1 h4 hq ha (f_lt h1 h4 _ hc) ⟨k + 1, by omega, by omega, ?_, nI_1 _⟩
      show _ = nI (if sC t a (oC t k) q < mnF (fun i => sC t a (oC t i) q) 1000000 k then sC t a (oC t k) q else mnF (fun i => sC t a (oC t i) q) 1000000 k)
      by_cases w : sC t a (oC t k) q < mnF (fun i => sC t a (oC t i) q) 1000000 k
      · rw [if_pos w, if_pos ((nI_ltI (by omega) (by omega)).mpr w)]
      · rw [if_neg w, if_neg (fun y => w ((nI_ltI (by omega) (by omega)).mp y))]
end C91
section M91
variable {mkd mrt mri mca mpr men mos : Int32} {mtr : Int64} {t q : Nat} {a : Nat → Nat} {mqF mrF : Nat → Int32}
theorem frontCost_m (h1 : 1 ≤ t) (h4 : t ≤ 4) (hq : q ≤ 16) (ha : AK t q a mqF) {K : Int32 → (Nat → Int32) → Prop} (hK : ∀ F, (∀ j, j < t → F j = nI (tA (fr t a q) j)) → K (nI (fC t a q)) F) : g_X7_frontCost mkd mrt mri mca mpr men (nI t) (nI q) mtr mos mqF mrF K := by
  unfold g_X7_frontCost
  refine ⟨fun n i F => ∃ j, j ≤ t ∧ n = t - j + 1 ∧ i = nI j ∧ ∀ w, w < j → F w = nI w, ⟨t + 1, 0, by omega, by omega, rfl, fun w h => by omega⟩, ?_, ?_⟩
  · rintro i F ⟨j, h, h', -⟩
    omega
  · rintro n i F ⟨j, hj, hn, rfl, hF⟩
    refine ⟨fun z => ?_, fun z => ?_⟩
    · have z := (nI_leI (by omega) (by omega)).mp z
      have hj : j = t := by omega
      subst hj
      refine ⟨fun n s i F => ∃ k, k ≤ q ∧ n = q - k + 1 ∧ s = nI (fC j a k) ∧ i = nI k ∧ ∀ w, w < j → F w = nI (tA (fr j a k) w), ⟨q + 1, 0, by omega, by omega, rfl, rfl, fun w hw => ?_⟩, ?_, ?_⟩
      · rw [hF w hw, show tA (fr j a 0) w = w from (f_fo h1 h4).2.1 w hw]
      · rintro s i F ⟨k, h, h', -⟩
        omega
      · rintro n2 s i F2 ⟨k, hk, hn2, rfl, rfl, hF2⟩
        refine ⟨fun y => ?_, fun y => ?_⟩
        · have y := (nI_leI (by omega) (by omega)).mp y
          have : k = q := by omega
          subst this
          exact hK F2 hF2
        · have y : ¬ q ≤ k := fun x => y ((nI_leI (by omega) (by omega)).mpr x)
          have hf := fr_in h1 h4 (a := a) k (fun j hj => (ha j (by omega)).2)
          have hx := (ha k (by omega)).2
          have hax := (ha k (by omega)).1
          obtain ⟨hp1, hp2, hp3⟩ := f_pl h1 h4 _ hf (a k) hx
          have hmt := (f_mt h1 h4 _ hf (a k) hx).2
          refine ⟨fun n3 v => ∃ u, u ≤ pl j (fr j a k) (a k) ∧ n3 = pl j (fr j a k) (a k) - u + 1 ∧ v = nI u, ⟨pl j (fr j a k) (a k) + 1, 0, by omega, by omega, rfl⟩, ?_, ?_⟩
          · rintro v ⟨u, h, h', -⟩
            omega
          · rintro n3 v ⟨u, hu, hn3, rfl⟩
            have hdu := f_dg h1 h4 _ hf u (by omega)
            rw [nI_clamp (by omega), nI_clamp (by omega), hF2 u (by omega), hax]
            refine ⟨vp_in_nI (by omega) (by omega), vp_in_nI (by omega) (by omega), fun e => ?_, fun e => ?_⟩
            · have e := (nI_eq (by omega) (by omega)).mp e
              have hup : u = pl j (fr j a k) (a k) := by
                by_cases w : u < pl j (fr j a k) (a k)
                · exact absurd e (hp3 u w)
                · omega
              refine ⟨fun n4 v F => ∃ w, w ≤ u ∧ n4 = w + 1 ∧ v = nI w ∧ ∀ x, x < j → F x = (if w < x ∧ x ≤ u then nI (tA (fr j a k) (x - 1)) else nI (tA (fr j a k) x)), ⟨u + 1, u, Nat.le_refl u, rfl, rfl, fun x hx2 => ?_⟩, ?_, ?_⟩
              · rw [if_neg (by omega)]; exact hF2 x hx2
              · rintro v F ⟨w, h, h', -⟩
                omega
              · rintro n4 v F4 ⟨w, hw, hn4, rfl, hF4⟩
                refine ⟨fun b => ?_, fun b => ?_⟩
                · have b := (nI_leI (b := 0) (by omega) (by omega)).mp b
                  have hw0 : w = 0 := by omega
                  subst hw0
                  refine ⟨vp_in_nI (by omega) (by omega), vp_in_nI (n := 0) (by omega) (by omega), k + 1, by omega, by omega, ?_, nI_1 _, fun x hx2 => ?_⟩
                  · rw [nI_1, nI_add, hup]; rfl
                  · show upd F4 0 (nI (a k)) x = nI (tA (mtf (fr j a k) (pl j (fr j a k) (a k))) x)
                    rw [hmt x hx2]
                    by_cases g : x = 0
                    · rw [g, pk_us, if_pos rfl]
                    · rw [pk_un g, if_neg g, hF4 x hx2, ← hup]
                      by_cases g2 : x ≤ u
                      · rw [if_pos ⟨by omega, g2⟩, if_pos g2]
                      · rw [if_neg (fun h => g2 h.2), if_neg g2]
                · have b : ¬ w ≤ 0 := fun x => b ((nI_leI (b := 0) (by omega) (by omega)).mpr x)
                  obtain ⟨r, rfl⟩ : ∃ r, w = r + 1 := ⟨w - 1, by omega⟩
                  rw [show nI (r + 1) - 1 = nI r from nI_pred r, pk_m1, nI_clamp (by omega), nI_clamp (by omega)]
                  refine ⟨vp_in_nI (by omega) (by omega), vp_in_nI (by omega) (by omega), r, by omega, by omega, rfl, fun x hx2 => ?_⟩
                  by_cases g : x = r + 1
                  · rw [g, pk_us, hF4 r (by omega), if_neg (by omega), if_pos ⟨by omega, by omega⟩]
                    rfl
                  · rw [pk_un g, hF4 x hx2]
                    by_cases g2 : r < x ∧ x ≤ u
                    · rw [if_pos g2, if_pos ⟨by omega, g2.2⟩]
                    · rw [if_neg g2, if_neg (fun h => g2 ⟨by omega, h.2⟩)]
            · have e : ¬ tA (fr j a k) u = a k := fun x => e (by rw [x])
              have : ¬ u = pl j (fr j a k) (a k) := fun x => e (by rw [x]; exact hp2)
              exact ⟨u + 1, by omega, by omega, nI_1 _⟩
    · have z : ¬ t ≤ j := fun y => z ((nI_leI (by omega) (by omega)).mpr y)
      refine ⟨vp_in_nI (by omega) (by omega), j + 1, by omega, by omega, nI_1 _, fun w hw => ?_⟩
      rw [nI_clamp (by omega)]
      by_cases g : w = j
      · rw [g, pk_us]
      · rw [pk_un g]; exact hF w (by omega)
end M91
