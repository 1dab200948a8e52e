/-! cost, ways, start -/
section
variable {p w s t : Nat} {A L P K S T LK C : Nat → Nat} {q1 q2 q3 q4 : Nat → Int32} {b1 b2 b3 : Int32}
variable {R1 R2 R3 R4 : Nat → Nat} {B W D m : Nat}
theorem wl_ystart_none {post : Int32 → SY → Prop} {x1 : Int32} (ht : t ≤ 12) (hD : D < 65536) (hx : ∀ j, j ≤ t → ¬ nI j = x1) (hp : post (-1) (nI p, nI w, nI s, nI t, b1, b2, nI D, wl_ar A, wl_ar L, wl_ar P, wl_ar K, wl_ar S, wl_ar T, wl_ar LK)) :
    ∀ n j z, t + 1 - z < n → z ≤ t + 1 → j ≤ z → wY_start_8 post x1 (nI p) (nI w) (nI s) (nI t) b1 b2 (nI D) (wl_ar A) (wl_ar L) (wl_ar P) (wl_ar K) (wl_ar S) (wl_ar T) (wl_ar LK) n (nI j) (nI z) := by
  intro n
  induction n with
  | zero => intro j z h; omega
  | succ n ih =>
    intro j z hn hz hj
    rw [wY_start_8]
    refine pk_lt t z (fun _ => hp) (fun h => ?_)
    refine wl_yborder ht h hD (fun _ => br_f (by decide) (br_f (hx j (by omega)) (nm_r (nI_1 j) (nm_r (nI_1 z) (ih (j + 1) (z + 1) (by omega) (by omega) (by omega)))))) (fun _ => br_t rfl (nm_r (nI_1 z) (ih j (z + 1) (by omega) (by omega) (by omega))))
theorem wl_ystart_skip {post : Int32 → SY → Prop} {x1 y : Int32} {e : Nat} (ht : t ≤ 12) (hD : D < 65536) (he : e ≤ t)
    (hY : ∀ n, t - e + 1 < n → wY_start_8 post x1 (nI p) (nI w) (nI s) (nI t) b1 b2 (nI D) (wl_ar A) (wl_ar L) (wl_ar P) (wl_ar K) (wl_ar S) (wl_ar T) (wl_ar LK) n y (nI e)) :
    ∀ k z, z + k = e → (∀ z', z ≤ z' → z' < e → ¬ wl_bo t D z') → ∀ n, t - z + 1 < n → wY_start_8 post x1 (nI p) (nI w) (nI s) (nI t) b1 b2 (nI D) (wl_ar A) (wl_ar L) (wl_ar P) (wl_ar K) (wl_ar S) (wl_ar T) (wl_ar LK) n y (nI z) := by
  intro k
  induction k with
  | zero =>
    intro z hz _ n hn
    have e1 : z = e := by omega
    subst e1
    exact hY n hn
  | succ k ih =>
    intro z hz hb n hn
    obtain ⟨n, rfl⟩ : ∃ n', n = n' + 1 := ⟨n - 1, by omega⟩
    rw [wY_start_8]
    refine pk_lt t z (fun h => absurd h (by omega)) (fun h => ?_)
    exact wl_yborder ht h hD (fun q => absurd q (hb z (by omega) (by omega))) (fun _ => br_t rfl (nm_r (nI_1 z) (ih (z + 1) (by omega) (fun z' h1 h2 => hb z' (by omega) h2) n (by omega))))
theorem wl_start (I : wl_Inv p w s t A L P K S T LK C) (hT : wl_Tab t (wl_pc p w C P K T) LK R1 R2 R3 R4) (hD : D < 65536) (hm : m ≤ t) :
    ∀ N a b j c, t - a ≤ N → a ≤ t → b < 5 → j ≤ m → j ≤ a → wl_bo t D a → wl_Sm (wl_G t (wl_pc p w C P K T) LK (t - a) a b) 0 (wl_hi t a) (R1 (5 * a + b)) (R2 (5 * a + b)) c → wl_Go t a D c →
      ∃ r : Int32, (∀ post : Int32 → SX → Prop, post r (nI p, nI w, nI (wl_cd S s), nI s, nI t, wl_ar C, wl_ar P, wl_ar K, wl_ar LK, wl_ar T, wl_ar R1, wl_ar R2, wl_ar R3, wl_ar R4) → ∀ n, N < n → wX_start_25 post (nI m) (nI p) (nI w) (nI (wl_cd S s)) (nI s) (nI t) (wl_ar C) (wl_ar P) (wl_ar K) (wl_ar LK) (wl_ar T) (wl_ar R1) (wl_ar R2) (wl_ar R3) (wl_ar R4) n (nI a) (nI b) (nI j)) ∧
        (∀ post : Int32 → SY → Prop, post r (nI p, nI w, nI s, nI t, b1, b2, nI D, wl_ar A, wl_ar L, wl_ar P, wl_ar K, wl_ar S, wl_ar T, wl_ar LK) → ∀ n, t - a + 1 < n → wY_start_8 post (nI m) (nI p) (nI w) (nI s) (nI t) b1 b2 (nI D) (wl_ar A) (wl_ar L) (wl_ar P) (wl_ar K) (wl_ar S) (wl_ar T) (wl_ar LK) n (nI j) (nI a)) := by
  have ht : t ≤ 12 := I.1.2.2.2
  intro N
  induction N with
  | zero =>
    intro a b j c hN ha hb hj hja hbo hS hG
    have ea : a = t := by omega
    by_cases hjm : j = m
    · subst hjm
      refine ⟨nI a, fun post hp n hn => ?_, fun post hp n hn => ?_⟩
      · obtain ⟨n, rfl⟩ : ∃ n', n = n' + 1 := ⟨n - 1, by omega⟩
        rw [wX_start_25]
        exact br_t (nI_le (Nat.le_refl _) (by omega)) hp
      · obtain ⟨n, rfl⟩ : ∃ n', n = n' + 1 := ⟨n - 1, by omega⟩
        rw [wY_start_8]
        exact pk_lt t a (fun h => absurd h (by omega)) (fun h => wl_yborder ht h hD (fun _ => br_f (by decide) (br_t rfl hp)) (fun q => absurd hbo q))
    · refine ⟨-1, fun post hp n hn => ?_, fun post hp n hn => ?_⟩
      · obtain ⟨n, rfl⟩ : ∃ n', n = n' + 1 := ⟨n - 1, by omega⟩
        rw [wX_start_25]
        exact pk_le m j (fun h => absurd h (by omega)) (fun _ => pk_lt a t (fun h => absurd h (by omega)) (fun _ => hp))
      · obtain ⟨n, rfl⟩ : ∃ n', n = n' + 1 + 1 := ⟨n - 2, by omega⟩
        rw [wY_start_8]
        refine pk_lt t a (fun h => absurd h (by omega)) (fun h => wl_yborder ht h hD (fun _ => br_f (by decide) (pk_eq j m (fun z => absurd z hjm) (fun _ => nm_r (nI_1 j) (nm_r (nI_1 a) ?_)))) (fun q => absurd hbo q))
        rw [wY_start_8]
        exact pk_lt t (a + 1) (fun _ => hp) (fun h => absurd h (by omega))
  | succ N ih =>
    intro a b j c hN ha hb hj hja hbo hS hG
    by_cases hjm : j = m
    · subst hjm
      refine ⟨nI a, fun post hp n hn => ?_, fun post hp n hn => ?_⟩
      · obtain ⟨n, rfl⟩ : ∃ n', n = n' + 1 := ⟨n - 1, by omega⟩
        rw [wX_start_25]
        exact br_t (nI_le (Nat.le_refl _) (by omega)) hp
      · obtain ⟨n, rfl⟩ : ∃ n', n = n' + 1 := ⟨n - 1, by omega⟩
        rw [wY_start_8]
        exact pk_lt t a (fun h => absurd h (by omega)) (fun h => wl_yborder ht h hD (fun _ => br_f (by decide) (br_t rfl hp)) (fun q => absurd hbo q))
    by_cases hat : a = t
    · refine ⟨-1, fun post hp n hn => ?_, fun post hp n hn => ?_⟩
      · obtain ⟨n, rfl⟩ : ∃ n', n = n' + 1 := ⟨n - 1, by omega⟩
        rw [wX_start_25]
        exact pk_le m j (fun h => absurd h (by omega)) (fun _ => pk_lt a t (fun h => absurd h (by omega)) (fun _ => hp))
      · obtain ⟨n, rfl⟩ : ∃ n', n = n' + 1 + 1 := ⟨n - 2, by omega⟩
        rw [wY_start_8]
        refine pk_lt t a (fun h => absurd h (by omega)) (fun h => wl_yborder ht h hD (fun _ => br_f (by decide) (pk_eq j m (fun z => absurd z hjm) (fun _ => nm_r (nI_1 j) (nm_r (nI_1 a) ?_)))) (fun q => absurd hbo q))
        rw [wY_start_8]
        exact pk_lt t (a + 1) (fun _ => hp) (fun h => absurd h (by omega))
    · obtain ⟨c2, s2, f2⟩ := hT a b ha hb
      obtain ⟨_, _, ec⟩ := wl_Sm_uniq s2 hS
      subst ec
      obtain ⟨c', t1, t2, t3, t4, t5⟩ := f2 (by omega)
      have hc' : c' < wl_hi t (R3 (5 * a + b)) := by have := t5.2.2.1; omega
      obtain ⟨g1, g2, g3⟩ := wl_Go_next t1 t2 hc' t4 hG
      obtain ⟨r, hX, hY⟩ := ih (R3 (5 * a + b)) (R4 (5 * a + b)) (j + 1) c' (by omega) t2 (by omega) (by omega) (by omega) g2 t5 g1
      refine ⟨r, fun post hp n hn => ?_, fun post hp n hn => ?_⟩
      · obtain ⟨n, rfl⟩ : ∃ n', n = n' + 1 := ⟨n - 1, by omega⟩
        rw [wX_start_25]
        have v : vp_in (nI (5 * a + b)) 65 := vp_in_nI (by omega) (by omega)
        refine pk_le m j (fun h => absurd h (by omega)) (fun _ => pk_lt a t (fun h => nm_r (wl_5r a b) ?_) (fun h => absurd h (by omega)))
        rw [nI_clamp (n := 5 * a + b) (by omega)]
        exact ⟨v, nm_e ⟨v, nm_e (nm_r (nI_1 j) (hX post hp n (by omega)))⟩⟩
      · obtain ⟨n, rfl⟩ : ∃ n', n = n' + 1 := ⟨n - 1, by omega⟩
        rw [wY_start_8]
        refine pk_lt t a (fun h => absurd h (by omega)) (fun h => wl_yborder ht h hD (fun _ => br_f (by decide) (pk_eq j m (fun z => absurd z hjm) (fun _ => nm_r (nI_1 j) (nm_r (nI_1 a) ?_)))) (fun q => absurd hbo q))
        exact wl_ystart_skip ht hD t2 (fun n' hn' => hY post hp n' hn') (R3 (5 * a + b) - (a + 1)) (a + 1) (by omega) (fun z' h1 h2 => g3 z' (by omega) h2) n (by omega)
end
theorem i_vc_cost {k : Nat} {u : SX} {v : SY} (I : i_Rel k u v) (hk : k + 4 ≤ 2049) : wpX_cost (fun r u' => wpY_cost (fun r' v' => r' = r ∧ i_Rel (k + 4) u' v') v) u := by
  obtain ⟨p, w, s, t, A, L, P, K, S, T, LK, C, q1, q2, q3, q4, b1, b2, b3, I, rfl, rfl⟩ := I
  unfold wpX_cost wpY_cost
  refine wl_xcut I (fun R1 R2 R3 R4 hT => ?_)
  obtain ⟨c, hS, _⟩ := hT 0 4 (Nat.zero_le _) (by omega)
  refine wl_ylook I (D := c) hS ?_
  exact ⟨rfl, wl_rel I⟩
theorem i_vc_ways {k : Nat} {u : SX} {v : SY} (I : i_Rel k u v) (hk : k + 4 ≤ 2049) : wpX_ways (fun r u' => wpY_ways (fun r' v' => r' = r ∧ i_Rel (k + 4) u' v') v) u := by
  obtain ⟨p, w, s, t, A, L, P, K, S, T, LK, C, q1, q2, q3, q4, b1, b2, b3, I, rfl, rfl⟩ := I
  unfold wpX_ways wpY_ways
  refine wl_xcut I (fun R1 R2 R3 R4 hT => ?_)
  obtain ⟨c, hS, _⟩ := hT 0 4 (Nat.zero_le _) (by omega)
  refine wl_ylook I (D := c) hS ?_
  exact ⟨rfl, wl_rel I⟩
theorem wl_YL_D {f : Nat → Option Nat} {i : Nat} {x y z : Int32} (hi : i ≤ 2048) (h : wl_YL f i x y z) : ∃ D, D < 65536 ∧ z = nI D := by
  rcases h with ⟨_, _, h3, _⟩ | ⟨B, W, C, _, _, h3, h4⟩
  · exact ⟨0, by omega, h3⟩
  · exact ⟨C, by have := h4.2.2.1; omega, h3⟩
theorem i_vc_start {k : Nat} {u : SX} {v : SY} (I : i_Rel k u v) (hk : k + 4 ≤ 2049) (v1 : Int32) : wpX_start (fun r u' => wpY_start (fun r' v' => r' = r ∧ i_Rel (k + 4) u' v') v v1) u v1 := by
  obtain ⟨p, w, s, t, A, L, P, K, S, T, LK, C, q1, q2, q3, q4, b1, b2, b3, I, rfl, rfl⟩ := I
  have ht : t ≤ 12 := I.1.2.2.2
  have hM := wl_hi_2048 ht 0
  unfold wpX_start wpY_start
  have no : (∀ j, j ≤ t → ¬ nI j = v1) → wpY_look (fun u => match u with | (f_penalty, f_words, f_spelling, f_typed, f_best, f_many, f_chosen, a_letters, a_length, a_price, a_kind, a_spelled, a_text, a_links) => ∃ n8 : Nat, wY_start_8 (fun r' v' => r' = -1 ∧ i_Rel (k + 4) (nI p, nI w, nI (wl_cd S s), nI s, nI t, wl_ar C, wl_ar P, wl_ar K, wl_ar LK, wl_ar T, q1, q2, q3, q4) v') v1 f_penalty f_words f_spelling f_typed f_best f_many f_chosen a_letters a_length a_price a_kind a_spelled a_text a_links n8 0 0) (nI p, nI w, nI s, nI t, b1, b2, b3, wl_ar A, wl_ar L, wl_ar P, wl_ar K, wl_ar S, wl_ar T, wl_ar LK) := by
    intro hx
    refine wl_ylook0 I (fun b1 b2 b3 hY => ?_)
    obtain ⟨D, hD, rfl⟩ := wl_YL_D hM hY
    exact ⟨t + 2, wl_ystart_none ht hD hx ⟨rfl, wl_rel I⟩ (t + 2) 0 0 (by omega) (by omega) (by omega)⟩
  by_cases h0 : v1 < 0
  · refine br_t h0 (no (fun j hj z => ?_))
    rw [← z] at h0
    exact nI_pos (by omega) h0
  obtain ⟨m, hm, rfl⟩ := nI_of h0
  refine br_f h0 (pk_le m t (fun h => ?_) (fun h => no (fun j hj z => ?_)))
  · refine wl_xcut I (fun R1 R2 R3 R4 hT => ⟨t + 1, ?_⟩)
    obtain ⟨c, hS, _⟩ := hT 0 4 (Nat.zero_le _) (by omega)
    have hc : c < 65536 := by have := hS.2.2.1; omega
    obtain ⟨r, hX, hY⟩ := wl_start (b1 := nI (R1 4)) (b2 := nI (R2 4)) I hT hc h t 0 4 0 c (by omega) (by omega) (by omega) (by omega) (by omega) (Or.inl rfl) hS (fun _ _ => rfl)
    refine hX _ ?_ (t + 1) (by omega)
    exact wl_ylook I (D := c) hS ⟨t + 2, hY _ ⟨rfl, wl_rel I⟩ (t + 2) (by omega)⟩
  · rw [nI_eq (by omega) hm] at z
    omega
