/-! the searches of both sides -/
theorem wl_5 (i j : Nat) : (5 : Int32) * nI i + nI j = nI (5 * i + j) := by rw [← nI_add, ← pk_mul]; rfl
theorem wl_5r (i j : Nat) : nI i * (5 : Int32) + nI j = nI (5 * i + j) := by rw [← nI_add, Nat.mul_comm, ← pk_mul]; rfl
theorem wl_4 (i j : Nat) : (4 : Int32) * nI i + nI j = nI (4 * i + j) := by rw [← nI_add, ← pk_mul]; rfl
theorem wl_4r (i j : Nat) : nI i * (4 : Int32) + nI j = nI (4 * i + j) := by rw [← nI_add, Nat.mul_comm, ← pk_mul]; rfl
section
variable {p w s t : Nat} {A L P K S T LK C : Nat → Nat} {q1 q2 q3 q4 : Nat → Int32} {b1 b2 b3 : Int32}
theorem wl_C_lt (I : wl_Inv p w s t A L P K S T LK C) {i : Nat} (hi : i < w) : C i < 2048 := by
  obtain ⟨a, b, e⟩ := I.2.2.2.2 i hi
  rw [e]
  exact wl_cd_2048 b (fun j _ => I.2.1.1 _)
theorem wl_S_lt (I : wl_Inv p w s t A L P K S T LK C) : wl_cd S s < 2048 := wl_cd_2048 I.1.2.2.1 (fun j _ => I.2.1.2.1 j)
theorem wl_xfind_l {post : Int32 → Prop} {c : Nat} (I : wl_Inv p w s t A L P K S T LK C) (hc : c < 2048) (H : post (wl_ri (wl_fd (fun i => decide (C i = c)) w))) :
    ∀ n i, i ≤ w → w - i < n → (∀ j, j < i → decide (C j = c) = false) → wX_find_2 post (nI c) (nI p) (nI w) (nI (wl_cd S s)) (nI s) (nI t) (wl_ar C) (wl_ar P) (wl_ar K) (wl_ar LK) (wl_ar T) q1 q2 q3 q4 n (nI i) := by
  have hw : w ≤ 16 := I.1.2.1
  intro n
  induction n with
  | zero => intro i _ h; omega
  | succ n ih =>
    intro i hi hn hj
    rw [wX_find_2]
    refine pk_le w i (fun h => ?_) (fun h => ⟨vp_in_nI (by omega) (by omega), ?_⟩)
    · have e : i = w := by omega
      subst e
      rw [wl_fd_eqn hj] at H
      exact H
    · have h1 := wl_C_lt I h
      rw [nI_clamp (by omega)]
      refine pk_eq (C i) c (fun e => ?_) (fun e => nm_r (nI_1 i) (ih (i + 1) (by omega) (by omega) (lt_s hj (decide_eq_false e))))
      rw [wl_fd_eq h (decide_eq_true e) hj] at H
      exact H
theorem wl_xfind {post : Int32 → Prop} {c : Nat} (I : wl_Inv p w s t A L P K S T LK C) (hc : c < 2048) (H : post (wl_ri (wl_fd (fun i => decide (C i = c)) w))) :
    wpX_find post (nI p, nI w, nI (wl_cd S s), nI s, nI t, wl_ar C, wl_ar P, wl_ar K, wl_ar LK, wl_ar T, q1, q2, q3, q4) (nI c) :=
  ⟨w + 1, wl_xfind_l I hc H (w + 1) 0 (Nat.zero_le _) (by omega) (fun j hj => absurd hj (Nat.not_lt_zero j))⟩
theorem wl_ybegins_l {post : Int32 → Prop} {i : Nat} (I : wl_Inv p w s t A L P K S T LK C) (hi : i < 16) (h1 : (∀ j, j < s → A (5 * i + j) = S j) → post 1) (h0 : ¬ (∀ j, j < s → A (5 * i + j) = S j) → post 0) :
    ∀ n j, j ≤ s → s - j < n → (∀ j', j' < j → A (5 * i + j') = S j') → wY_begins_17 post (nI i) (nI p) (nI w) (nI s) (nI t) b1 b2 b3 (wl_ar A) (wl_ar L) (wl_ar P) (wl_ar K) (wl_ar S) (wl_ar T) (wl_ar LK) n (nI j) := by
  have hs : s ≤ 5 := I.1.2.2.1
  intro n
  induction n with
  | zero => intro j _ h; omega
  | succ n ih =>
    intro j hj hn hq
    rw [wY_begins_17]
    refine pk_le s j (fun h => ?_) (fun h => ?_)
    · exact h1 (fun j' hj' => hq j' (by omega))
    · rw [wl_5, nI_clamp (by omega), nI_clamp (by omega)]
      have a1 := I.2.1.1 (5 * i + j)
      have a2 := I.2.1.2.1 j
      refine ⟨vp_in_nI (by omega) (by omega), vp_in_nI (by omega) (by omega), pk_eq (A (5 * i + j)) (S j) (fun e => nm_r (nI_1 j) (ih (j + 1) (by omega) (by omega) (lt_s hq e))) (fun e => h0 (fun z => e (z j h)))⟩
theorem wl_ybegins {post : Int32 → Prop} {i : Nat} (I : wl_Inv p w s t A L P K S T LK C) (hi : i < w) (h1 : wl_Bg (wl_wd A i) (L i) S s → post 1) (h0 : ¬ wl_Bg (wl_wd A i) (L i) S s → post 0) :
    wpY_begins post (nI p, nI w, nI s, nI t, b1, b2, b3, wl_ar A, wl_ar L, wl_ar P, wl_ar K, wl_ar S, wl_ar T, wl_ar LK) (nI i) := by
  have hw : w ≤ 16 := I.1.2.1
  have hs : s ≤ 5 := I.1.2.2.1
  have hL := (I.2.2.2.2 i hi).2.1
  refine ⟨vp_in_nI (by omega) (by omega), ?_⟩
  rw [nI_clamp (by omega)]
  refine pk_le s (L i) (fun h => ⟨s + 1, ?_⟩) (fun h => h0 (fun z => by have := z.1; omega))
  exact wl_ybegins_l I (by omega) (fun z => h1 ⟨h, z⟩) (fun z => h0 (fun y => z y.2)) (s + 1) 0 (Nat.zero_le _) (by omega) (fun j hj => absurd hj (Nat.not_lt_zero j))
theorem wl_ynamed_l {post : Int32 → Prop} (I : wl_Inv p w s t A L P K S T LK C) (H : post (wl_ri (wl_fd (fun i => decide (C i = wl_cd S s)) w))) :
    ∀ n i, i ≤ w → w - i < n → (∀ j, j < i → decide (C j = wl_cd S s) = false) → wY_named_2 post (nI p) (nI w) (nI s) (nI t) b1 b2 b3 (wl_ar A) (wl_ar L) (wl_ar P) (wl_ar K) (wl_ar S) (wl_ar T) (wl_ar LK) n (nI i) := by
  have hw : w ≤ 16 := I.1.2.1
  have hs : s ≤ 5 := I.1.2.2.1
  intro n
  induction n with
  | zero => intro i _ h; omega
  | succ n ih =>
    intro i hi hn hj
    rw [wY_named_2]
    refine pk_le w i (fun h => ?_) (fun h => ⟨vp_in_nI (by omega) (by omega), ?_⟩)
    · have e : i = w := by omega
      subst e
      rw [wl_fd_eqn hj] at H
      exact H
    · have hL := (I.2.2.2.2 i h).2.1
      have hq := wl_same I I.2.1.2.1 h (n := s)
      have go : ¬ C i = wl_cd S s → wY_named_2 post (nI p) (nI w) (nI s) (nI t) b1 b2 b3 (wl_ar A) (wl_ar L) (wl_ar P) (wl_ar K) (wl_ar S) (wl_ar T) (wl_ar LK) n (nI (i + 1)) := fun e => ih (i + 1) (by omega) (by omega) (lt_s hj (decide_eq_false e))
      rw [nI_clamp (by omega)]
      refine pk_eq (L i) s (fun e => ?_) (fun e => nm_r (nI_1 i) (go (fun z => e (hq.mp z).1)))
      refine wl_ybegins I h (fun z => ?_) (fun z => ?_)
      · refine br_f (by decide) ?_
        rw [wl_fd_eq h (decide_eq_true (hq.mpr ⟨e, z.2⟩)) hj] at H
        exact H
      · refine br_t rfl (nm_r (nI_1 i) (go (fun y => z ⟨by omega, (hq.mp y).2⟩)))
theorem wl_ynamed {post : Int32 → Prop} (I : wl_Inv p w s t A L P K S T LK C) (H : post (wl_ri (wl_fd (fun i => decide (C i = wl_cd S s)) w))) :
    wpY_named post (nI p, nI w, nI s, nI t, b1, b2, b3, wl_ar A, wl_ar L, wl_ar P, wl_ar K, wl_ar S, wl_ar T, wl_ar LK) :=
  ⟨w + 1, wl_ynamed_l I H (w + 1) 0 (Nat.zero_le _) (by omega) (fun j hj => absurd hj (Nat.not_lt_zero j))⟩
/-! X's test of a word's beginning -/
theorem wl_xbw_l {post : Int32 → Prop} {i : Nat} (I : wl_Inv p w s t A L P K S T LK C) (hi : i < w) (h1 : wl_Bg (wl_wd A i) (L i) S s → post 1) (h0 : ¬ wl_Bg (wl_wd A i) (L i) S s → post 0) :
    ∀ n d, d ≤ 6 → 6 - d < n → (∀ d', d' < d → ¬ wl_fr (wl_wd A i) (L i) d' = wl_cd S s) → wX_beginsWithSpelling_4 post (nI p) (nI w) (nI (wl_cd S s)) (nI s) (nI t) (wl_ar C) (wl_ar P) (wl_ar K) (wl_ar LK) (wl_ar T) q1 q2 q3 q4 n (nI (wl_fr (wl_wd A i) (L i) d)) (nI d) := by
  have hA : ∀ j, wl_wd A i j < 4 := fun j => I.2.1.1 _
  have hL := (I.2.2.2.2 i hi).2.1
  have hq := fun d => wl_fr_eq hA I.2.1.2.1 (L i) d s
  intro n
  induction n with
  | zero => intro d _ h; omega
  | succ n ih =>
    intro d hd hn hj
    rw [wX_beginsWithSpelling_4]
    refine pk_lt 5 d (fun h => ?_) (fun h => ?_)
    · refine h0 (fun z => ?_)
      have hz := z.1
      exact hj (L i - s) (by omega) ((hq _).mpr ⟨by omega, z.2⟩)
    · have b1 := wl_fr_lt hA hL d
      have b2 := wl_S_lt I
      refine pk_eq _ _ (fun e => ?_) (fun e => ?_)
      · obtain ⟨e1, e2⟩ := (hq d).mp e
        exact h1 ⟨by omega, e2⟩
      · refine nm_r ?_ (nm_r (nI_1 d) (ih (d + 1) (by omega) (by omega) (lt_s hj e)))
        rw [pk_shrN (by omega) _ 2 (by decide)]
        exact congrArg nI (wl_fr_s hA (L i) d)
theorem wl_xbw {post : Int32 → Prop} {i : Nat} (I : wl_Inv p w s t A L P K S T LK C) (hi : i < w) (h1 : wl_Bg (wl_wd A i) (L i) S s → post 1) (h0 : ¬ wl_Bg (wl_wd A i) (L i) S s → post 0) :
    wpX_beginsWithSpelling post (nI p, nI w, nI (wl_cd S s), nI s, nI t, wl_ar C, wl_ar P, wl_ar K, wl_ar LK, wl_ar T, q1, q2, q3, q4) (nI (C i)) := by
  refine ⟨7, ?_⟩
  rw [(I.2.2.2.2 i hi).2.2, ← wl_fr_0]
  exact wl_xbw_l I hi h1 h0 7 0 (by omega) (by omega) (fun j hj => absurd hj (Nat.not_lt_zero j))
/-! counting the words that begin so -/
theorem wl_begin (I : wl_Inv p w s t A L P K S T LK C) : ∀ d i c, i + d = w → c ≤ i → ∃ r : Int32, (∀ post : Int32 → Prop, post r → wX_beginning_4 post (nI p) (nI w) (nI (wl_cd S s)) (nI s) (nI t) (wl_ar C) (wl_ar P) (wl_ar K) (wl_ar LK) (wl_ar T) q1 q2 q3 q4 (d + 1) (nI c) (nI i)) ∧ (∀ post : Int32 → Prop, post r → wY_beginning_4 post (nI p) (nI w) (nI s) (nI t) b1 b2 b3 (wl_ar A) (wl_ar L) (wl_ar P) (wl_ar K) (wl_ar S) (wl_ar T) (wl_ar LK) (d + 1) (nI c) (nI i)) := by
  have hw : w ≤ 16 := I.1.2.1
  intro d
  induction d with
  | zero =>
    intro i c hi hc
    have h : nI w ≤ nI i := nI_le (by omega) (by omega)
    exact ⟨nI c, fun _ hp => br_t h hp, fun _ hp => br_t h hp⟩
  | succ d ih =>
    intro i c hi hc
    have h : ¬ nI w ≤ nI i := nI_ge (by omega) (by omega)
    have hv : vp_in (nI i) 16 := vp_in_nI (by omega) (by omega)
    by_cases g : wl_Bg (wl_wd A i) (L i) S s
    · obtain ⟨r, hX, hY⟩ := ih (i + 1) (c + 1) (by omega) (by omega)
      refine ⟨r, fun post hp => br_f h ⟨hv, ?_⟩, fun post hp => br_f h ?_⟩
      · rw [nI_clamp (by omega)]
        exact wl_xbw I (by omega) (fun _ => br_f (by decide) (nm_r (nI_1 c) (nm_r (nI_1 i) (hX post hp)))) (fun z => absurd g z)
      · exact wl_ybegins I (by omega) (fun _ => br_f (by decide) (nm_r (nI_1 c) (nm_r (nI_1 i) (hY post hp)))) (fun z => absurd g z)
    · obtain ⟨r, hX, hY⟩ := ih (i + 1) c (by omega) (by omega)
      refine ⟨r, fun post hp => br_f h ⟨hv, ?_⟩, fun post hp => br_f h ?_⟩
      · rw [nI_clamp (by omega)]
        exact wl_xbw I (by omega) (fun z => absurd z g) (fun _ => br_t rfl (nm_r (nI_1 i) (hX post hp)))
      · exact wl_ybegins I (by omega) (fun z => absurd z g) (fun _ => br_t rfl (nm_r (nI_1 i) (hY post hp)))
end
