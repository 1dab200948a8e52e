/-! Y's look over all cuts -/
section
variable {p w s t : Nat} {A L P K S T LK C : Nat → Nat} {q1 q2 q3 q4 : Nat → Int32} {b1 b2 b3 : Int32}
theorem wl_yborder {post : Int32 → Prop} {d z : Nat} (ht : t ≤ 12) (hz : z ≤ t) (hd : d < 65536) (h1 : wl_bo t d z → post 1) (h0 : ¬ wl_bo t d z → post 0) : wpY_border post (nI p, nI w, nI s, nI t, b1, b2, b3, wl_ar A, wl_ar L, wl_ar P, wl_ar K, wl_ar S, wl_ar T, wl_ar LK) (nI d) (nI z) := by
  refine pk_eq z 0 (fun e => h1 (Or.inl e)) (fun e => pk_eq z t (fun e2 => h1 (Or.inr (Or.inl e2))) (fun e2 => ?_))
  have e3 : nI t - 1 - nI z = nI (t - 1 - z) := by
    rw [show (1 : Int32) = nI 1 from rfl, pk_sub (by omega), pk_sub (by omega)]
  rw [e3, wl_bit hd (by omega)]
  by_cases hb : d.testBit (t - 1 - z) = true
  · rw [if_pos hb]
    exact br_t rfl (h1 (Or.inr (Or.inr hb)))
  · rw [if_neg hb]
    refine br_f (by decide) (h0 (fun y => ?_))
    rcases y with y | y | y
    · exact e y
    · exact e2 y
    · exact hb y
theorem wl_ystands_l {post : Int32 → Prop} {i fr : Nat} (I : wl_Inv p w s t A L P K S T LK C) (hi : i < w) (hf : fr + L i ≤ t) (h1 : (∀ j, j < L i → A (5 * i + j) = T (fr + j)) → post 1) (h0 : ¬ (∀ j, j < L i → A (5 * i + j) = T (fr + j)) → post 0) :
    ∀ n j, j ≤ L i → L i - j < n → (∀ j', j' < j → A (5 * i + j') = T (fr + j')) → wY_stands_2 post (nI i) (nI fr) (nI p) (nI w) (nI s) (nI t) b1 b2 b3 (wl_ar A) (wl_ar L) (wl_ar P) (wl_ar K) (wl_ar S) (wl_ar T) (wl_ar LK) n (nI j) := by
  have ht : t ≤ 12 := I.1.2.2.2
  have hw : w ≤ 16 := I.1.2.1
  have hL := (I.2.2.2.2 i hi).2.1
  intro n
  induction n with
  | zero => intro j _ h; omega
  | succ n ih =>
    intro j hj hn hq
    rw [wY_stands_2, nI_clamp (n := i) (by omega)]
    refine ⟨vp_in_nI (by omega) (by omega), pk_le (L i) j (fun h => h1 (fun j' hj' => hq j' (by omega))) (fun h => ?_)⟩
    rw [nI_add fr j, wl_5 i j, nI_clamp (n := 5 * i + j) (by omega), nI_clamp (n := fr + j) (by omega)]
    have a1 := I.2.1.1 (5 * i + j)
    have a2 := I.2.1.2.2 (fr + j)
    exact pk_le t (fr + j) (fun h2 => absurd h2 (by omega)) (fun h2 => ⟨vp_in_nI (by omega) (by omega), vp_in_nI (by omega) (by omega), pk_eq (A (5 * i + j)) (T (fr + j)) (fun e => nm_r (nI_1 j) (ih (j + 1) (by omega) (by omega) (lt_s hq e))) (fun e => h0 (fun z => e (z j h)))⟩)
theorem wl_yword_l {post : Int32 → Prop} {fr ed : Nat} (I : wl_Inv p w s t A L P K S T LK C) (hf : fr ≤ ed) (he : ed ≤ t) (H : post (wl_ri (wl_ix w C T fr ed))) :
    ∀ n i, i ≤ w → w - i < n → (∀ j, j < i → decide (C j = wl_cd (wl_tx T fr) (ed - fr)) = false) → wY_word_2 post (nI fr) (nI ed) (nI p) (nI w) (nI s) (nI t) b1 b2 b3 (wl_ar A) (wl_ar L) (wl_ar P) (wl_ar K) (wl_ar S) (wl_ar T) (wl_ar LK) n (nI i) := by
  have hw : w ≤ 16 := I.1.2.1
  have ht : t ≤ 12 := I.1.2.2.2
  unfold wl_ix at H
  intro n
  induction n with
  | zero => intro i _ h; omega
  | succ n ih =>
    intro i hi hn hj
    rw [wY_word_2]
    refine pk_le w i (fun h => ?_) (fun h => ⟨vp_in_nI (by omega) (by omega), ?_⟩)
    · have e : i = w := by omega
      subst e
      rw [wl_fd_eqn hj] at H
      exact H
    · have hL := (I.2.2.2.2 i h).2.1
      have hq := wl_same I (g := wl_tx T fr) (fun j => I.2.1.2.2 _) h (n := ed - fr)
      have go : ¬ C i = wl_cd (wl_tx T fr) (ed - fr) → wY_word_2 post (nI fr) (nI ed) (nI p) (nI w) (nI s) (nI t) b1 b2 b3 (wl_ar A) (wl_ar L) (wl_ar P) (wl_ar K) (wl_ar S) (wl_ar T) (wl_ar LK) n (nI (i + 1)) := fun e => ih (i + 1) (by omega) (by omega) (lt_s hj (decide_eq_false e))
      rw [nI_clamp (by omega), pk_sub hf]
      refine pk_eq (L i) (ed - fr) (fun e => ⟨L i + 1, ?_⟩) (fun e => nm_r (nI_1 i) (go (fun z => e (hq.mp z).1)))
      refine wl_ystands_l I h (by omega) (fun z => ?_) (fun z => ?_) (L i + 1) 0 (Nat.zero_le _) (by omega) (fun j hj => absurd hj (Nat.not_lt_zero j))
      · refine br_f (by decide) ?_
        rw [wl_fd_eq h (decide_eq_true (hq.mpr ⟨e, fun j hj => z j (by omega)⟩)) hj] at H
        exact H
      · exact br_t rfl (nm_r (nI_1 i) (go (fun y => z (fun j hj => (hq.mp y).2 j (by omega)))))
theorem wl_yword {post : Int32 → Prop} {fr ed : Nat} (I : wl_Inv p w s t A L P K S T LK C) (hf : fr ≤ ed) (he : ed ≤ t) (H : post (wl_ri (wl_ix w C T fr ed))) : wpY_word post (nI p, nI w, nI s, nI t, b1, b2, b3, wl_ar A, wl_ar L, wl_ar P, wl_ar K, wl_ar S, wl_ar T, wl_ar LK) (nI fr) (nI ed) :=
  ⟨w + 1, wl_yword_l I hf he H (w + 1) 0 (Nat.zero_le _) (by omega) (fun j hj => absurd hj (Nat.not_lt_zero j))⟩
def wl_bI (b : Nat) : Int32 := if b = 4 then -1 else nI b
theorem wl_y91 {post : Int32 → Prop} {J : Int32 → Int32 → Int32 → Int32 → Prop} {x1 : Int32} {b z k c sum : Nat} (I : wl_Inv p w s t A L P K S T LK C) (hb : b < 5) (hk : k < 4)
    (h : J (nI (sum + (LK (4 * b + k) + c))) (nI z) (nI k) (nI (z + 1))) : wY_costOf_91 post J x1 (wl_bI b) (nI z) (nI k) (nI c) (nI sum) (nI p) (nI w) (nI s) (nI t) b1 b2 b3 (wl_ar A) (wl_ar L) (wl_ar P) (wl_ar K) (wl_ar S) (wl_ar T) (wl_ar LK) := by
  refine nm_r (nI_add sum c) ?_
  by_cases e : b = 4
  · subst e
    have e2 : LK (4 * 4 + k) = 0 := I.2.2.1.2 _ (by omega)
    rw [e2, Nat.zero_add] at h
    exact br_t (show (-1 : Int32) < 0 by decide) (nm_r (nI_1 z) h)
  · have e3 : wl_bI b = nI b := if_neg e
    rw [e3, wl_4 b k, nI_clamp (n := 4 * b + k) (by omega)]
    refine br_f (nI_pos (by omega)) ⟨vp_in_nI (by omega) (by omega), nm_r (e' := nI (sum + (LK (4 * b + k) + c))) ?_ (nm_r (nI_1 z) h)⟩
    show nI (sum + c) + nI (LK (4 * b + k)) = _
    rw [nI_add]
    exact congrArg nI (by omega)
theorem wl_ycost_l {post : Int32 → Prop} {d : Nat} (I : wl_Inv p w s t A L P K S T LK C) (hd : d < 65536) :
    ∀ R n fr b sum, R < n → fr + R ≤ t → b < 5 → (wl_G t (wl_pc p w C P K T) LK R fr b d = none → post (-1)) → (∀ x, wl_G t (wl_pc p w C P K T) LK R fr b d = some x → post (nI (sum + x))) →
      wY_costOf_10 post (nI d) (nI p) (nI w) (nI s) (nI t) b1 b2 b3 (wl_ar A) (wl_ar L) (wl_ar P) (wl_ar K) (wl_ar S) (wl_ar T) (wl_ar LK) n (nI sum) (nI fr) (wl_bI b) (nI (t + 1 - R)) := by
  have hw : w ≤ 16 := I.1.2.1
  have ht : t ≤ 12 := I.1.2.2.2
  intro R
  induction R with
  | zero =>
    intro n fr b sum hn hf hb h0 h1
    obtain ⟨n, rfl⟩ : ∃ n', n = n' + 1 := ⟨n - 1, by omega⟩
    rw [wY_costOf_10]
    exact pk_lt t (t + 1 - 0) (fun _ => h1 0 rfl) (fun h => absurd h (by omega))
  | succ R ih =>
    intro n fr b sum hn hf hb h0 h1
    obtain ⟨n, rfl⟩ : ∃ n', n = n' + 1 := ⟨n - 1, by omega⟩
    obtain ⟨z, hz⟩ : ∃ z, z = t - R := ⟨_, rfl⟩
    have hbq : wl_bo t d z ↔ (R = 0 ∨ d.testBit (R - 1) = true) := by
      unfold wl_bo
      rw [show t - 1 - z = R - 1 by omega]
      constructor
      · intro y
        rcases y with y | y | y
        · omega
        · exact Or.inl (by omega)
        · exact Or.inr y
      · intro y
        rcases y with y | y
        · exact Or.inr (Or.inl (by omega))
        · exact Or.inr (Or.inr y)
    have ez : nI (t + 1 - R) = nI (z + 1) := congrArg nI (by omega)
    rw [show nI (t + 1 - (R + 1)) = nI z from congrArg nI (by omega), wY_costOf_10]
    rw [ez] at ih
    refine pk_lt t z (fun h => absurd h (by omega)) (fun _ => ?_)
    refine wl_yborder ht (by omega) hd (fun hB => br_f (by decide) ?_) (fun hB => ?_)
    · have hB2 := hbq.mp hB
      have step : ∀ c k, k < 4 → wl_pc p w C P K T fr z = some (c, k) → wY_costOf_10 post (nI d) (nI p) (nI w) (nI s) (nI t) b1 b2 b3 (wl_ar A) (wl_ar L) (wl_ar P) (wl_ar K) (wl_ar S) (wl_ar T) (wl_ar LK) n (nI (sum + (LK (4 * b + k) + c))) (nI z) (nI k) (nI (z + 1)) := by
        intro c k hk e
        have eG : wl_G t (wl_pc p w C P K T) LK (R + 1) fr b d = (wl_G t (wl_pc p w C P K T) LK R z k d).map (fun x => LK (4 * b + k) + c + x) := by
          have := wl_G_b (n := t) (pc := wl_pc p w C P K T) (lk := LK) (fr := fr) (b := b) (c := c) (k := k) hB2 (by rw [← hz]; exact e)
          rw [this, ← hz]
        have eb : wl_bI k = nI k := if_neg (by omega)
        rw [← eb]
        refine ih n z k _ (by omega) (by omega) (by omega) (fun y => h0 (by rw [eG, y]; rfl)) (fun x y => ?_)
        have := h1 (LK (4 * b + k) + c + x) (by rw [eG, y]; rfl)
        rw [← Nat.add_assoc] at this
        exact this
      refine wl_yword I (by omega) (by omega) ?_
      cases e : wl_ix w C T fr z with
      | some i =>
        obtain ⟨hi, _, _⟩ := wl_fd_some w i e
        have hk := I.2.2.2.1.2 i
        have v : vp_in (nI i) 16 := vp_in_nI (by omega) (by omega)
        have g : (0 : Int32) ≤ nI i := nI_pos' (by omega)
        refine br_t g (br_t g ⟨v, br_t g ⟨v, ?_⟩⟩)
        rw [show (wl_ri (some i)).toNatClampNeg = i from nI_clamp (by omega)]
        exact wl_y91 I hb (by omega) (step _ _ (by omega) (wl_pc_w e))
      | none =>
        have g : ¬ (0 : Int32) ≤ -1 := by decide
        refine br_f g ?_
        rw [pk_sub (by omega)]
        refine pk_le (z - fr) 1 (fun q => br_f g (br_f g ?_)) (fun q => h0 ?_)
        · exact wl_y91 (k := 3) (c := p) I hb (by decide) (step p 3 (by decide) (wl_pc_u e (by omega)))
        · exact wl_G_bn hB2 (by rw [← hz]; exact wl_pc_n e (by omega))
    · have hB2 : ¬ (R = 0 ∨ d.testBit (R - 1) = true) := fun y => hB (hbq.mpr y)
      refine br_t rfl (nm_r (nI_1 z) ?_)
      exact ih n fr b sum (by omega) (by omega) hb (fun y => h0 (by rw [wl_G_n hB2]; exact y)) (fun x y => h1 x (by rw [wl_G_n hB2]; exact y))
theorem wl_ycost {post : Int32 → Prop} {d : Nat} (I : wl_Inv p w s t A L P K S T LK C) (hd : d < 65536) (h0 : wl_G t (wl_pc p w C P K T) LK t 0 4 d = none → post (-1)) (h1 : ∀ x, wl_G t (wl_pc p w C P K T) LK t 0 4 d = some x → post (nI x)) : wpY_costOf post (nI p, nI w, nI s, nI t, b1, b2, b3, wl_ar A, wl_ar L, wl_ar P, wl_ar K, wl_ar S, wl_ar T, wl_ar LK) (nI d) := by
  have h := wl_ycost_l (b1 := b1) (b2 := b2) (b3 := b3) I hd t (t + 1) 0 4 0 (by omega) (by omega) (by omega) h0 (fun x e => by rw [Nat.zero_add]; exact h1 x e)
  rw [show nI (t + 1 - t) = 1 from congrArg nI (show t + 1 - t = 1 by omega)] at h
  exact ⟨t + 1, h⟩
theorem wl_ylook_l {post : SY → Prop} {M : Nat} (I : wl_Inv p w s t A L P K S T LK C) (hM : M ≤ 2048) (H : ∀ b1 b2 b3 : Int32, wl_YL (wl_G t (wl_pc p w C P K T) LK t 0 4) M b1 b2 b3 → post (nI p, nI w, nI s, nI t, b1, b2, b3, wl_ar A, wl_ar L, wl_ar P, wl_ar K, wl_ar S, wl_ar T, wl_ar LK)) :
    ∀ n i (b1 b2 b3 : Int32), i ≤ M → M - i < n → wl_YL (wl_G t (wl_pc p w C P K T) LK t 0 4) i b1 b2 b3 → wY_look_38 post (nI M) (nI p) (nI w) (nI s) (nI t) (wl_ar A) (wl_ar L) (wl_ar P) (wl_ar K) (wl_ar S) (wl_ar T) (wl_ar LK) n (nI i) b1 b2 b3 := by
  have ht : t ≤ 12 := I.1.2.2.2
  have bd : ∀ d x, wl_G t (wl_pc p w C P K T) LK t 0 4 d = some x → x ≤ 3000 := fun d x e => by
    have := wl_G_bd I.2.2.1.1 (fun p' q c k z => (wl_pc_bd I p' q c k z).1) _ _ _ _ _ e
    omega
  intro n
  induction n with
  | zero => intro i _ _ _ _ h; omega
  | succ n ih =>
    intro i b1 b2 b3 hi hn hY
    rw [wY_look_38]
    refine pk_le M i (fun h => ?_) (fun h => ?_)
    · have e : i = M := by omega
      subst e
      exact H _ _ _ hY
    · refine wl_ycost I (by omega) (fun e => ?_) (fun x e => ?_)
      · have g : (-1 : Int32) < 0 := by decide
        exact br_t g (br_t g (nm_r (nI_1 i) (ih (i + 1) _ _ _ (by omega) (by omega) (wl_YL_n hY e))))
      · have bx := bd _ _ e
        have g : ¬ nI x < 0 := nI_pos (by omega)
        refine br_f g ?_
        rcases hY with ⟨rfl, rfl, rfl, h4⟩ | ⟨B, W, Cc, rfl, rfl, rfl, hS⟩
        · exact br_t (show (-1 : Int32) < 0 by decide) (br_f g (br_t rfl (nm_r (show (0 : Int32) + 1 = nI 1 from rfl) (nm_r (nI_1 i) (ih (i + 1) _ _ _ (by omega) (by omega) (wl_YL_first h4 e))))))
        · have bB := bd _ _ hS.1
          refine br_f (nI_pos (by omega)) (pk_le B x (fun q => br_f g ?_) (fun q => ?_))
          · refine pk_eq x B (fun e2 => ?_) (fun e2 => ?_)
            · subst e2
              exact nm_r (nI_1 W) (nm_r (nI_1 i) (ih (i + 1) _ _ _ (by omega) (by omega) (wl_YL_same hS e)))
            · exact nm_r (nI_1 i) (ih (i + 1) _ _ _ (by omega) (by omega) (wl_YL_more hS e (by omega)))
          · exact br_f g (br_t rfl (nm_r (show (0 : Int32) + 1 = nI 1 from rfl) (nm_r (nI_1 i) (ih (i + 1) _ _ _ (by omega) (by omega) (wl_YL_less hS e q)))))
theorem wl_ylook0 {post : SY → Prop} (I : wl_Inv p w s t A L P K S T LK C) (H : ∀ b1 b2 b3 : Int32, wl_YL (wl_G t (wl_pc p w C P K T) LK t 0 4) (wl_hi t 0) b1 b2 b3 → post (nI p, nI w, nI s, nI t, b1, b2, b3, wl_ar A, wl_ar L, wl_ar P, wl_ar K, wl_ar S, wl_ar T, wl_ar LK)) : wpY_look post (nI p, nI w, nI s, nI t, b1, b2, b3, wl_ar A, wl_ar L, wl_ar P, wl_ar K, wl_ar S, wl_ar T, wl_ar LK) := by
  have ht : t ≤ 12 := I.1.2.2.2
  have hM := wl_hi_2048 ht 0
  have h := wl_ylook_l I hM H (wl_hi t 0 + 1) 0 (-1) 0 0 (Nat.zero_le _) (by omega) (wl_YL0 _)
  refine pk_le t 1 (fun g => ⟨wl_hi t 0 + 1, ?_⟩) (fun g => ?_)
  · have e : wl_hi t 0 = 1 := by
      unfold wl_hi
      rw [show t - 1 - 0 = 0 by omega]
    rw [e] at h
    rw [e]
    exact h
  · have e : (1 : Int32) <<< ((nI t - 1) &&& 31) = nI (wl_hi t 0) := by
      rw [show nI t - 1 = nI (t - 1) from pk_sub (b := 1) (by omega)]
      have := pk_shlN (n := 1) (nI (t - 1) &&& 31) (t - 1) (s_l (t - 1) (by omega)) (by unfold wl_hi at hM; rw [show t - 1 - 0 = t - 1 by omega] at hM; omega)
      rw [Nat.one_mul] at this
      exact this
    exact nm_r e ⟨wl_hi t 0 + 1, h⟩
theorem wl_ylook {post : SY → Prop} {B W D : Nat} (I : wl_Inv p w s t A L P K S T LK C) (hS : wl_Sm (wl_G t (wl_pc p w C P K T) LK t 0 4) 0 (wl_hi t 0) B W D)
    (H : post (nI p, nI w, nI s, nI t, nI B, nI W, nI D, wl_ar A, wl_ar L, wl_ar P, wl_ar K, wl_ar S, wl_ar T, wl_ar LK)) : wpY_look post (nI p, nI w, nI s, nI t, b1, b2, b3, wl_ar A, wl_ar L, wl_ar P, wl_ar K, wl_ar S, wl_ar T, wl_ar LK) := by
  refine wl_ylook0 I (fun b1 b2 b3 hY => ?_)
  obtain ⟨e1, e2, e3⟩ := wl_YL_end hY hS
  subst e1 e2 e3
  exact H
end
