/-! X's cutting of the text -/
def wl_Off (a e c k b : Nat) (lk R1 R2 R3 R4 R1' R2' R3' R4' : Nat → Nat) : Prop :=
  (∀ j, (j < 5 * a ∨ 5 * a + b ≤ j) → R1' j = R1 j ∧ R2' j = R2 j ∧ R3' j = R3 j ∧ R4' j = R4 j) ∧
  (∀ b', b' < b → wl_Of a e c k b' lk R1 R2 R3 R4 R1' R2' R3' R4')
theorem wl_Off_0 (a e c k : Nat) (lk R1 R2 R3 R4 : Nat → Nat) : wl_Off a e c k 0 lk R1 R2 R3 R4 R1 R2 R3 R4 :=
  ⟨fun _ _ => ⟨rfl, rfl, rfl, rfl⟩, fun b' h => absurd h (Nat.not_lt_zero b')⟩
theorem wl_Off_keep {a e c k b : Nat} {lk R1 R2 R3 R4 R1' R2' R3' R4' : Nat → Nat} (h : wl_Off a e c k b lk R1 R2 R3 R4 R1' R2' R3' R4') (g : R1 (5 * a + b) < lk (4 * b + k) + c + R1 (5 * e + k)) : wl_Off a e c k (b + 1) lk R1 R2 R3 R4 R1' R2' R3' R4' := by
  refine ⟨fun j hj => h.1 j (by omega), lt_s h.2 ⟨fun _ => h.1 _ (by omega), fun z => absurd g z⟩⟩
theorem wl_Off_put {a e c k b z : Nat} {lk R1 R2 R3 R4 R1' R2' R3' R4' : Nat → Nat} (h : wl_Off a e c k b lk R1 R2 R3 R4 R1' R2' R3' R4') (g : ¬ R1 (5 * a + b) < lk (4 * b + k) + c + R1 (5 * e + k))
    (hz : z = if lk (4 * b + k) + c + R1 (5 * e + k) < R1 (5 * a + b) then R2 (5 * e + k) else R2 (5 * a + b) + R2 (5 * e + k)) :
    wl_Off a e c k (b + 1) lk R1 R2 R3 R4 (wl_un R1' (5 * a + b) (lk (4 * b + k) + c + R1 (5 * e + k))) (wl_un R2' (5 * a + b) z) (wl_un R3' (5 * a + b) e) (wl_un R4' (5 * a + b) k) := by
  refine ⟨fun j hj => ?_, lt_s (fun b' hb' => ?_) ⟨fun z => absurd z g, fun _ => ?_⟩⟩
  · rw [wl_uo (by omega), wl_uo (by omega), wl_uo (by omega), wl_uo (by omega)]
    exact h.1 j (by omega)
  · have h2 := h.2 b' hb'
    unfold wl_Of at h2 ⊢
    rw [wl_uo (by omega), wl_uo (by omega), wl_uo (by omega), wl_uo (by omega)]
    exact h2
  · rw [wl_us, wl_us, wl_us, wl_us]
    exact ⟨rfl, rfl, rfl, hz⟩
section
variable {p w s t : Nat} {A L P K S T LK C : Nat → Nat} {q1 q2 q3 q4 : Nat → Int32} {b1 b2 b3 : Int32}
variable {R1 R2 R3 R4 R1' R2' R3' R4' : Nat → Nat}
theorem wl_x107 {post : SX → Prop} {J : Int32 → (Nat → Int32) → (Nat → Int32) → (Nat → Int32) → (Nat → Int32) → (Nat → Int32) → (Nat → Int32) → (Nat → Int32) → (Nat → Int32) → (Nat → Int32) → Prop} {x1 x3 x5 : Int32} {e k b j y z : Nat} (hj : j < 65)
    (h : J (nI (b + 1)) (wl_ar C) (wl_ar P) (wl_ar K) (wl_ar LK) (wl_ar T) (wl_ar (wl_un R1' j y)) (wl_ar (wl_un R2' j z)) (wl_ar (wl_un R3' j e)) (wl_ar (wl_un R4' j k))) :
    wX_offerPiece_107 post J x1 (nI e) x3 (nI k) x5 (nI b) (nI j) (nI y) (nI z) (nI j) (nI p) (nI w) (nI (wl_cd S s)) (nI s) (nI t) (wl_ar C) (wl_ar P) (wl_ar K) (wl_ar LK) (wl_ar T) (wl_ar R1') (wl_ar R2') (wl_ar R3') (wl_ar R4') := by
  have v : vp_in (nI j) 65 := vp_in_nI hj (by omega)
  have q : ∀ (F : Nat → Nat) (x : Nat), upd (wl_ar F) (nI j).toNatClampNeg (nI x) = wl_ar (wl_un F j x) := fun F x => by rw [nI_clamp (by omega), wl_upd]
  exact ⟨v, nm_r (q _ _) ⟨v, nm_r (q _ _) ⟨v, nm_r (q _ _) ⟨v, nm_r (q _ _) (nm_r (nI_1 b) h)⟩⟩⟩⟩
theorem wl_xoff_l {post : SX → Prop} {a e c k : Nat} (ha : a < e) (he : e ≤ 12) (hc : c ≤ 99) (hk : k < 4) (hlk : ∀ j, LK j ≤ 99) (hE : R1 (5 * e + k) ≤ 3000) (hA : ∀ b, b < 5 → R1 (5 * a + b) ≤ 3000)
    (H : ∀ R1' R2' R3' R4' : Nat → Nat, wl_Off a e c k 5 LK R1 R2 R3 R4 R1' R2' R3' R4' → post (nI p, nI w, nI (wl_cd S s), nI s, nI t, wl_ar C, wl_ar P, wl_ar K, wl_ar LK, wl_ar T, wl_ar R1', wl_ar R2', wl_ar R3', wl_ar R4')) :
    ∀ n b R1' R2' R3' R4', b ≤ 5 → 5 - b < n → wl_Off a e c k b LK R1 R2 R3 R4 R1' R2' R3' R4' → wX_offerPiece_11 post (nI a) (nI e) (nI c) (nI k) (nI (5 * e + k)) (nI p) (nI w) (nI (wl_cd S s)) (nI s) (nI t) n (nI b) (wl_ar C) (wl_ar P) (wl_ar K) (wl_ar LK) (wl_ar T) (wl_ar R1') (wl_ar R2') (wl_ar R3') (wl_ar R4') := by
  intro n
  induction n with
  | zero => intro b _ _ _ _ _ h; omega
  | succ n ih =>
    intro b R1' R2' R3' R4' hb hn hO
    rw [wX_offerPiece_11]
    refine pk_le 5 b (fun h => ?_) (fun h => nm_r (wl_5r a b) ?_)
    · have e5 : b = 5 := by omega
      subst e5
      exact H _ _ _ _ hO
    · have v1 : vp_in (nI (5 * e + k)) 65 := vp_in_nI (by omega) (by omega)
      have v2 : vp_in (nI (5 * a + b)) 65 := vp_in_nI (by omega) (by omega)
      have l1 := hlk (4 * b + k)
      have l2 := hA b h
      obtain ⟨e1, e2, _, _⟩ := hO.1 (5 * e + k) (by omega)
      obtain ⟨f1, f2, _, _⟩ := hO.1 (5 * a + b) (by omega)
      rw [wl_4r, nI_clamp (n := 4 * b + k) (by omega), nI_clamp (n := 5 * e + k) (by omega)]
      refine ⟨vp_in_nI (by omega) (by omega), v1, nm_r (e' := nI (LK (4 * b + k) + c + R1 (5 * e + k))) ?_ ⟨v2, ?_⟩⟩
      · show nI (LK (4 * b + k)) + nI c + nI (R1' (5 * e + k)) = _
        rw [e1, nI_add, nI_add]
      · rw [nI_clamp (n := 5 * a + b) (by omega)]
        refine pk_le (LK (4 * b + k) + c + R1 (5 * e + k)) (R1 (5 * a + b)) (fun g => ⟨v2, ?_⟩) (fun g => nm_r (nI_1 b) (ih (b + 1) _ _ _ _ (by omega) (by omega) (wl_Off_keep hO g))) rfl (congrArg nI f1)
        refine pk_le (R1 (5 * a + b)) (LK (4 * b + k) + c + R1 (5 * e + k)) (fun g2 => ⟨v2, v1, ?_⟩) (fun g2 => ⟨v1, ?_⟩) (congrArg nI f1) rfl
        · have ez : wl_ar R2' (5 * a + b) + wl_ar R2' (5 * e + k) = nI (R2 (5 * a + b) + R2 (5 * e + k)) := by
            show nI (R2' (5 * a + b)) + nI (R2' (5 * e + k)) = _
            rw [e2, f2, nI_add]
          rw [ez]
          exact wl_x107 (by omega) (ih (b + 1) _ _ _ _ (by omega) (by omega) (wl_Off_put hO (by omega) (by rw [if_neg (by omega)])))
        · have ez : wl_ar R2' (5 * e + k) = nI (R2 (5 * e + k)) := congrArg nI e2
          rw [ez]
          exact wl_x107 (by omega) (ih (b + 1) _ _ _ _ (by omega) (by omega) (wl_Off_put hO (by omega) (by rw [if_pos (by omega)])))
theorem wl_xoff {post : SX → Prop} {a e c k : Nat} (ha : a < e) (he : e ≤ 12) (hc : c ≤ 99) (hk : k < 4) (hlk : ∀ j, LK j ≤ 99) (hE : R1 (5 * e + k) ≤ 3000) (hA : ∀ b, b < 5 → R1 (5 * a + b) ≤ 3000)
    (H : ∀ R1' R2' R3' R4' : Nat → Nat, wl_Off a e c k 5 LK R1 R2 R3 R4 R1' R2' R3' R4' → post (nI p, nI w, nI (wl_cd S s), nI s, nI t, wl_ar C, wl_ar P, wl_ar K, wl_ar LK, wl_ar T, wl_ar R1', wl_ar R2', wl_ar R3', wl_ar R4')) : wpX_offerPiece post (nI p, nI w, nI (wl_cd S s), nI s, nI t, wl_ar C, wl_ar P, wl_ar K, wl_ar LK, wl_ar T, wl_ar R1, wl_ar R2, wl_ar R3, wl_ar R4) (nI a) (nI e) (nI c) (nI k) :=
  nm_r (wl_5r e k) ⟨6, wl_xoff_l ha he hc hk hlk hE hA H 6 0 R1 R2 R3 R4 (by omega) (by omega) (wl_Off_0 ..)⟩
/-! one place -/
theorem wl_Dn_bd {n a b : Nat} {pc : Nat → Nat → Option (Nat × Nat)} (hn : n ≤ 12) (hlk : ∀ j, LK j ≤ 99) (hpc : ∀ p q c k, pc p q = some (c, k) → c ≤ 99 ∧ k < 4) (h : wl_Dn n pc LK a b R1 R2 R3 R4) : R1 (5 * a + b) ≤ 3000 := by
  obtain ⟨C, h1, _⟩ := h
  have := wl_G_bd hlk (fun p q c k z => (hpc p q c k z).1) _ _ _ _ _ h1.1
  omega
theorem wl_St_bd {n a q b : Nat} {pc : Nat → Nat → Option (Nat × Nat)} (hn : n ≤ 12) (hlk : ∀ j, LK j ≤ 99) (hpc : ∀ p q c k, pc p q = some (c, k) → c ≤ 99 ∧ k < 4) (haq : a ≤ q) (h : wl_St n pc LK a q b R1 R2 R3 R4) : R1 (5 * a + b) ≤ 3000 := by
  by_cases e : q = a
  · rw [h.1 e]; omega
  · obtain ⟨m, C, c', _, h1, _⟩ := h.2 (by omega)
    have := wl_G_bd hlk (fun p q c k z => (hpc p q c k z).1) _ _ _ _ _ h1.1
    omega
def wl_CF (n : Nat) (pc : Nat → Nat → Option (Nat × Nat)) (lk : Nat → Nat) (a q : Nat) (R1 R2 R3 R4 : Nat → Nat) : Prop :=
  (∀ b, b < 5 → wl_St n pc lk a q b R1 R2 R3 R4) ∧ (∀ p' b', a < p' → p' ≤ n → b' < 5 → wl_Dn n pc lk p' b' R1 R2 R3 R4)
theorem wl_CF_off {n a q c k : Nat} {pc : Nat → Nat → Option (Nat × Nat)} (hn : n ≤ 12) (hlk : ∀ j, LK j ≤ 99) (hpc : ∀ p q c k, pc p q = some (c, k) → c ≤ 99 ∧ k < 4)
    (haq : a ≤ q) (hq : q + 1 ≤ n) (e : pc a (q + 1) = some (c, k)) (h : wl_CF n pc LK a q R1 R2 R3 R4) (hO : wl_Off a (q + 1) c k 5 LK R1 R2 R3 R4 R1' R2' R3' R4') : wl_CF n pc LK a (q + 1) R1' R2' R3' R4' :=
  ⟨fun b hb => wl_St_offer hn hlk hpc haq hq e hb (h.1 b hb) h.2 (fun j hj => (hO.1 j (Or.inr hj)).1) (fun j hj => (hO.1 j (Or.inr hj)).2.1) (hO.2 b hb),
   fun p' b' h1 h2 h3 => wl_Dn_ab (h.2 p' b' h1 h2 h3) h1 (fun j hj => (hO.1 j (Or.inr hj)).1) (fun j hj => (hO.1 j (Or.inr hj)).2.1) (fun j hj => (hO.1 j (Or.inr hj)).2.2.1) (fun j hj => (hO.1 j (Or.inr hj)).2.2.2)⟩
theorem wl_CF_end {n a q : Nat} {pc : Nat → Nat → Option (Nat × Nat)} (haq : a < q) (hq : q ≤ n) (he : q = n ∨ ∀ q', q < q' → pc a q' = none) (h : wl_CF n pc LK a q R1 R2 R3 R4) : ∀ p' b', a ≤ p' → p' ≤ n → b' < 5 → wl_Dn n pc LK p' b' R1 R2 R3 R4 := by
  intro p' b' h1 h2 h3
  by_cases z : p' = a
  · subst z
    exact wl_St_end haq hq he (h.1 b' h3)
  · exact h.2 p' b' (by omega) h2 h3
theorem wl_xcf30 {post : SX → Prop} {a : Nat} (I : wl_Inv p w s t A L P K S T LK C) (ha : a < t)
    (H : ∀ R1 R2 R3 R4 : Nat → Nat, (∀ p' b', a ≤ p' → p' ≤ t → b' < 5 → wl_Dn t (wl_pc p w C P K T) LK p' b' R1 R2 R3 R4) → post (nI p, nI w, nI (wl_cd S s), nI s, nI t, wl_ar C, wl_ar P, wl_ar K, wl_ar LK, wl_ar T, wl_ar R1, wl_ar R2, wl_ar R3, wl_ar R4)) :
    ∀ n l R1 R2 R3 R4, l ≤ 5 → 5 - l < n → a + l ≤ t → wl_CF t (wl_pc p w C P K T) LK a (a + l) R1 R2 R3 R4 → wX_cutFrom_30 post (nI a) n (nI (wl_cd (wl_tx T a) l)) (nI (l + 1)) (nI p) (nI w) (nI (wl_cd S s)) (nI s) (nI t) (wl_ar C) (wl_ar P) (wl_ar K) (wl_ar LK) (wl_ar T) (wl_ar R1) (wl_ar R2) (wl_ar R3) (wl_ar R4) := by
  have ht : t ≤ 12 := I.1.2.2.2
  have hpc := wl_pc_bd I
  have hT : ∀ j, wl_tx T a j < 4 := fun j => I.2.1.2.2 _
  have hlk := I.2.2.1.1
  have hp := I.1.1
  intro n
  induction n with
  | zero => intro l _ _ _ _ _ h; omega
  | succ n ih =>
    intro l R1 R2 R3 R4 hl hn hal hC
    rw [wX_cutFrom_30]
    refine pk_lt 5 (l + 1) (fun h => H _ _ _ _ (wl_CF_end (by omega) hal (Or.inr (fun q' hq' => wl_pc_far I (by omega))) hC)) (fun h => ?_)
    rw [nI_add]
    refine pk_lt t (a + (l + 1)) (fun h2 => H _ _ _ _ (wl_CF_end (by omega) hal (Or.inl (by omega)) hC)) (fun h2 => nm_e ?_)
    rw [show nI (a + (l + 1)) - 1 = nI (a + l) from nI_pred (a + l), nI_clamp (n := a + l) (by omega)]
    refine ⟨vp_in_nI (by omega) (by omega), ?_⟩
    unfold wpX_withLetter
    have hcd : wl_cd (wl_tx T a) l < 2048 := wl_cd_2048 hl (fun j _ => hT j)
    have er : (nI (wl_cd (wl_tx T a) l) <<< ((2 : Int32) &&& 31)) ||| (wl_ar T (a + l)) = nI (wl_cd (wl_tx T a) (l + 1)) := wl_or4 (hT l) (by have hTl : T (a + l) < 4 := I.2.1.2.2 _; omega)
    rw [er]
    refine wl_xfind I (wl_cd_2048 (by omega) (fun j _ => hT j)) ?_
    have eix : wl_ix w C T a (a + l + 1) = wl_fd (fun i => decide (C i = wl_cd (wl_tx T a) (l + 1))) w := by
      unfold wl_ix
      rw [show a + l + 1 - a = l + 1 by omega]
    rw [← eix]
    cases e : wl_ix w C T a (a + l + 1) with
    | none =>
      refine br_t (show (-1 : Int32) < 0 by decide) ?_
      refine pk_eq (l + 1) 1 (fun z => ?_) (fun z => nm_r (nI_1 (l + 1)) (ih (l + 1) _ _ _ _ (by omega) (by omega) (by omega) ⟨fun b hb => wl_St_no (q := a + l) (wl_pc_1 a) (by omega) (by omega) (wl_pc_n e (by omega)) (hC.1 b hb), hC.2⟩))
      have e3 := wl_pc_u (p := p) (P := P) (K := K) e (by omega)
      refine wl_xoff (a := a) (e := a + l + 1) (c := p) (k := 3) (by omega) (by omega) hp (by omega) hlk (wl_Dn_bd ht hlk hpc (hC.2 _ _ (by omega) (by omega) (by omega))) (fun b hb => wl_St_bd ht hlk hpc (by omega) (hC.1 b hb)) (fun R1' R2' R3' R4' hO => nm_r (nI_1 (l + 1)) (ih (l + 1) _ _ _ _ (by omega) (by omega) (by omega) ?_))
      exact wl_CF_off (q := a + l) ht hlk hpc (by omega) (by omega) e3 hC hO
    | some i =>
      obtain ⟨hi, _, _⟩ := wl_fd_some w i e
      have hw : w ≤ 16 := I.1.2.1
      have v : vp_in (nI i) 16 := vp_in_nI (by omega) (by omega)
      have e3 := wl_pc_w (p := p) (P := P) (K := K) e
      have h3 := hpc _ _ _ _ e3
      refine br_f (nI_pos (by omega)) ⟨v, v, ?_⟩
      rw [show (wl_ri (some i)).toNatClampNeg = i from nI_clamp (by omega)]
      refine wl_xoff (a := a) (e := a + l + 1) (c := P i) (k := K i) (by omega) (by omega) h3.1 h3.2 hlk (wl_Dn_bd ht hlk hpc (hC.2 _ _ (by omega) (by omega) (by omega))) (fun b hb => wl_St_bd ht hlk hpc (by omega) (hC.1 b hb)) (fun R1' R2' R3' R4' hO => nm_r (nI_1 (l + 1)) (ih (l + 1) _ _ _ _ (by omega) (by omega) (by omega) ?_))
      exact wl_CF_off (q := a + l) ht hlk hpc (by omega) (by omega) e3 hC hO
theorem wl_xcf2 {post : SX → Prop} {a : Nat} (I : wl_Inv p w s t A L P K S T LK C) (ha : a < t)
    (H : ∀ R1 R2 R3 R4 : Nat → Nat, (∀ p' b', a ≤ p' → p' ≤ t → b' < 5 → wl_Dn t (wl_pc p w C P K T) LK p' b' R1 R2 R3 R4) → post (nI p, nI w, nI (wl_cd S s), nI s, nI t, wl_ar C, wl_ar P, wl_ar K, wl_ar LK, wl_ar T, wl_ar R1, wl_ar R2, wl_ar R3, wl_ar R4)) :
    ∀ n b R1, b ≤ 5 → 5 - b < n → (∀ b', b' < b → R1 (5 * a + b') = 3000) → (∀ p' b', a < p' → p' ≤ t → b' < 5 → wl_Dn t (wl_pc p w C P K T) LK p' b' R1 R2 R3 R4) → wX_cutFrom_2 post (nI a) (nI p) (nI w) (nI (wl_cd S s)) (nI s) (nI t) n (nI b) (wl_ar C) (wl_ar P) (wl_ar K) (wl_ar LK) (wl_ar T) (wl_ar R1) (wl_ar R2) (wl_ar R3) (wl_ar R4) := by
  have ht : t ≤ 12 := I.1.2.2.2
  intro n
  induction n with
  | zero => intro b _ _ h; omega
  | succ n ih =>
    intro b R1 hb hn h1 h2
    rw [wX_cutFrom_2]
    refine pk_le 5 b (fun h => ⟨6, ?_⟩) (fun h => ?_)
    · exact wl_xcf30 I ha H 6 0 R1 R2 R3 R4 (by omega) (by omega) (by omega) ⟨fun b' hb' => ⟨fun _ => h1 b' (by omega), fun z => absurd z (by omega)⟩, h2⟩
    · rw [wl_5r, nI_clamp (by omega)]
      refine ⟨vp_in_nI (by omega) (by omega), nm_r (wl_upd R1 (5 * a + b) 3000) (nm_r (nI_1 b) (ih (b + 1) _ (by omega) (by omega) (lt_s (fun b' hb' => ?_) wl_us) (fun p' b' z1 z2 z3 => ?_)))⟩
      · rw [wl_uo (by omega)]
        exact h1 b' hb'
      · exact wl_Dn_ab (h2 p' b' z1 z2 z3) z1 (fun j hj => wl_uo (by omega)) (fun _ _ => rfl) (fun _ _ => rfl) (fun _ _ => rfl)
/-! the whole text -/
def wl_pr : Nat → Int32
  | 0 => -1
  | a + 1 => nI a
theorem wl_pr_s (a : Nat) : nI a + (-1) = wl_pr a := by
  cases a with
  | zero => rfl
  | succ a => exact pk_m1 a
theorem wl_pr_t (a : Nat) : nI a - 1 = wl_pr a := by
  cases a with
  | zero => rfl
  | succ a => exact nI_pred a
theorem wl_xct43 {post : SX → Prop} (I : wl_Inv p w s t A L P K S T LK C) (H : ∀ R1 R2 R3 R4 : Nat → Nat, wl_Tab t (wl_pc p w C P K T) LK R1 R2 R3 R4 → post (nI p, nI w, nI (wl_cd S s), nI s, nI t, wl_ar C, wl_ar P, wl_ar K, wl_ar LK, wl_ar T, wl_ar R1, wl_ar R2, wl_ar R3, wl_ar R4)) :
    ∀ a R1 R2 R3 R4, a ≤ t → (∀ p' b', a ≤ p' → p' ≤ t → b' < 5 → wl_Dn t (wl_pc p w C P K T) LK p' b' R1 R2 R3 R4) → wX_cutText_43 post (a + 1) (wl_pr a) (nI p) (nI w) (nI (wl_cd S s)) (nI s) (nI t) (wl_ar C) (wl_ar P) (wl_ar K) (wl_ar LK) (wl_ar T) (wl_ar R1) (wl_ar R2) (wl_ar R3) (wl_ar R4) := by
  have ht : t ≤ 12 := I.1.2.2.2
  intro a
  induction a with
  | zero =>
    intro R1 R2 R3 R4 _ h
    rw [wX_cutText_43]
    exact br_t (show (-1 : Int32) < 0 by decide) (H _ _ _ _ (fun p' b' z1 z2 => h p' b' (Nat.zero_le _) z1 z2))
  | succ a ih =>
    intro R1 R2 R3 R4 ha h
    rw [wX_cutText_43]
    refine br_f (nI_pos (by omega)) ?_
    exact ⟨6, wl_xcf2 I (by omega) (fun R1 R2 R3 R4 h2 => nm_r (wl_pr_s a) (ih R1 R2 R3 R4 (by omega) h2)) 6 0 R1 (by omega) (by omega) (fun b' hb' => absurd hb' (Nat.not_lt_zero b')) (fun p' b' z1 z2 z3 => h p' b' z1 z2 z3)⟩
theorem wl_xct2 {post : SX → Prop} (I : wl_Inv p w s t A L P K S T LK C) (H : ∀ R1 R2 R3 R4 : Nat → Nat, wl_Tab t (wl_pc p w C P K T) LK R1 R2 R3 R4 → post (nI p, nI w, nI (wl_cd S s), nI s, nI t, wl_ar C, wl_ar P, wl_ar K, wl_ar LK, wl_ar T, wl_ar R1, wl_ar R2, wl_ar R3, wl_ar R4)) :
    ∀ n b R1 R2, b ≤ 5 → 5 - b < n → (∀ b', b' < b → R1 (5 * t + b') = 0 ∧ R2 (5 * t + b') = 1) → wX_cutText_2 post (nI p) (nI w) (nI (wl_cd S s)) (nI s) (nI t) n (nI b) (wl_ar C) (wl_ar P) (wl_ar K) (wl_ar LK) (wl_ar T) (wl_ar R1) (wl_ar R2) (wl_ar R3) (wl_ar R4) := by
  have ht : t ≤ 12 := I.1.2.2.2
  intro n
  induction n with
  | zero => intro b _ _ _ h; omega
  | succ n ih =>
    intro b R1 R2 hb hn h1
    rw [wX_cutText_2]
    refine pk_le 5 b (fun h => nm_r (wl_pr_t t) ⟨t + 1, ?_⟩) (fun h => nm_r (wl_5r t b) ?_)
    · refine wl_xct43 I H t R1 R2 R3 R4 (Nat.le_refl _) (fun p' b' z1 z2 z3 => ?_)
      have e : p' = t := by omega
      subst e
      exact wl_Dn_n b' (h1 b' (by omega)).1 (h1 b' (by omega)).2
    · have v : vp_in (nI (5 * t + b)) 65 := vp_in_nI (by omega) (by omega)
      rw [nI_clamp (n := 5 * t + b) (by omega)]
      refine ⟨v, nm_r (wl_upd R1 (5 * t + b) 0) ⟨v, nm_r (wl_upd R2 (5 * t + b) 1) (nm_r (nI_1 b) (ih (b + 1) _ _ (by omega) (by omega) (lt_s (fun b' hb' => ?_) ⟨wl_us, wl_us⟩)))⟩⟩
      rw [wl_uo (by omega), wl_uo (by omega)]
      exact h1 b' hb'
theorem wl_xcut {post : SX → Prop} (I : wl_Inv p w s t A L P K S T LK C) (H : ∀ R1 R2 R3 R4 : Nat → Nat, wl_Tab t (wl_pc p w C P K T) LK R1 R2 R3 R4 → post (nI p, nI w, nI (wl_cd S s), nI s, nI t, wl_ar C, wl_ar P, wl_ar K, wl_ar LK, wl_ar T, wl_ar R1, wl_ar R2, wl_ar R3, wl_ar R4)) : wpX_cutText post (nI p, nI w, nI (wl_cd S s), nI s, nI t, wl_ar C, wl_ar P, wl_ar K, wl_ar LK, wl_ar T, q1, q2, q3, q4) := by
  obtain ⟨R1, rfl⟩ := wl_arOf q1
  obtain ⟨R2, rfl⟩ := wl_arOf q2
  obtain ⟨R3, rfl⟩ := wl_arOf q3
  obtain ⟨R4, rfl⟩ := wl_arOf q4
  exact ⟨6, wl_xct2 I H 6 0 R1 R2 (by omega) (by omega) (fun b' hb' => absurd hb' (Nat.not_lt_zero b'))⟩
end
