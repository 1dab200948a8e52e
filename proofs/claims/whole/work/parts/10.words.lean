/-! learn and forget -/
section
variable {p w s t : Nat} {A L P K S T LK C : Nat → Nat} {q1 q2 q3 q4 : Nat → Int32} {b1 b2 b3 : Int32}
theorem wl_x64 {post : Int32 → SX → Prop} {i m c k : Nat} (hi : i < 16)
    (h : post (nI m) (nI p, nI m, nI (wl_cd S 0), nI 0, nI t, wl_ar (wl_un C i (wl_cd S s)), wl_ar (wl_un P i c), wl_ar (wl_un K i k), wl_ar LK, wl_ar T, q1, q2, q3, q4)) :
    wX_learn_64 post (nI c) (nI k) (nI i) (nI p) (nI m) (nI (wl_cd S s)) (nI s) (nI t) (wl_ar C) (wl_ar P) (wl_ar K) (wl_ar LK) (wl_ar T) q1 q2 q3 q4 := by
  have v : vp_in (nI i) 16 := vp_in_nI hi (by omega)
  have q : ∀ (F : Nat → Nat) (x : Nat), upd (wl_ar F) (nI i).toNatClampNeg (nI x) = wl_ar (wl_un F i x) := fun F x => by rw [nI_clamp (by omega), wl_upd]
  exact ⟨v, nm_r (q _ _) ⟨v, nm_r (q _ _) ⟨v, nm_r (q _ _) h⟩⟩⟩
theorem wl_y113 {post : Int32 → SY → Prop} {i m c k : Nat} (hi : i < 16)
    (h : post (nI m) (nI p, nI m, nI 0, nI t, b1, b2, b3, wl_ar A, wl_ar L, wl_ar (wl_un P i c), wl_ar (wl_un K i k), wl_ar S, wl_ar T, wl_ar LK)) :
    wY_learn_113 post (nI c) (nI k) (nI i) (nI p) (nI m) (nI s) (nI t) b1 b2 b3 (wl_ar A) (wl_ar L) (wl_ar P) (wl_ar K) (wl_ar S) (wl_ar T) (wl_ar LK) := by
  have v : vp_in (nI i) 16 := vp_in_nI hi (by omega)
  have q : ∀ (F : Nat → Nat) (x : Nat), upd (wl_ar F) (nI i).toNatClampNeg (nI x) = wl_ar (wl_un F i x) := fun F x => by rw [nI_clamp (by omega), wl_upd]
  exact ⟨v, nm_r (q _ _) ⟨v, nm_r (q _ _) h⟩⟩
theorem wl_y80 {post : Int32 → SY → Prop} {i m c k : Nat} (hi : i < 16) (hs : s ≤ 5)
    (H : wY_learn_113 post (nI c) (nI k) (nI i) (nI p) (nI m) (nI s) (nI t) b1 b2 b3 (wl_ar (wl_cp A (5 * i) s S)) (wl_ar L) (wl_ar P) (wl_ar K) (wl_ar S) (wl_ar T) (wl_ar LK)) :
    ∀ n j, j ≤ s → s - j < n → wY_learn_80 post (nI c) (nI k) (nI i) (nI p) (nI m) (nI s) (nI t) b1 b2 b3 n (nI j) (wl_ar (wl_cp A (5 * i) j S)) (wl_ar L) (wl_ar P) (wl_ar K) (wl_ar S) (wl_ar T) (wl_ar LK) := by
  intro n
  induction n with
  | zero => intro j _ h; omega
  | succ n ih =>
    intro j hj hn
    rw [wY_learn_80]
    refine pk_le s j (fun h => ?_) (fun h => ?_)
    · have e : j = s := by omega
      subst e
      exact H
    · rw [wl_5 i j, nI_clamp (n := 5 * i + j) (by omega), nI_clamp (n := j) (by omega)]
      refine ⟨vp_in_nI (by omega) (by omega), vp_in_nI (by omega) (by omega), nm_r (e' := wl_ar (wl_cp A (5 * i) (j + 1) S)) ?_ (nm_r (nI_1 j) (ih (j + 1) (by omega) (by omega)))⟩
      rw [← wl_cp_s]
      exact wl_upd _ _ _
theorem wl_y68 {post : Int32 → SY → Prop} {i m : Nat} (hi : i ≤ m) (hm : m < 16)
    (H : post (nI m) (nI p, nI m, nI 0, nI t, b1, b2, b3, wl_ar (wl_cp A (5 * i) 5 (wl_wd A m)), wl_ar L, wl_ar P, wl_ar K, wl_ar S, wl_ar T, wl_ar LK)) :
    ∀ n j, j ≤ 5 → 5 - j < n → wY_forget_68 post (nI i) (nI p) (nI m) (nI s) (nI t) b1 b2 b3 n (nI j) (wl_ar (wl_cp A (5 * i) j (wl_wd A m))) (wl_ar L) (wl_ar P) (wl_ar K) (wl_ar S) (wl_ar T) (wl_ar LK) := by
  intro n
  induction n with
  | zero => intro j _ h; omega
  | succ n ih =>
    intro j hj hn
    rw [wY_forget_68]
    refine pk_le 5 j (fun h => ?_) (fun h => ?_)
    · have e : j = 5 := by omega
      subst e
      exact H
    · rw [wl_5 i j, wl_5 m j, nI_clamp (n := 5 * i + j) (by omega), nI_clamp (n := 5 * m + j) (by omega)]
      refine ⟨vp_in_nI (by omega) (by omega), vp_in_nI (by omega) (by omega), nm_r (e' := wl_ar (wl_cp A (5 * i) (j + 1) (wl_wd A m))) ?_ (nm_r (nI_1 j) (ih (j + 1) (by omega) (by omega)))⟩
      rw [← wl_cp_s]
      have e : wl_ar (wl_cp A (5 * i) j (wl_wd A m)) (5 * m + j) = nI (wl_wd A m j) := congrArg nI (wl_cp_out (by omega))
      rw [e]
      exact wl_upd _ _ _
end
theorem i_vc_learn {k : Nat} {u : SX} {v : SY} (I : i_Rel k u v) (hk : k + 4 ≤ 2049) (v1 : Int32) (v2 : Int32) : wpX_learn (fun r u' => wpY_learn (fun r' v' => r' = r ∧ i_Rel (k + 4) u' v') v v1 v2) u v1 v2 := by
  obtain ⟨p, w, s, t, A, L, P, K, S, T, LK, C, q1, q2, q3, q4, b1, b2, b3, I, rfl, rfl⟩ := I
  have hw : w ≤ 16 := I.1.2.1
  have hs5 : s ≤ 5 := I.1.2.2.1
  unfold wpX_learn wpY_learn
  have J : (-1 : Int32) = -1 ∧ i_Rel (k + 4) (nI p, nI w, nI (wl_cd S s), nI s, nI t, wl_ar C, wl_ar P, wl_ar K, wl_ar LK, wl_ar T, q1, q2, q3, q4) (nI p, nI w, nI s, nI t, b1, b2, b3, wl_ar A, wl_ar L, wl_ar P, wl_ar K, wl_ar S, wl_ar T, wl_ar LK) := ⟨rfl, wl_rel I⟩
  have n1 : ¬ (1 : Int32) = 0 := by decide
  by_cases hs : s = 0
  · have ns : nI s = 0 := by rw [hs]; rfl
    exact br_t ns (br_t ns J)
  have ns : ¬ nI s = 0 := nI_ne0 (by omega) (by omega)
  refine br_f ns ?_
  by_cases c0 : v1 < 0
  · exact br_t c0 (br_t rfl (br_f ns (br_t c0 J)))
  obtain ⟨c, hc, rfl⟩ := nI_of c0
  by_cases c9 : c ≤ 99
  · have c8 : ¬ (99 : Int32) < nI c := nI_nlt (b := c) (a := 99) c9 (by decide)
    refine br_f c0 (br_f c8 (br_f n1 ?_))
    by_cases k0 : v2 < 0
    · exact br_t k0 (br_f ns (br_f c0 (br_f c8 (br_t k0 J))))
    obtain ⟨kk, hkk, rfl⟩ := nI_of k0
    by_cases k3 : kk < 3
    · have k3' : nI kk < 3 := nI_lt (b := 3) k3 (by decide)
      have k2' : nI kk ≤ 2 := nI_le (b := 2) (by omega) (by decide)
      refine br_f k0 (br_t k3' (wl_xfind I (wl_S_lt I) ?_))
      cases e : wl_fd (fun i => decide (C i = wl_cd S s)) w with
      | none =>
        have g : ¬ (0 : Int32) ≤ wl_ri none := by decide
        refine br_f g (pk_lt w 16 (fun gw => nm_r (nI_1 w) (wl_x64 gw ?_)) (fun gw => ?_))
        · refine br_f ns (br_f c0 (br_f c8 (br_f k0 (br_t k2' (wl_ynamed I ?_)))))
          rw [e]
          refine br_f g (pk_eq w 16 (fun z => absurd z (by omega)) (fun _ => br_f g (nm_r (nI_1 w) ⟨vp_in_nI gw (by omega), nm_r (e' := wl_ar (wl_un L w s)) ?_ ⟨s + 1, ?_⟩⟩)))
          · rw [nI_clamp (by omega), wl_upd]
          · have h := wl_y80 (p := p) (t := t) (A := A) (L := wl_un L w s) (P := P) (K := K) (S := S) (T := T) (LK := LK) (b1 := b1) (b2 := b2) (b3 := b3) (post := fun r' v' => r' = nI (w + 1) ∧ i_Rel (k + 4) (nI p, nI (w + 1), nI (wl_cd S 0), nI 0, nI t, wl_ar (wl_un C w (wl_cd S s)), wl_ar (wl_un P w c), wl_ar (wl_un K w kk), wl_ar LK, wl_ar T, q1, q2, q3, q4) v') (i := w) (m := w + 1) (c := c) (k := kk) gw hs5
              (wl_y113 gw ⟨rfl, wl_rel (wl_Inv_new I gw (by omega) c9 k3)⟩) (s + 1) 0 (Nat.zero_le _) (by omega)
            rw [wl_cp_0] at h
            exact h
        · refine br_f ns (br_f c0 (br_f c8 (br_f k0 (br_t k2' (wl_ynamed I ?_)))))
          rw [e]
          exact br_f g (pk_eq w 16 (fun _ => J) (fun z => absurd (by omega) z))
      | some i =>
        obtain ⟨hi, hd, _⟩ := wl_fd_some w i e
        have g : (0 : Int32) ≤ wl_ri (some i) := nI_pos' (by omega)
        refine br_t g (wl_x64 (i := i) (by omega) ?_)
        refine br_f ns (br_f c0 (br_f c8 (br_f k0 (br_t k2' (wl_ynamed I ?_)))))
        rw [e]
        exact br_t g (br_t g (wl_y113 (i := i) (by omega) ⟨rfl, wl_rel (wl_Inv_old I hi (of_decide_eq_true hd) c9 k3)⟩))
    · have k3' : ¬ nI kk < 3 := nI_nlt (b := 3) (by omega) hkk
      have k2' : ¬ nI kk ≤ 2 := nI_ge (a := 2) (by omega) hkk
      exact br_f k0 (br_f k3' (br_f ns (br_f c0 (br_f c8 (br_f k0 (br_f k2' J))))))
  · have c8 : (99 : Int32) < nI c := nI_lt (a := 99) (by omega) hc
    exact br_f c0 (br_t c8 (br_t rfl (br_f ns (br_f c0 (br_t c8 J)))))
theorem i_vc_forget {k : Nat} {u : SX} {v : SY} (I : i_Rel k u v) (hk : k + 4 ≤ 2049) : wpX_forget (fun r u' => wpY_forget (fun r' v' => r' = r ∧ i_Rel (k + 4) u' v') v) u := by
  obtain ⟨p, w, s, t, A, L, P, K, S, T, LK, C, q1, q2, q3, q4, b1, b2, b3, I, rfl, rfl⟩ := I
  have hw : w ≤ 16 := I.1.2.1
  unfold wpX_forget wpY_forget
  refine wl_xfind I (wl_S_lt I) ?_
  cases e : wl_fd (fun i => decide (C i = wl_cd S s)) w with
  | none =>
    have g : ¬ (0 : Int32) ≤ wl_ri none := by decide
    refine br_f g (wl_ynamed I ?_)
    rw [e]
    exact br_f g ⟨rfl, wl_rel I⟩
  | some i =>
    obtain ⟨hi, _, _⟩ := wl_fd_some w i e
    obtain ⟨m, rfl⟩ : ∃ m, w = m + 1 := ⟨w - 1, by omega⟩
    have g : (0 : Int32) ≤ wl_ri (some i) := nI_pos' (by omega)
    have vi : vp_in (wl_ri (some i)) 16 := vp_in_nI (by omega) (by omega)
    have vm : vp_in (nI m) 16 := vp_in_nI (by omega) (by omega)
    have q : ∀ F : Nat → Nat, upd (wl_ar F) (wl_ri (some i)).toNatClampNeg (wl_ar F (nI m).toNatClampNeg) = wl_ar (wl_un F i (F m)) := fun F => by
      rw [nI_clamp (n := m) (by omega), show (wl_ri (some i)).toNatClampNeg = i from nI_clamp (by omega)]
      exact wl_upd F i (F m)
    refine br_t g (nm_r (nI_pred m) ⟨vm, vi, nm_r (q C) ⟨vm, vi, nm_r (q P) ⟨vm, vi, nm_r (q K) ?_⟩⟩⟩)
    refine wl_ynamed I ?_
    rw [e]
    refine br_t g (nm_r (nI_pred m) ⟨vm, vi, nm_r (q L) ⟨vm, vi, nm_r (q P) ⟨vm, vi, nm_r (q K) ⟨6, ?_⟩⟩⟩⟩)
    have h := wl_y68 (p := p) (s := s) (t := t) (A := A) (L := wl_un L i (L m)) (P := wl_un P i (P m)) (K := wl_un K i (K m)) (S := S) (T := T) (LK := LK) (b1 := b1) (b2 := b2) (b3 := b3) (post := fun r' v' => r' = nI m ∧ i_Rel (k + 4) (nI p, nI m, nI (wl_cd S 0), nI 0, nI t, wl_ar (wl_un C i (C m)), wl_ar (wl_un P i (P m)), wl_ar (wl_un K i (K m)), wl_ar LK, wl_ar T, q1, q2, q3, q4) v') (i := i) (m := m) (by omega) (by omega)
      ⟨rfl, wl_rel (wl_Inv_forget I hi)⟩ 6 0 (by omega) (by omega)
    rw [wl_cp_0] at h
    exact h
