section
variable {vc fn ct : Int32} {vk va vb vcc vd vn vi vm l dd yk ya yb yc yd yp yq yr yw sz it mk : Nat → Int32} {S : Nat → List Int32}
theorem kn_ge10 {v : Int32} (h : nI 10 ≤ v) : ¬ v < 0 ∧ (10 : Int32) ≤ v ∧ 9 < v := by
  have h1 := Int32.le_iff_toInt_le.mp h
  rw [nI_toInt (by omega)] at h1
  refine ⟨fun z => ?_, h, ?_⟩
  · have h2 := Int32.lt_iff_toInt_lt.mp z
    rw [show (0 : Int32).toInt = 0 from by decide] at h2
    omega
  · rw [Int32.lt_iff_toInt_lt, show (9 : Int32).toInt = 9 from by decide]
    omega
theorem kn_chX0 {post : Int32 → Prop} {v : Int32} (h : v < 0 ∨ nI 10 ≤ v) (p : post 0) : wpX_isChannel post (vc, vk, va, vb, vcc, vd, vn, vi, vm, l, dd) v := by
  rcases h with h | h
  · exact br_t h p
  · have g := kn_ge10 h
    exact br_f g.1 (br_t g.2.1 p)
theorem kn_chX1 {post : Int32 → Prop} {c : Nat} (h : c < 10) (p : post 1) : wpX_isChannel post (vc, vk, va, vb, vcc, vd, vn, vi, vm, l, dd) (nI c) :=
  br_f (nI_pos (by omega)) (br_f (nI_ge (b := 10) h (by decide)) p)
theorem kn_chY0 {post : Int32 → Prop} {v : Int32} (h : v < 0 ∨ nI 10 ≤ v) (p : post 0) : wpY_isChannel post (fn, ct, yk, ya, yb, yc, yd, yp, yq, yr, yw, sz, it, mk) v := by
  rcases h with h | h
  · exact br_t h p
  · have g := kn_ge10 h
    exact br_f g.1 (br_t g.2.2 p)
theorem kn_chY1 {post : Int32 → Prop} {c : Nat} (h : c < 10) (p : post 1) : wpY_isChannel post (fn, ct, yk, ya, yb, yc, yd, yp, yq, yr, yw, sz, it, mk) (nI c) :=
  br_f (nI_pos (by omega)) (br_f (nI_nlt (a := 9) (by omega) (by omega)) p)
theorem kn_ch (v : Int32) : (v < 0 ∨ nI 10 ≤ v) ∨ ∃ c : Nat, c < 10 ∧ v = nI c := by
  rcases pk_ix v (n := 10) (by omega) with h | h | h
  · exact Or.inl (Or.inl h)
  · exact Or.inl (Or.inr h)
  · exact Or.inr h
-- the answer of firstDifference from k on
def kn_fd (x y : List Int32) : Nat → Nat → Int32
  | 0, _ => -1
  | m + 1, k => if k < x.length then (if k < y.length then (if x[k]? = y[k]? then kn_fd x y m (k + 1) else nI k) else nI k) else (if k < y.length then nI k else -1)
theorem kn_fdXo {post : Int32 → Prop} {c d : Nat} (hc : c < 10) (hd : d < 10) (R : kn_Rp S l dd) (h : post (-1)) :
    ∀ (m k : Nat), k + m = 20 → (S c).length ≤ k → (S d).length ≤ k → wX_firstDifference_21 post (nI c) (nI d) vc vk va vb vcc vd vn vi vm l dd (m + 1) (nI k) := by
  intro m
  induction m with
  | zero =>
    intro k hk a b
    exact br_t (nI_le (a := 20) (by omega) (by omega)) h
  | succ m ih =>
    intro k hk a b
    refine br_f (nI_ge (b := 20) (by omega) (by decide)) ⟨vp_in_nI hc (by omega), br_t (by rw [kn_lA R hc]; exact nI_le a (by omega)) ?_⟩
    refine ⟨vp_in_nI hd (by omega), br_t (by rw [kn_lA R hd]; exact nI_le b (by omega)) ?_⟩
    exact br_t rfl (br_t rfl (nm_r (nI_1 k) (ih (k + 1) (by omega) (by omega) (by omega))))
theorem kn_fdX {post : Int32 → Prop} {c d : Nat} (hc : c < 10) (hd : d < 10) (R : kn_Rp S l dd) :
    ∀ (m k : Nat), k + m = 20 → post (kn_fd (S c) (S d) m k) → wX_firstDifference_21 post (nI c) (nI d) vc vk va vb vcc vd vn vi vm l dd (m + 1) (nI k) := by
  have bc := (R c hc).1
  have bd := (R d hd).1
  intro m
  induction m with
  | zero =>
    intro k hk h
    exact br_t (nI_le (a := 20) (by omega) (by omega)) h
  | succ m ih =>
    intro k hk h
    rw [kn_fd] at h
    by_cases z : k < (S c).length
    · rw [if_pos z] at h
      refine br_f (nI_ge (b := 20) (by omega) (by decide)) ⟨vp_in_nI hc (by omega), br_f (by rw [kn_lA R hc]; exact nI_ge z (by omega)) ⟨vp_in_nI hd (by omega), ?_⟩⟩
      by_cases y : k < (S d).length
      · rw [if_pos y, List.getElem?_eq_getElem z, List.getElem?_eq_getElem y] at h
        refine br_f (by rw [kn_lA R hd]; exact nI_ge y (by omega)) (br_t rfl (br_f (by decide) ?_))
        obtain ⟨i1, e1⟩ := kn_rd R (fun _ => List.prefix_rfl) hc z
        obtain ⟨i2, e2⟩ := kn_rd R (fun _ => List.prefix_rfl) hd y
        refine ⟨i1, i2, ?_⟩
        rw [e1, e2]
        by_cases q : (S c)[k] = (S d)[k]
        · rw [if_pos (by rw [q])] at h
          exact br_t q (nm_r (nI_1 k) (ih (k + 1) (by omega) h))
        · rw [if_neg (fun e => q (Option.some.inj e))] at h
          exact br_f q h
      · rw [if_neg y] at h
        exact br_t (by rw [kn_lA R hd]; exact nI_le (by omega) (by omega)) (br_f (by decide) h)
    · rw [if_neg z] at h
      by_cases y : k < (S d).length
      · rw [if_pos y] at h
        refine br_f (nI_ge (b := 20) (by omega) (by decide)) ⟨vp_in_nI hc (by omega), br_t (by rw [kn_lA R hc]; exact nI_le (by omega) (by omega)) ⟨vp_in_nI hd (by omega), ?_⟩⟩
        exact br_f (by rw [kn_lA R hd]; exact nI_ge y (by omega)) (br_f (by decide) h)
      · rw [if_neg y] at h
        exact kn_fdXo hc hd R h (m + 1) k hk (by omega) (by omega)
theorem kn_fdY {post : Int32 → SY → Prop} {c d : Nat} (hc : c < 10) (hd : d < 10) (R : kn_Rp S sz it) :
    ∀ (m k : Nat), k + m = 20 → post (kn_fd (S c) (S d) m k) (fn, ct, yk, ya, yb, yc, yd, yp, yq, yr, yw, sz, it, mk) → wY_firstDifference_25 post (nI c) (nI d) fn ct yk ya yb yc yd yp yq yr yw sz it mk (m + 1) (nI k) := by
  have bc := (R c hc).1
  have bd := (R d hd).1
  intro m
  induction m with
  | zero =>
    intro k hk h
    exact br_t (nI_le (a := 20) (by omega) (by omega)) h
  | succ m ih =>
    intro k hk h
    rw [kn_fd] at h
    refine br_f (nI_ge (b := 20) (by omega) (by decide)) ⟨vp_in_nI hc (by omega), ?_⟩
    by_cases z : k < (S c).length
    · rw [if_pos z] at h
      refine br_t (by rw [kn_lA R hc]; exact nI_lt z (by omega)) ⟨vp_in_nI hc (by omega), br_f (by rw [kn_lA R hc]; exact nI_ge z (by omega)) ⟨vp_in_nI hd (by omega), ?_⟩⟩
      by_cases y : k < (S d).length
      · rw [if_pos y, List.getElem?_eq_getElem z, List.getElem?_eq_getElem y] at h
        refine br_f (by rw [kn_lA R hd]; exact nI_ge y (by omega)) (kn_gt hc (by omega) (kn_gt hd (by omega) ?_))
        rw [(R c hc).2.2 k z, (R d hd).2.2 k y]
        by_cases q : (S c)[k] = (S d)[k]
        · rw [if_pos (by rw [q])] at h
          exact br_t q (nm_r (nI_1 k) (ih (k + 1) (by omega) h))
        · rw [if_neg (fun e => q (Option.some.inj e))] at h
          exact br_f q h
      · rw [if_neg y] at h
        exact br_t (by rw [kn_lA R hd]; exact nI_le (by omega) (by omega)) h
    · rw [if_neg z] at h
      refine br_f (by rw [kn_lA R hc]; exact nI_nlt (by omega) (by omega)) ⟨vp_in_nI hd (by omega), ?_⟩
      by_cases y : k < (S d).length
      · rw [if_pos y] at h
        exact br_t (by rw [kn_lA R hd]; exact nI_lt y (by omega)) ⟨vp_in_nI hc (by omega), br_t (by rw [kn_lA R hc]; exact nI_le (by omega) (by omega)) h⟩
      · rw [if_neg y] at h
        exact br_f (by rw [kn_lA R hd]; exact nI_nlt (by omega) (by omega)) h
theorem kn_Ytot8 {post : Int32 → SY → Prop} (R : kn_Rp S sz it) (h : post (nI (kn_tot S 10)) (fn, ct, yk, ya, yb, yc, yd, yp, yq, yr, yw, sz, it, mk)) : ∀ (m c : Nat), c + m = 10 → wY_total_8 post fn ct yk ya yb yc yd yp yq yr yw sz it mk (m + 1) (nI (kn_tot S c)) (nI c) := by
  intro m
  induction m with
  | zero =>
    intro c hc
    have e : c = 10 := by omega
    rw [e]
    exact br_t (by decide) h
  | succ m ih =>
    intro c hc
    refine br_f (nI_ge (b := 10) (by omega) (by decide)) ⟨vp_in_nI (by omega) (by omega), nm_r (e' := nI (kn_tot S (c + 1))) ?_ (nm_r (nI_1 c) (ih (c + 1) (by omega)))⟩
    rw [nI_clamp (by omega), (R c (by omega)).2.1, nI_add]
    rfl
theorem kn_Xclr {post : Int32 → SX → Prop} {x : Int32} (h : ∀ l', (∀ j, j < 10 → l' j = 0) → post x (vc, vk, va, vb, vcc, vd, vn, vi, vm, l', dd)) :
    ∀ (m c : Nat) (l : Nat → Int32), c + m = 10 → (∀ j, j < c → l j = 0) → wX_clear_12 post x vc (m + 1) (nI c) vk va vb vcc vd vn vi vm l dd := by
  intro m
  induction m with
  | zero =>
    intro c l hc z
    exact br_t (nI_le (a := 10) (by omega) (by omega)) (h l (fun j hj => z j (by omega)))
  | succ m ih =>
    intro c l hc z
    refine br_f (nI_ge (b := 10) (by omega) (by decide)) ⟨vp_in_nI (by omega) (by omega), nm_e (nm_r (nI_1 c) (ih (c + 1) _ (by omega) ?_))⟩
    intro j hj
    rw [nI_clamp (by omega)]
    by_cases y : j = c
    · rw [y, pk_us]
    · rw [pk_un y]; exact z j (by omega)
theorem kn_Yclr {post : Int32 → SY → Prop} {x : Int32} (h : ∀ yr' yw', (∀ j, j < 10 → yr' j = 0) → (∀ j, j < 10 → yw' j = 0) → post x (fn, ct, yk, ya, yb, yc, yd, yp, yq, yr', yw', sz, it, mk)) :
    ∀ (m c : Nat) (yr yw : Nat → Int32), c + m = 10 → (∀ j, j < c → yr j = 0) → (∀ j, j < c → yw j = 0) → wY_clear_12 post x fn ct (m + 1) (nI c) yk ya yb yc yd yp yq yr yw sz it mk := by
  intro m
  induction m with
  | zero =>
    intro c yr yw hc z z'
    exact br_t (nI_le (a := 10) (by omega) (by omega)) (h yr yw (fun j hj => z j (by omega)) (fun j hj => z' j (by omega)))
  | succ m ih =>
    intro c yr yw hc z z'
    refine br_f (nI_ge (b := 10) (by omega) (by decide)) ⟨vp_in_nI (by omega) (by omega), nm_e ⟨vp_in_nI (by omega) (by omega), nm_e (nm_r (nI_1 c) (ih (c + 1) _ _ (by omega) ?_ ?_))⟩⟩
    · intro j hj
      rw [nI_clamp (by omega), kn_nb0]
      by_cases y : j = c
      · rw [y, pk_us]
      · rw [pk_un y]; exact z j (by omega)
    · intro j hj
      rw [nI_clamp (by omega), kn_nb0]
      by_cases y : j = c
      · rw [y, pk_us]
      · rw [pk_un y]; exact z' j (by omega)
end
theorem i_vc_clear {k : Nat} {u : SX} {v : SY} (I : i_Rel k u v) (hk : k + 4 ≤ 2049) : wpX_clear (fun r u' => wpY_clear (fun r' v' => r' = r ∧ i_Rel (k + 4) u' v') v) u := by
  obtain ⟨vc, vk, va, vb, vcc, vd, vn, vi, vm, l, dd⟩ := u
  obtain ⟨fn, ct, yk, ya, yb, yc, yd, yp, yq, yr, yw, sz, it, mk⟩ := v
  obtain ⟨n, N, S, hn, hv, hf, U, X, Y, L, R, tr, tw⟩ := I
  have none : ∀ {P : Nat → Prop}, ∀ j, j < 0 → P j := fun j h => absurd h (Nat.not_lt_zero j)
  refine ⟨11, kn_Xclr (fun l' hl => ⟨11, kn_Yclr (fun yr' yw' hr hw => ?_) 10 0 yr yw rfl none none⟩) 10 0 l rfl none⟩
  refine ⟨hf.trans hv.symm, 0, N, fun _ => [], by omega, rfl, rfl, ⟨none, fun i j h => absurd h (Nat.not_lt_zero i)⟩, none, none, kn_Ls_0 N, ?_, ?_, ?_⟩
  · intro c hc
    exact ⟨Nat.zero_le _, hl c hc, fun k h => absurd h (Nat.not_lt_zero k)⟩
  · intro c hc
    exact ⟨fun _ => none, fun _ => hr c hc⟩
  · intro c hc
    exact ⟨fun _ => none, fun _ => hw c hc⟩
theorem i_vc_length {k : Nat} {u : SX} {v : SY} (I : i_Rel k u v) (hk : k + 4 ≤ 2049) (v1 : Int32) : wpX_length (fun r => wpY_length (fun r' v' => r' = r ∧ i_Rel (k + 4) u v') v v1) u v1 := by
  obtain ⟨vc, vk, va, vb, vcc, vd, vn, vi, vm, l, dd⟩ := u
  obtain ⟨fn, ct, yk, ya, yb, yc, yd, yp, yq, yr, yw, sz, it, mk⟩ := v
  obtain ⟨n, N, S, hn, hv, hf, U, X, Y, L, R, tr, tw⟩ := I
  unfold wpX_length wpY_length
  dsimp only
  rcases kn_ch v1 with h | ⟨c, hc, rfl⟩
  · exact kn_chX0 h (br_t rfl (kn_chY0 h (br_t rfl ⟨rfl, n, N, S, hn, hv, hf, U, X, Y, L, R, tr, tw⟩)))
  · refine kn_chX1 hc (br_f (by decide) ⟨vp_in_nI hc (by omega), kn_chY1 hc (br_f (by decide) (kn_Ysettle hn hf U Y (fun T ct sz it mk L' R' => ?_)))⟩)
    have e := kn_Ls_eq L L'
    subst e
    exact ⟨vp_in_nI hc (by omega), by dsimp only; rw [kn_lA R hc, kn_lA R' hc], n, N, S, hn, hv, hf, U, X, Y, L, R, tr, tw⟩
theorem i_vc_at {k : Nat} {u : SX} {v : SY} (I : i_Rel k u v) (hk : k + 4 ≤ 2049) (v1 : Int32) (v2 : Int32) : wpX_at (fun r => wpY_at (fun r' v' => r' = r ∧ i_Rel (k + 4) u v') v v1 v2) u v1 v2 := by
  obtain ⟨vc, vk, va, vb, vcc, vd, vn, vi, vm, l, dd⟩ := u
  obtain ⟨fn, ct, yk, ya, yb, yc, yd, yp, yq, yr, yw, sz, it, mk⟩ := v
  obtain ⟨n, N, S, hn, hv, hf, U, X, Y, L, R, tr, tw⟩ := I
  unfold wpX_at wpY_at
  dsimp only
  rcases kn_ch v1 with h | ⟨c, hc, rfl⟩
  · exact kn_chX0 h (br_t rfl (kn_chY0 h (br_t rfl ⟨rfl, n, N, S, hn, hv, hf, U, X, Y, L, R, tr, tw⟩)))
  · refine kn_chX1 hc (br_f (by decide) ?_)
    have b := (R c hc).1
    by_cases z : v2 < 0
    · refine br_t z (kn_chY1 hc (br_f (by decide) (kn_Ysettle hn hf U Y (fun T ct sz it mk L' R' => ?_))))
      exact br_t z ⟨rfl, n, N, S, hn, hv, hf, U, X, Y, L, R, tr, tw⟩
    · obtain ⟨j, hj, rfl⟩ := nI_of z
      refine br_f z ⟨vp_in_nI hc (by omega), pk_lt j (S c).length (fun y => ?_) (fun y => ?_) rfl (kn_lA R hc)⟩
      · obtain ⟨i1, e1⟩ := kn_rd R (fun _ => List.prefix_rfl) hc y
        refine ⟨i1, kn_chY1 hc (br_f (by decide) (kn_Ysettle hn hf U Y (fun T ct sz it mk L' R' => ?_)))⟩
        have e := kn_Ls_eq L L'
        subst e
        refine br_f z ⟨vp_in_nI hc (by omega), br_f (by dsimp only; rw [kn_lA R' hc]; exact nI_ge y (by omega)) (kn_gt hc (by omega) ?_)⟩
        exact ⟨by rw [e1]; exact (R' c hc).2.2 j y, n, N, S, hn, hv, hf, U, X, Y, L, R, tr, tw⟩
      · refine kn_chY1 hc (br_f (by decide) (kn_Ysettle hn hf U Y (fun T ct sz it mk L' R' => ?_)))
        have e := kn_Ls_eq L L'
        subst e
        exact br_f z ⟨vp_in_nI hc (by omega), br_t (by dsimp only; rw [kn_lA R' hc]; exact nI_le y (by omega)) ⟨rfl, n, N, S, hn, hv, hf, U, X, Y, L, R, tr, tw⟩⟩
theorem i_vc_processes {k : Nat} {u : SX} {v : SY} (I : i_Rel k u v) (hk : k + 4 ≤ 2049) : wpX_processes (fun r => wpY_processes (fun r' => r' = r ∧ i_Rel (k + 4) u v) v) u := by
  obtain ⟨vc, vk, va, vb, vcc, vd, vn, vi, vm, l, dd⟩ := u
  obtain ⟨fn, ct, yk, ya, yb, yc, yd, yp, yq, yr, yw, sz, it, mk⟩ := v
  obtain ⟨n, N, S, hn, hv, hf, U, X, Y, L, R, tr, tw⟩ := I
  exact ⟨hf.trans hv.symm, n, N, S, hn, hv, hf, U, X, Y, L, R, tr, tw⟩
theorem i_vc_total {k : Nat} {u : SX} {v : SY} (I : i_Rel k u v) (hk : k + 4 ≤ 2049) : wpX_total (fun r => wpY_total (fun r' v' => r' = r ∧ i_Rel (k + 4) u v') v) u := by
  obtain ⟨vc, vk, va, vb, vcc, vd, vn, vi, vm, l, dd⟩ := u
  obtain ⟨fn, ct, yk, ya, yb, yc, yd, yp, yq, yr, yw, sz, it, mk⟩ := v
  obtain ⟨n, N, S, hn, hv, hf, U, X, Y, L, R, tr, tw⟩ := I
  unfold wpY_total
  dsimp only
  refine kn_Xtotal R (kn_Ysettle hn hf U Y (fun T ct sz it mk L' R' => ?_))
  have e := kn_Ls_eq L L'
  subst e
  exact ⟨11, kn_Ytot8 R' ⟨rfl, n, N, S, hn, hv, hf, U, X, Y, L, R, tr, tw⟩ 10 0 rfl⟩
theorem i_vc_firstDifference {k : Nat} {u : SX} {v : SY} (I : i_Rel k u v) (hk : k + 4 ≤ 2049) (v1 : Int32) (v2 : Int32) : wpX_firstDifference (fun r => wpY_firstDifference (fun r' v' => r' = r ∧ i_Rel (k + 4) u v') v v1 v2) u v1 v2 := by
  obtain ⟨vc, vk, va, vb, vcc, vd, vn, vi, vm, l, dd⟩ := u
  obtain ⟨fn, ct, yk, ya, yb, yc, yd, yp, yq, yr, yw, sz, it, mk⟩ := v
  obtain ⟨n, N, S, hn, hv, hf, U, X, Y, L, R, tr, tw⟩ := I
  unfold wpX_firstDifference wpY_firstDifference
  dsimp only
  rcases kn_ch v1 with h | ⟨c, hc, rfl⟩
  · exact kn_chX0 h (br_t rfl (kn_chY0 h (br_t rfl ⟨rfl, n, N, S, hn, hv, hf, U, X, Y, L, R, tr, tw⟩)))
  rcases kn_ch v2 with h | ⟨d, hd, rfl⟩
  · exact kn_chX1 hc (br_f (by decide) (kn_chX0 h (br_t rfl (kn_chY1 hc (br_f (by decide) (kn_chY0 h (br_t rfl ⟨rfl, n, N, S, hn, hv, hf, U, X, Y, L, R, tr, tw⟩)))))))
  refine kn_chX1 hc (br_f (by decide) (kn_chX1 hd (br_f (by decide) ⟨21, kn_fdX hc hd R 20 0 rfl ?_⟩)))
  refine kn_chY1 hc (br_f (by decide) (kn_chY1 hd (br_f (by decide) (kn_Ysettle hn hf U Y (fun T ct sz it mk L' R' => ?_)))))
  have e := kn_Ls_eq L L'
  subst e
  exact ⟨21, kn_fdY hc hd R' 20 0 rfl ⟨rfl, n, N, S, hn, hv, hf, U, X, Y, L, R, tr, tw⟩⟩
