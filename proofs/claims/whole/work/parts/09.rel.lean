-- y says of each channel whether no process has Q of it
def kn_Tb (Q : kn_P → Nat → Prop) (N : Nat → kn_P) (n : Nat) (y : Nat → Int32) : Prop := ∀ c, c < 10 → (y c = 0 ↔ ∀ i, i < n → ¬ Q (N i) c)
theorem kn_Tb_ad {Q : kn_P → Nat → Prop} {N : Nat → kn_P} {n : Nat} {y y' : Nat → Int32} {p : kn_P} (h : kn_Tb Q N n y) (h1 : ∀ c, c < 10 → Q p c → ¬ y' c = 0) (h2 : ∀ c, c < 10 → ¬ Q p c → y' c = y c) :
    kn_Tb Q (kn_ad N n p) (n + 1) y' := by
  intro c hc
  by_cases q : Q p c
  · refine ⟨fun e => absurd e (h1 c hc q), fun e => ?_⟩
    have := e n (by omega)
    rw [kn_ad_n] at this
    exact absurd q this
  · rw [h2 c hc q, h c hc]
    refine ⟨fun e i hi => ?_, fun e i hi => ?_⟩
    · by_cases z : i = n
      · rw [z, kn_ad_n]; exact q
      · rw [kn_ad_o (by omega)]; exact e i (by omega)
    · have := e i (by omega)
      rw [kn_ad_o hi] at this
      exact this
def kn_J (n : Nat) (N : Nat → kn_P) (S : Nat → List Int32) (vc : Int32) (vk va vb vcc vd vn vi vm l dd : Nat → Int32) (fn : Int32) (yk ya yb yc yd yp yq yr yw : Nat → Int32) : Prop :=
  n ≤ 8 ∧ vc = nI n ∧ fn = nI n ∧ kn_Un N n ∧ (∀ i, i < n → kn_RX (N i) (vk i) (va i) (vb i) (vcc i) (vd i) (vn i) (vi i) (vm i)) ∧
  (∀ i, i < n → kn_RY (N i) (yk i) (ya i) (yb i) (yc i) (yd i) (yp i) (yq i)) ∧ kn_Ls N n S ∧ kn_Rp S l dd ∧ kn_Tb kn_R N n yr ∧ kn_Tb kn_W N n yw
/-- the same network on both sides; X holds its smallest streams; the reference's sizes, ints and made are free -/
def i_Rel (k : Nat) (u : SX) (v : SY) : Prop := match u, v with
  | (xc, xk, xa, xb, xcc, xd, xn, xi, xm, xl, xdd), (fn, _, yk, ya, yb, yc, yd, yp, yq, yr, yw, _, _, _) => ∃ (n : Nat) (N : Nat → kn_P) (S : Nat → List Int32), kn_J n N S xc xk xa xb xcc xd xn xi xm xl xdd fn yk ya yb yc yd yp yq yr yw
theorem i_up {k : Nat} {u : SX} {v : SY} (h : i_Rel k u v) : i_Rel (k + 4) u v := h
theorem i_vc0 (k0 : Int32) : wpX_init (fun u => wpY_init (fun v => i_Rel 1 u v) k0) k0 := by
  refine ⟨0, fun _ => (0, 0, 0, 0, 0, 0, 0), fun _ => [], by omega, rfl, rfl, ⟨fun i h => absurd h (Nat.not_lt_zero i), fun i j h => absurd h (Nat.not_lt_zero i)⟩, fun i h => absurd h (Nat.not_lt_zero i),
    fun i h => absurd h (Nat.not_lt_zero i), kn_Ls_0 _, ?_, ?_, ?_⟩
  · intro c hc
    exact ⟨Nat.zero_le _, rfl, fun k h => absurd h (Nat.not_lt_zero k)⟩
  · intro c hc
    exact ⟨fun _ i h => absurd h (Nat.not_lt_zero i), fun _ => rfl⟩
  · intro c hc
    exact ⟨fun _ i h => absurd h (Nat.not_lt_zero i), fun _ => rfl⟩
theorem kn_m1 {c : Nat} (h : c < 2 ^ 31) : ¬ (-1 : Int32) = nI c := by
  intro e
  have e2 := congrArg Int32.toInt e
  rw [nI_toInt h] at e2
  have e3 : (-1 : Int32).toInt = -1 := by decide
  omega
theorem kn_m1' {c : Nat} (h : c < 2 ^ 31) : ¬ nI c = (-1 : Int32) := fun e => kn_m1 h e.symm
theorem kn_WX {p : kn_P} {k a b c d n i m : Int32} {x : Nat} (ok : kn_ok p) (X : kn_RX p k a b c d n i m) (hx : x < 10) : kn_W p x ↔ (c = nI x ∨ d = nI x) := by
  obtain ⟨o1, o2, o3, o4, o5, o6, o7⟩ := ok
  obtain ⟨x1, x2, x3, x4, x5, x6, x7, x8, x9, x10⟩ := X
  unfold kn_W
  rw [x6, nI_eq (by omega) (by omega)]
  by_cases z : p.1 = 1
  · rw [x7 z, nI_eq (by omega) (by omega)]
    constructor
    · rintro (h | h)
      · exact Or.inl h.symm
      · exact Or.inr h.2.symm
    · rintro (h | h)
      · exact Or.inl h.symm
      · exact Or.inr ⟨z, h.symm⟩
  · rw [x8 z]
    constructor
    · rintro (h | h)
      · exact Or.inl h.symm
      · exact absurd h.1 z
    · rintro (h | h)
      · exact Or.inl h.symm
      · exact absurd h (kn_m1 (by omega))
theorem kn_RXr {p : kn_P} {k a b c d n i m : Int32} {x : Nat} (ok : kn_ok p) (X : kn_RX p k a b c d n i m) (hx : x < 10) : kn_R p x ↔ (a = nI x ∨ b = nI x) := by
  obtain ⟨o1, o2, o3, o4, o5, o6, o7⟩ := ok
  obtain ⟨x1, x2, x3, x4, x5, x6, x7, x8, x9, x10⟩ := X
  unfold kn_R
  have l : (p.1 ≠ 0 ∧ x = p.2.1) ↔ a = nI x := by
    by_cases z : p.1 = 0
    · rw [x3 z]
      exact ⟨fun h => absurd z h.1, fun h => absurd h (kn_m1 (by omega))⟩
    · rw [x2 z, nI_eq (by omega) (by omega)]
      exact ⟨fun h => h.2.symm, fun h => ⟨z, h.symm⟩⟩
  have r : ((p.1 = 2 ∨ p.1 = 5) ∧ x = p.2.2.1) ↔ b = nI x := by
    by_cases z : p.1 = 2 ∨ p.1 = 5
    · rw [x4 z, nI_eq (by omega) (by omega)]
      exact ⟨fun h => h.2.symm, fun h => ⟨z, h.symm⟩⟩
    · rw [x5 z]
      exact ⟨fun h => absurd h.1 z, fun h => absurd h (kn_m1 (by omega))⟩
  rw [l, r]
section
variable {vc fn ct : Int32} {vk va vb vcc vd vn vi vm l dd yk ya yb yc yd yp yq yr yw sz it mk : Nat → Int32} {n : Nat} {N : Nat → kn_P} {S : Nat → List Int32} {c : Nat}
theorem kn_XisW2 {post : Int32 → Prop} (hn : n ≤ 8) (hv : vc = nI n) (U : kn_Un N n) (X : ∀ i, i < n → kn_RX (N i) (vk i) (va i) (vb i) (vcc i) (vd i) (vn i) (vi i) (vm i)) (hc : c < 10)
    (h0 : (∀ i, i < n → ¬ kn_W (N i) c) → post 0) (h1 : (∃ i, i < n ∧ kn_W (N i) c) → post 1) :
    ∀ (m i : Nat), i + m = n → (∀ j, j < i → ¬ kn_W (N j) c) → wX_isWritten_2 post (nI c) vc vk va vb vcc vd vn vi vm l dd (m + 1) (nI i) := by
  intro m
  induction m with
  | zero =>
    intro i hi h
    have e : i = n := by omega
    subst e
    exact br_t (by rw [hv]; exact nI_le (Nat.le_refl _) (by omega)) (h0 h)
  | succ m ih =>
    intro i hi h
    have hin : vp_in (nI i) 8 := vp_in_nI (by omega) (by omega)
    have q := kn_WX (U.1 i (by omega)) (X i (by omega)) hc
    have cl : (nI i).toNatClampNeg = i := nI_clamp (by omega)
    refine br_f (by rw [hv]; exact nI_ge (by omega) (by omega)) ⟨hin, br_c (fun e => ?_) (fun e => ⟨hin, br_c (fun f => ?_) (fun f => ?_)⟩)⟩
    · rw [cl] at e
      exact h1 ⟨i, by omega, q.mpr (Or.inl e)⟩
    · rw [cl] at f
      exact h1 ⟨i, by omega, q.mpr (Or.inr f)⟩
    · rw [cl] at e f
      refine nm_r (nI_1 i) (ih (i + 1) (by omega) ?_)
      intro j hj
      by_cases z : j = i
      · rw [z]
        intro g
        rcases q.mp g with g | g
        · exact e g
        · exact f g
      · exact h j (by omega)
theorem kn_XisW {post : Int32 → Prop} (hn : n ≤ 8) (hv : vc = nI n) (U : kn_Un N n) (X : ∀ i, i < n → kn_RX (N i) (vk i) (va i) (vb i) (vcc i) (vd i) (vn i) (vi i) (vm i)) (hc : c < 10)
    (h0 : (∀ i, i < n → ¬ kn_W (N i) c) → post 0) (h1 : (∃ i, i < n ∧ kn_W (N i) c) → post 1) : wpX_isWritten post (vc, vk, va, vb, vcc, vd, vn, vi, vm, l, dd) (nI c) :=
  ⟨n + 1, kn_XisW2 hn hv U X hc h0 h1 n 0 (by omega) (fun j h => absurd h (Nat.not_lt_zero j))⟩
theorem kn_XisR2 {post : Int32 → Prop} (hn : n ≤ 8) (hv : vc = nI n) (U : kn_Un N n) (X : ∀ i, i < n → kn_RX (N i) (vk i) (va i) (vb i) (vcc i) (vd i) (vn i) (vi i) (vm i)) (hc : c < 10)
    (h0 : (∀ i, i < n → ¬ kn_R (N i) c) → post 0) (h1 : (∃ i, i < n ∧ kn_R (N i) c) → post 1) :
    ∀ (m i : Nat), i + m = n → (∀ j, j < i → ¬ kn_R (N j) c) → wX_isRead_2 post (nI c) vc vk va vb vcc vd vn vi vm l dd (m + 1) (nI i) := by
  intro m
  induction m with
  | zero =>
    intro i hi h
    have e : i = n := by omega
    subst e
    exact br_t (by rw [hv]; exact nI_le (Nat.le_refl _) (by omega)) (h0 h)
  | succ m ih =>
    intro i hi h
    have hin : vp_in (nI i) 8 := vp_in_nI (by omega) (by omega)
    have q := kn_RXr (U.1 i (by omega)) (X i (by omega)) hc
    have cl : (nI i).toNatClampNeg = i := nI_clamp (by omega)
    refine br_f (by rw [hv]; exact nI_ge (by omega) (by omega)) ⟨hin, br_c (fun e => ?_) (fun e => ⟨hin, br_c (fun f => ?_) (fun f => ?_)⟩)⟩
    · rw [cl] at e
      exact h1 ⟨i, by omega, q.mpr (Or.inl e)⟩
    · rw [cl] at f
      exact h1 ⟨i, by omega, q.mpr (Or.inr f)⟩
    · rw [cl] at e f
      refine nm_r (nI_1 i) (ih (i + 1) (by omega) ?_)
      intro j hj
      by_cases z : j = i
      · rw [z]
        intro g
        rcases q.mp g with g | g
        · exact e g
        · exact f g
      · exact h j (by omega)
theorem kn_XisR {post : Int32 → Prop} (hn : n ≤ 8) (hv : vc = nI n) (U : kn_Un N n) (X : ∀ i, i < n → kn_RX (N i) (vk i) (va i) (vb i) (vcc i) (vd i) (vn i) (vi i) (vm i)) (hc : c < 10)
    (h0 : (∀ i, i < n → ¬ kn_R (N i) c) → post 0) (h1 : (∃ i, i < n ∧ kn_R (N i) c) → post 1) : wpX_isRead post (vc, vk, va, vb, vcc, vd, vn, vi, vm, l, dd) (nI c) :=
  ⟨n + 1, kn_XisR2 hn hv U X hc h0 h1 n 0 (by omega) (fun j h => absurd h (Nat.not_lt_zero j))⟩
end
theorem kn_RX_ad {N : Nat → kn_P} {n : Nat} {p : kn_P} {vk va vb vcc vd vn vi vm vk' va' vb' vcc' vd' vn' vi' vm' : Nat → Int32}
    (X : ∀ i, i < n → kn_RX (N i) (vk i) (va i) (vb i) (vcc i) (vd i) (vn i) (vi i) (vm i)) (hp : kn_RX p (vk' n) (va' n) (vb' n) (vcc' n) (vd' n) (vn' n) (vi' n) (vm' n))
    (e : ∀ i, i < n → vk' i = vk i ∧ va' i = va i ∧ vb' i = vb i ∧ vcc' i = vcc i ∧ vd' i = vd i ∧ vn' i = vn i ∧ vi' i = vi i ∧ vm' i = vm i) :
    ∀ i, i < n + 1 → kn_RX (kn_ad N n p i) (vk' i) (va' i) (vb' i) (vcc' i) (vd' i) (vn' i) (vi' i) (vm' i) := by
  intro i hi
  by_cases z : i = n
  · rw [z, kn_ad_n]; exact hp
  · obtain ⟨e1, e2, e3, e4, e5, e6, e7, e8⟩ := e i (by omega)
    rw [kn_ad_o (by omega), e1, e2, e3, e4, e5, e6, e7, e8]
    exact X i (by omega)
theorem kn_RY_ad {N : Nat → kn_P} {n : Nat} {p : kn_P} {vk va vb vcc vd vn vi vk' va' vb' vcc' vd' vn' vi' : Nat → Int32}
    (X : ∀ i, i < n → kn_RY (N i) (vk i) (va i) (vb i) (vcc i) (vd i) (vn i) (vi i)) (hp : kn_RY p (vk' n) (va' n) (vb' n) (vcc' n) (vd' n) (vn' n) (vi' n))
    (e : ∀ i, i < n → vk' i = vk i ∧ va' i = va i ∧ vb' i = vb i ∧ vcc' i = vcc i ∧ vd' i = vd i ∧ vn' i = vn i ∧ vi' i = vi i) :
    ∀ i, i < n + 1 → kn_RY (kn_ad N n p i) (vk' i) (va' i) (vb' i) (vcc' i) (vd' i) (vn' i) (vi' i) := by
  intro i hi
  by_cases z : i = n
  · rw [z, kn_ad_n]; exact hp
  · obtain ⟨e1, e2, e3, e4, e5, e6, e7⟩ := e i (by omega)
    rw [kn_ad_o (by omega), e1, e2, e3, e4, e5, e6, e7]
    exact X i (by omega)
theorem kn_nb1 : vp_nar .boolean 1 = 1 := rfl
theorem kn_nb0 : vp_nar .boolean 0 = 0 := rfl
theorem kn_uo {f : Nat → Int32} {n i : Nat} {x : Int32} (h : i < n) : upd f n x i = f i := pk_un (by omega)
