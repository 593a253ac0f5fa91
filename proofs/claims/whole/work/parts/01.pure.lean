-- rows of the kit, pasted
theorem pk_us {f : Nat → Int32} {k : Nat} {x : Int32} : upd f k x k = x := if_pos rfl
theorem pk_un {f : Nat → Int32} {k j : Nat} {x : Int32} (h : j ≠ k) : upd f k x j = f j := if_neg h
theorem pk_sub {a b : Nat} (h : b ≤ a) : nI a - nI b = nI (a - b) := by
  obtain ⟨c, rfl⟩ : ∃ c, a = c + b := ⟨a - b, by omega⟩
  rw [← nI_add, Int32.add_sub_cancel, Nat.add_sub_cancel]
theorem pk_mul (a b : Nat) : nI a * nI b = nI (a * b) := (Int32.ofNat_mul a b).symm
theorem pk_div {a d : Nat} (ha : a < 2 ^ 31) (h0 : 0 < d) (hd : d < 2 ^ 31) : nI a / nI d = nI (a / d) := by
  apply Int32.toInt_inj.mp
  rw [lg_idiv_nonneg (by rw [nI_toInt ha]; omega) (by rw [nI_toInt hd]; omega), nI_toInt ha, nI_toInt hd, nI_toInt (Nat.lt_of_le_of_lt (Nat.div_le_self a d) ha)]
  first | rfl | exact (Int.natCast_ediv _ _).symm
theorem pk_rem {a d : Nat} (ha : a < 2 ^ 31) (h0 : 0 < d) (hd : d < 2 ^ 31) : nI a - nI a / nI d * nI d = nI (a % d) := by
  rw [pk_div ha h0 hd, pk_mul, pk_sub (Nat.div_mul_le_self a d)]
  exact congrArg nI (by have := Nat.div_add_mod' a d; omega)
theorem pk_ix (x : Int32) {n : Nat} (hn : n < 2 ^ 31) : x < 0 ∨ nI n ≤ x ∨ ∃ j : Nat, j < n ∧ x = nI j := by
  by_cases h : x < 0
  · exact Or.inl h
  · obtain ⟨j, hj, rfl⟩ := nI_of h
    by_cases h2 : j < n
    · exact Or.inr (Or.inr ⟨j, h2, rfl⟩)
    · exact Or.inr (Or.inl (nI_le (by omega) hj))
theorem pk_le {x y : Int32} {A B : Prop} (a b : Nat) (f : a ≤ b → A) (g : b < a → B) (hx : x = nI a := by rfl) (hy : y = nI b := by rfl) (ha : a < 2 ^ 31 := by omega) (hb : b < 2 ^ 31 := by omega) : (x ≤ y → A) ∧ (¬ x ≤ y → B) := by
  subst hx hy
  rw [nI_leI ha hb]
  exact ⟨f, fun z => g (by omega)⟩
theorem pk_lt {x y : Int32} {A B : Prop} (a b : Nat) (f : a < b → A) (g : b ≤ a → B) (hx : x = nI a := by rfl) (hy : y = nI b := by rfl) (ha : a < 2 ^ 31 := by omega) (hb : b < 2 ^ 31 := by omega) : (x < y → A) ∧ (¬ x < y → B) := by
  subst hx hy
  rw [nI_ltI ha hb]
  exact ⟨f, fun z => g (by omega)⟩
theorem pk_eq {x y : Int32} {A B : Prop} (a b : Nat) (f : a = b → A) (g : a ≠ b → B) (hx : x = nI a := by rfl) (hy : y = nI b := by rfl) (ha : a < 2 ^ 31 := by omega) (hb : b < 2 ^ 31 := by omega) : (x = y → A) ∧ (¬ x = y → B) := by
  subst hx hy
  rw [nI_eq ha hb]
  exact ⟨f, g⟩
theorem pk_in {x : Int32} (n N : Nat) (h : n < N) (hx : x = nI n := by rfl) (hN : N < 2 ^ 31 := by omega) : vp_in x N := by
  subst hx
  exact vp_in_nI h hN
theorem pk_cl {x : Int32} (n : Nat) (hx : x = nI n := by rfl) (h : n < 2 ^ 31 := by omega) : x.toNatClampNeg = n := by
  subst hx
  exact nI_clamp h

-- what each kind writes, as lists
def kn_sr (p q : Int32) : Nat → Nat → List Int32
  | 0, _ => []
  | m + 1, k => (p + nI k * q) :: kn_sr p q m (k + 1)
def kn_pl : List Int32 → List Int32 → List Int32
  | x :: a, y :: b => (x + y) :: kn_pl a b
  | _, _ => []
def kn_pk (m : Int32) : List Int32 → List Int32
  | [] => []
  | x :: a => if x &&& m = 0 then x :: kn_pk m a else kn_pk m a
def kn_jn : Nat → List Int32 → List Int32 → List Int32
  | n + 1, x :: a, y :: b => if y < x then y :: kn_jn n (x :: a) b else x :: kn_jn n a (y :: b)
  | _, _, _ => []
def kn_sm : Int32 → List Int32 → List Int32
  | _, [] => []
  | s, x :: a => (s + x) :: kn_sm (s + x) a
def kn_pr : List Int32 → List Int32
  | x :: y :: a => (x - y) :: kn_pr a
  | _ => []
def kn_ot (kd nb : Nat) (p q : Int32) (a b : List Int32) : List Int32 :=
  if kd = 0 then kn_sr p q nb 0 else if kd = 1 then a else if kd = 2 then kn_pl a b else if kd = 3 then p :: a
  else if kd = 4 then kn_pk p a else if kd = 5 then kn_jn 20 a b else if kd = 6 then kn_sm 0 a else kn_pr a

theorem kn_pl_mono : ∀ {a a' b b' : List Int32}, a <+: a' → b <+: b' → kn_pl a b <+: kn_pl a' b'
  | [], _, _, _, _, _ => by rw [kn_pl] <;> simp
  | x :: a, _, [], _, _, _ => by rw [kn_pl] <;> simp
  | x :: a, [], y :: b, _, h, _ => by simp at h
  | x :: a, x' :: a', y :: b, [], _, h => by simp at h
  | x :: a, x' :: a', y :: b, y' :: b', h, g => by
    obtain ⟨rfl, h2⟩ := List.cons_prefix_cons.mp h
    obtain ⟨rfl, g2⟩ := List.cons_prefix_cons.mp g
    rw [kn_pl, kn_pl]
    exact List.cons_prefix_cons.mpr ⟨rfl, kn_pl_mono h2 g2⟩
theorem kn_pk_mono (m : Int32) : ∀ {a a' : List Int32}, a <+: a' → kn_pk m a <+: kn_pk m a'
  | [], _, _ => List.nil_prefix
  | x :: a, [], h => by simp at h
  | x :: a, x' :: a', h => by
    obtain ⟨rfl, h2⟩ := List.cons_prefix_cons.mp h
    rw [kn_pk, kn_pk]
    split
    · exact List.cons_prefix_cons.mpr ⟨rfl, kn_pk_mono m h2⟩
    · exact kn_pk_mono m h2
theorem kn_jn_nil_l (n : Nat) (b : List Int32) : kn_jn n [] b = [] := by cases n <;> rfl
theorem kn_jn_nil_r (n : Nat) (a : List Int32) : kn_jn n a [] = [] := by cases n <;> cases a <;> rfl
theorem kn_jn_mono : ∀ (n : Nat) {a a' b b' : List Int32}, a <+: a' → b <+: b' → kn_jn n a b <+: kn_jn n a' b'
  | 0, a, a', b, b', _, _ => by
    have e : kn_jn 0 a b = [] := by cases a <;> cases b <;> rfl
    rw [e]; exact List.nil_prefix
  | n + 1, [], _, _, _, _, _ => by rw [kn_jn_nil_l]; exact List.nil_prefix
  | n + 1, x :: a, _, [], _, _, _ => by rw [kn_jn_nil_r]; exact List.nil_prefix
  | n + 1, x :: a, [], y :: b, _, h, _ => by simp at h
  | n + 1, x :: a, x' :: a', y :: b, [], _, h => by simp at h
  | n + 1, x :: a, x' :: a', y :: b, y' :: b', h, g => by
    obtain ⟨rfl, h2⟩ := List.cons_prefix_cons.mp h
    obtain ⟨rfl, g2⟩ := List.cons_prefix_cons.mp g
    rw [kn_jn, kn_jn]
    split
    · exact List.cons_prefix_cons.mpr ⟨rfl, kn_jn_mono n h g2⟩
    · exact List.cons_prefix_cons.mpr ⟨rfl, kn_jn_mono n h2 g⟩
theorem kn_sm_mono : ∀ (s : Int32) {a a' : List Int32}, a <+: a' → kn_sm s a <+: kn_sm s a'
  | _, [], _, _ => List.nil_prefix
  | _, x :: a, [], h => by simp at h
  | s, x :: a, x' :: a', h => by
    obtain ⟨rfl, h2⟩ := List.cons_prefix_cons.mp h
    rw [kn_sm, kn_sm]
    exact List.cons_prefix_cons.mpr ⟨rfl, kn_sm_mono _ h2⟩
theorem kn_pr_mono : ∀ {a a' : List Int32}, a <+: a' → kn_pr a <+: kn_pr a'
  | [], _, _ => List.nil_prefix
  | [x], _, _ => List.nil_prefix
  | x :: y :: a, [], h => by simp at h
  | x :: y :: a, [z], h => by simp at h
  | x :: y :: a, x' :: y' :: a', h => by
    obtain ⟨rfl, h2⟩ := List.cons_prefix_cons.mp h
    obtain ⟨rfl, h3⟩ := List.cons_prefix_cons.mp h2
    rw [kn_pr, kn_pr]
    exact List.cons_prefix_cons.mpr ⟨rfl, kn_pr_mono h3⟩
theorem kn_ot_mono (kd nb : Nat) (p q : Int32) {a a' b b' : List Int32} (h : a <+: a') (g : b <+: b') : kn_ot kd nb p q a b <+: kn_ot kd nb p q a' b' := by
  unfold kn_ot
  by_cases h0 : kd = 0
  · rw [if_pos h0, if_pos h0]; exact List.prefix_rfl
  rw [if_neg h0, if_neg h0]
  by_cases h1 : kd = 1
  · rw [if_pos h1, if_pos h1]; exact h
  rw [if_neg h1, if_neg h1]
  by_cases h2 : kd = 2
  · rw [if_pos h2, if_pos h2]; exact kn_pl_mono h g
  rw [if_neg h2, if_neg h2]
  by_cases h3 : kd = 3
  · rw [if_pos h3, if_pos h3]; exact List.cons_prefix_cons.mpr ⟨rfl, h⟩
  rw [if_neg h3, if_neg h3]
  by_cases h4 : kd = 4
  · rw [if_pos h4, if_pos h4]; exact kn_pk_mono p h
  rw [if_neg h4, if_neg h4]
  by_cases h5 : kd = 5
  · rw [if_pos h5, if_pos h5]; exact kn_jn_mono 20 h g
  rw [if_neg h5, if_neg h5]
  by_cases h6 : kd = 6
  · rw [if_pos h6, if_pos h6]; exact kn_sm_mono 0 h
  rw [if_neg h6, if_neg h6]
  exact kn_pr_mono h
theorem kn_take_mono (k : Nat) {a a' : List Int32} (h : a <+: a') : a.take k <+: a'.take k := by
  rw [List.prefix_take_iff]
  exact ⟨(List.take_prefix k a).trans h, by rw [List.length_take]; omega⟩

-- a process: kind, a, b, c, d, number, increment
abbrev kn_P : Type := Nat × Nat × Nat × Nat × Nat × Int32 × Int32
def kn_F (N : Nat → kn_P) (i : Nat) (S : Nat → List Int32) : List Int32 :=
  (kn_ot (N i).1 (N i).2.2.1 (N i).2.2.2.2.2.1 (N i).2.2.2.2.2.2 (S (N i).2.1) (S (N i).2.2.1)).take 20
def kn_W (p : kn_P) (c : Nat) : Prop := c = p.2.2.2.1 ∨ (p.1 = 1 ∧ c = p.2.2.2.2.1)
def kn_R (p : kn_P) (c : Nat) : Prop := (p.1 ≠ 0 ∧ c = p.2.1) ∨ ((p.1 = 2 ∨ p.1 = 5) ∧ c = p.2.2.1)
def kn_ok (p : kn_P) : Prop := p.1 ≤ 7 ∧ p.2.1 < 10 ∧ p.2.2.1 < 13 ∧ (p.1 ≠ 0 → p.2.2.1 < 10) ∧ p.2.2.2.1 < 10 ∧ p.2.2.2.2.1 < 10 ∧ (p.1 = 1 → p.2.2.2.1 ≠ p.2.2.2.2.1)
def kn_le (S T : Nat → List Int32) : Prop := ∀ c, S c <+: T c
theorem kn_F_mono {N : Nat → kn_P} {i : Nat} {S T : Nat → List Int32} (h : kn_le S T) : kn_F N i S <+: kn_F N i T :=
  kn_take_mono 20 (kn_ot_mono _ _ _ _ (h _) (h _))
theorem kn_F_len (N : Nat → kn_P) (i : Nat) (S : Nat → List Int32) : (kn_F N i S).length ≤ 20 := by
  unfold kn_F; rw [List.length_take]; omega
def kn_Cl (N : Nat → kn_P) (n : Nat) (T : Nat → List Int32) : Prop := ∀ i, i < n → ∀ c, kn_W (N i) c → kn_F N i T <+: T c
def kn_In (N : Nat → kn_P) (n : Nat) (S : Nat → List Int32) : Prop :=
  (∀ i, i < n → ∀ c, kn_W (N i) c → S c <+: kn_F N i S) ∧ (∀ T, kn_Cl N n T → kn_le S T) ∧ (∀ c, (∀ i, i < n → ¬ kn_W (N i) c) → S c = [])
def kn_Ls (N : Nat → kn_P) (n : Nat) (S : Nat → List Int32) : Prop := kn_In N n S ∧ kn_Cl N n S
def kn_Un (N : Nat → kn_P) (n : Nat) : Prop := (∀ i, i < n → kn_ok (N i)) ∧ ∀ i j, i < n → j < n → ∀ c, kn_W (N i) c → kn_W (N j) c → i = j
def kn_St (N : Nat → kn_P) (i : Nat) (S S' : Nat → List Int32) : Prop := (∀ c, kn_W (N i) c → S' c = kn_F N i S) ∧ (∀ c, ¬ kn_W (N i) c → S' c = S c)
theorem kn_le_anti {S T : Nat → List Int32} (h : kn_le S T) (g : kn_le T S) : S = T := by
  funext c
  exact (h c).eq_of_length_le (g c).length_le
theorem kn_Ls_eq {N : Nat → kn_P} {n : Nat} {S T : Nat → List Int32} (h : kn_Ls N n S) (g : kn_Ls N n T) : S = T :=
  kn_le_anti (h.1.2.1 T g.2) (g.1.2.1 S h.2)
theorem kn_step_le {N : Nat → kn_P} {n i : Nat} {S S' : Nat → List Int32} (I : kn_In N n S) (hi : i < n) (h : kn_St N i S S') : kn_le S S' := by
  intro c
  by_cases w : kn_W (N i) c
  · rw [h.1 c w]; exact I.1 i hi c w
  · rw [h.2 c w]; exact List.prefix_rfl
theorem kn_step_In {N : Nat → kn_P} {n i : Nat} {S S' : Nat → List Int32} (U : kn_Un N n) (I : kn_In N n S) (hi : i < n) (h : kn_St N i S S') : kn_In N n S' := by
  have L := kn_step_le I hi h
  refine ⟨?_, ?_, ?_⟩
  · intro j hj c w
    by_cases w' : kn_W (N i) c
    · have e : j = i := U.2 j i hj hi c w w'
      rw [h.1 c w', e]
      exact kn_F_mono L
    · rw [h.2 c w']
      exact (I.1 j hj c w).trans (kn_F_mono L)
  · intro T hT c
    by_cases w : kn_W (N i) c
    · rw [h.1 c w]
      exact (kn_F_mono (I.2.1 T hT)).trans (hT i hi c w)
    · rw [h.2 c w]; exact I.2.1 T hT c
  · intro c hc
    rw [h.2 c (hc i hi)]
    exact I.2.2 c hc
theorem kn_W_lt {p : kn_P} (h : kn_ok p) {c : Nat} (w : kn_W p c) : c < 10 := by
  rcases w with w | w
  · rw [w]; exact h.2.2.2.2.1
  · rw [w.2]; exact h.2.2.2.2.2.1
theorem kn_In_big {N : Nat → kn_P} {n : Nat} {S : Nat → List Int32} (U : kn_Un N n) (I : kn_In N n S) {c : Nat} (h : 10 ≤ c) : S c = [] :=
  I.2.2 c (fun i hi w => absurd (kn_W_lt (U.1 i hi) w) (by omega))
theorem kn_In_len {N : Nat → kn_P} {n : Nat} {S : Nat → List Int32} (I : kn_In N n S) (c : Nat) : (S c).length ≤ 20 := by
  by_cases h : ∃ i, i < n ∧ kn_W (N i) c
  · obtain ⟨i, hi, w⟩ := h
    exact Nat.le_trans (I.1 i hi c w).length_le (kn_F_len N i S)
  · rw [I.2.2 c (fun i hi w => h ⟨i, hi, w⟩)]; simp
def kn_tot (S : Nat → List Int32) : Nat → Nat
  | 0 => 0
  | c + 1 => kn_tot S c + (S c).length
theorem kn_tot_le {S T : Nat → List Int32} (h : kn_le S T) : ∀ m, kn_tot S m ≤ kn_tot T m
  | 0 => Nat.le_refl _
  | m + 1 => Nat.add_le_add (kn_tot_le h m) (h m).length_le
theorem kn_tot_eq {S T : Nat → List Int32} (h : kn_le S T) : ∀ m, kn_tot S m = kn_tot T m → ∀ c, c < m → S c = T c
  | 0, _, _, hc => absurd hc (Nat.not_lt_zero _)
  | m + 1, e, c, hc => by
    have h1 := kn_tot_le h m
    have h2 := (h m).length_le
    have e' : kn_tot S m + (S m).length = kn_tot T m + (T m).length := e
    by_cases z : c = m
    · rw [z]; exact (h m).eq_of_length (by omega)
    · exact kn_tot_eq h m (by omega) c (by omega)
theorem kn_tot_bd {S : Nat → List Int32} (h : ∀ c, (S c).length ≤ 20) : ∀ m, kn_tot S m ≤ 20 * m
  | 0 => Nat.le_refl _
  | m + 1 => by
    have h1 := kn_tot_bd h m
    have h2 := h m
    show kn_tot S m + (S m).length ≤ _
    omega
theorem kn_tot_same {N : Nat → kn_P} {n : Nat} {S T : Nat → List Int32} (U : kn_Un N n) (I : kn_In N n S) (J : kn_In N n T) (h : kn_le S T) (e : kn_tot S 10 = kn_tot T 10) : S = T := by
  funext c
  by_cases z : c < 10
  · exact kn_tot_eq h 10 e c z
  · rw [kn_In_big U I (by omega), kn_In_big U J (by omega)]
-- a round from S, after i processes at T
def kn_Rd (N : Nat → kn_P) (n : Nat) (S : Nat → List Int32) (i : Nat) (T : Nat → List Int32) : Prop :=
  kn_In N n S ∧ kn_In N n T ∧ kn_le S T ∧ ∀ j, j < i → kn_tot T 10 = kn_tot S 10 → ∀ c, kn_W (N j) c → S c = kn_F N j S
theorem kn_Rd_0 {N : Nat → kn_P} {n : Nat} {S : Nat → List Int32} (I : kn_In N n S) : kn_Rd N n S 0 S :=
  ⟨I, I, fun _ => List.prefix_rfl, fun _ h => absurd h (Nat.not_lt_zero _)⟩
theorem kn_le_trans {S T R : Nat → List Int32} (h : kn_le S T) (g : kn_le T R) : kn_le S R := fun c => (h c).trans (g c)
theorem kn_Rd_s {N : Nat → kn_P} {n i : Nat} {S T T' : Nat → List Int32} (U : kn_Un N n) (R : kn_Rd N n S i T) (hi : i < n) (h : kn_St N i T T') : kn_Rd N n S (i + 1) T' := by
  obtain ⟨I, J, L, K⟩ := R
  have L' := kn_step_le J hi h
  have J' := kn_step_In U J hi h
  refine ⟨I, J', kn_le_trans L L', ?_⟩
  intro j hj e c w
  have t1 := kn_tot_le L 10
  have t2 := kn_tot_le L' 10
  by_cases z : j = i
  · have e1 : S = T := kn_tot_same U I J L (by omega)
    have e2 : T = T' := kn_tot_same U J J' L' (by omega)
    subst z
    have a1 := h.1 c w
    rw [← e2, ← e1] at a1
    exact a1
  · exact K j (by omega) (by omega) c w
theorem kn_Rd_e {N : Nat → kn_P} {n : Nat} {S T : Nat → List Int32} (U : kn_Un N n) (R : kn_Rd N n S n T) (e : kn_tot T 10 = kn_tot S 10) : kn_Ls N n T := by
  obtain ⟨I, J, L, K⟩ := R
  have e1 : S = T := kn_tot_same U I J L e.symm
  refine ⟨J, ?_⟩
  intro i hi c w
  rw [← e1, ← K i hi e c w]
  exact List.prefix_rfl
theorem kn_tot_lt {S T : Nat → List Int32} (h : kn_le S T) {c : Nat} (l : (S c).length < (T c).length) : ∀ m, c < m → kn_tot S m < kn_tot T m
  | 0, hc => absurd hc (Nat.not_lt_zero _)
  | m + 1, hc => by
    have h1 := kn_tot_le h m
    have h2 := (h m).length_le
    show kn_tot S m + (S m).length < kn_tot T m + (T m).length
    by_cases z : c = m
    · subst z; omega
    · have := kn_tot_lt h l m (by omega)
      omega
-- the empty streams, and one process more
theorem kn_In_0 (N : Nat → kn_P) (n : Nat) : kn_In N n (fun _ => []) :=
  ⟨fun _ _ _ _ => List.nil_prefix, fun _ _ _ => List.nil_prefix, fun _ _ => rfl⟩
theorem kn_Ls_0 (N : Nat → kn_P) : kn_Ls N 0 (fun _ => []) := ⟨kn_In_0 N 0, fun _ h => absurd h (Nat.not_lt_zero _)⟩
def kn_ad (N : Nat → kn_P) (n : Nat) (p : kn_P) : Nat → kn_P := fun i => if i = n then p else N i
theorem kn_ad_n (N : Nat → kn_P) (n : Nat) (p : kn_P) : kn_ad N n p n = p := if_pos rfl
theorem kn_ad_o {N : Nat → kn_P} {n : Nat} {p : kn_P} {i : Nat} (h : i < n) : kn_ad N n p i = N i := if_neg (by omega)
theorem kn_F_ad {N : Nat → kn_P} {n : Nat} {p : kn_P} {i : Nat} (h : i < n) (S : Nat → List Int32) : kn_F (kn_ad N n p) i S = kn_F N i S := by
  unfold kn_F; rw [kn_ad_o h]
theorem kn_In_ad {N : Nat → kn_P} {n : Nat} {p : kn_P} {S : Nat → List Int32} (L : kn_Ls N n S) (hf : ∀ c, kn_W p c → ∀ i, i < n → ¬ kn_W (N i) c) : kn_In (kn_ad N n p) (n + 1) S := by
  refine ⟨?_, ?_, ?_⟩
  · intro i hi c w
    by_cases z : i = n
    · rw [z, kn_ad_n] at w
      rw [L.1.2.2 c (hf c w)]
      exact List.nil_prefix
    · have hi' : i < n := by omega
      rw [kn_ad_o hi'] at w
      rw [kn_F_ad hi']
      exact L.1.1 i hi' c w
  · intro T hT
    refine L.1.2.1 T ?_
    intro i hi c w
    have := hT i (by omega) c (by rw [kn_ad_o hi]; exact w)
    rw [kn_F_ad hi] at this
    exact this
  · intro c hc
    refine L.1.2.2 c ?_
    intro i hi w
    exact hc i (by omega) (by rw [kn_ad_o hi]; exact w)
theorem kn_Un_ad {N : Nat → kn_P} {n : Nat} {p : kn_P} (U : kn_Un N n) (hp : kn_ok p) (hf : ∀ c, kn_W p c → ∀ i, i < n → ¬ kn_W (N i) c) : kn_Un (kn_ad N n p) (n + 1) := by
  refine ⟨?_, ?_⟩
  · intro i hi
    by_cases z : i = n
    · rw [z, kn_ad_n]; exact hp
    · rw [kn_ad_o (by omega)]; exact U.1 i (by omega)
  · intro i j hi hj c w w'
    by_cases z : i = n
    · by_cases z' : j = n
      · omega
      · rw [z, kn_ad_n] at w
        rw [kn_ad_o (by omega)] at w'
        exact absurd w' (hf c w j (by omega))
    · rw [kn_ad_o (by omega)] at w
      by_cases z' : j = n
      · rw [z', kn_ad_n] at w'
        exact absurd w (hf c w' i (by omega))
      · rw [kn_ad_o (by omega)] at w'
        exact U.2 i j (by omega) (by omega) c w w'
