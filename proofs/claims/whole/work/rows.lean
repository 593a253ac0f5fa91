section
-- rows of the kit, pasted
theorem pk_us {f : Nat → Int32} {k : Nat} {x : Int32} : upd f k x k = x := if_pos rfl
theorem pk_un {f : Nat → Int32} {k j : Nat} {x : Int32} (h : j ≠ k) : upd f k x j = f j := if_neg h
theorem pk_sub {a b : Nat} (h : b ≤ a) : nI a - nI b = nI (a - b) := by
  obtain ⟨c, rfl⟩ : ∃ c, a = c + b := ⟨a - b, by omega⟩
  rw [← nI_add, Int32.add_sub_cancel, Nat.add_sub_cancel]
theorem pk_mul (a b : Nat) : nI a * nI b = nI (a * b) := (Int32.ofNat_mul a b).symm
theorem pk_div {a d : Nat} (ha : a < 2 ^ 31) (h0 : 0 < d) (hd : d < 2 ^ 31) : nI a / nI d = nI (a / d) := by
  apply Int32.toInt_inj.mp
  rw [lg_idiv_nonneg (by rw [nI_toInt ha]; omega) (by rw [nI_toInt hd]; omega), nI_toInt ha, nI_toInt hd, nI_toInt (Nat.lt_of_le_of_lt (Nat.div_le_self a d) ha)]
  first | rfl | exact (Int.natCast_ediv _ _).symm
theorem pk_rem {a d : Nat} (ha : a < 2 ^ 31) (h0 : 0 < d) (hd : d < 2 ^ 31) : nI a - nI a / nI d * nI d = nI (a % d) := by
  rw [pk_div ha h0 hd, pk_mul, pk_sub (Nat.div_mul_le_self a d)]
  exact congrArg nI (by have := Nat.div_add_mod' a d; omega)
theorem pk_ix (x : Int32) {n : Nat} (hn : n < 2 ^ 31) : x < 0 ∨ nI n ≤ x ∨ ∃ j : Nat, j < n ∧ x = nI j := by
  by_cases h : x < 0
  · exact Or.inl h
  · obtain ⟨j, hj, rfl⟩ := nI_of h
    by_cases h2 : j < n
    · exact Or.inr (Or.inr ⟨j, h2, rfl⟩)
    · exact Or.inr (Or.inl (nI_le (by omega) hj))
theorem pk_le {x y : Int32} {A B : Prop} (a b : Nat) (f : a ≤ b → A) (g : b < a → B) (hx : x = nI a := by rfl) (hy : y = nI b := by rfl) (ha : a < 2 ^ 31 := by omega) (hb : b < 2 ^ 31 := by omega) : (x ≤ y → A) ∧ (¬ x ≤ y → B) := by
  subst hx hy
  rw [nI_leI ha hb]
  exact ⟨f, fun z => g (by omega)⟩
theorem pk_lt {x y : Int32} {A B : Prop} (a b : Nat) (f : a < b → A) (g : b ≤ a → B) (hx : x = nI a := by rfl) (hy : y = nI b := by rfl) (ha : a < 2 ^ 31 := by omega) (hb : b < 2 ^ 31 := by omega) : (x < y → A) ∧ (¬ x < y → B) := by
  subst hx hy
  rw [nI_ltI ha hb]
  exact ⟨f, fun z => g (by omega)⟩
theorem pk_eq {x y : Int32} {A B : Prop} (a b : Nat) (f : a = b → A) (g : a ≠ b → B) (hx : x = nI a := by rfl) (hy : y = nI b := by rfl) (ha : a < 2 ^ 31 := by omega) (hb : b < 2 ^ 31 := by omega) : (x = y → A) ∧ (¬ x = y → B) := by
  subst hx hy
  rw [nI_eq ha hb]
  exact ⟨f, g⟩
theorem pk_in {x : Int32} (n N : Nat) (h : n < N) (hx : x = nI n := by rfl) (hN : N < 2 ^ 31 := by omega) : vp_in x N := by
  subst hx
  exact vp_in_nI h hN
theorem pk_cl {x : Int32} (n : Nat) (hx : x = nI n := by rfl) (h : n < 2 ^ 31 := by omega) : x.toNatClampNeg = n := by
  subst hx
  exact nI_clamp h

-- what each kind writes, as lists
def kn_sr (p q : Int32) : Nat → Nat → List Int32
  | 0, _ => []
  | m + 1, k => (p + nI k * q) :: kn_sr p q m (k + 1)
def kn_pl : List Int32 → List Int32 → List Int32
  | x :: a, y :: b => (x + y) :: kn_pl a b
  | _, _ => []
def kn_pk (m : Int32) : List Int32 → List Int32
  | [] => []
  | x :: a => if x &&& m = 0 then x :: kn_pk m a else kn_pk m a
def kn_jn : Nat → List Int32 → List Int32 → List Int32
  | n + 1, x :: a, y :: b => if y < x then y :: kn_jn n (x :: a) b else x :: kn_jn n a (y :: b)
  | _, _, _ => []
def kn_sm : Int32 → List Int32 → List Int32
  | _, [] => []
  | s, x :: a => (s + x) :: kn_sm (s + x) a
def kn_pr : List Int32 → List Int32
  | x :: y :: a => (x - y) :: kn_pr a
  | _ => []
def kn_ot (kd nb : Nat) (p q : Int32) (a b : List Int32) : List Int32 :=
  if kd = 0 then kn_sr p q nb 0 else if kd = 1 then a else if kd = 2 then kn_pl a b else if kd = 3 then p :: a
  else if kd = 4 then kn_pk p a else if kd = 5 then kn_jn 20 a b else if kd = 6 then kn_sm 0 a else kn_pr a

theorem kn_pl_mono : ∀ {a a' b b' : List Int32}, a <+: a' → b <+: b' → kn_pl a b <+: kn_pl a' b'
  | [], _, _, _, _, _ => by rw [kn_pl] <;> simp
  | x :: a, _, [], _, _, _ => by rw [kn_pl] <;> simp
  | x :: a, [], y :: b, _, h, _ => by simp at h
  | x :: a, x' :: a', y :: b, [], _, h => by simp at h
  | x :: a, x' :: a', y :: b, y' :: b', h, g => by
    obtain ⟨rfl, h2⟩ := List.cons_prefix_cons.mp h
    obtain ⟨rfl, g2⟩ := List.cons_prefix_cons.mp g
    rw [kn_pl, kn_pl]
    exact List.cons_prefix_cons.mpr ⟨rfl, kn_pl_mono h2 g2⟩
theorem kn_pk_mono (m : Int32) : ∀ {a a' : List Int32}, a <+: a' → kn_pk m a <+: kn_pk m a'
  | [], _, _ => List.nil_prefix
  | x :: a, [], h => by simp at h
  | x :: a, x' :: a', h => by
    obtain ⟨rfl, h2⟩ := List.cons_prefix_cons.mp h
    rw [kn_pk, kn_pk]
    split
    · exact List.cons_prefix_cons.mpr ⟨rfl, kn_pk_mono m h2⟩
    · exact kn_pk_mono m h2
theorem kn_jn_nil_l (n : Nat) (b : List Int32) : kn_jn n [] b = [] := by cases n <;> rfl
theorem kn_jn_nil_r (n : Nat) (a : List Int32) : kn_jn n a [] = [] := by cases n <;> cases a <;> rfl
theorem kn_jn_mono : ∀ (n : Nat) {a a' b b' : List Int32}, a <+: a' → b <+: b' → kn_jn n a b <+: kn_jn n a' b'
  | 0, a, a', b, b', _, _ => by
    have e : kn_jn 0 a b = [] := by cases a <;> cases b <;> rfl
    rw [e]; exact List.nil_prefix
  | n + 1, [], _, _, _, _, _ => by rw [kn_jn_nil_l]; exact List.nil_prefix
  | n + 1, x :: a, _, [], _, _, _ => by rw [kn_jn_nil_r]; exact List.nil_prefix
  | n + 1, x :: a, [], y :: b, _, h, _ => by simp at h
  | n + 1, x :: a, x' :: a', y :: b, [], _, h => by simp at h
  | n + 1, x :: a, x' :: a', y :: b, y' :: b', h, g => by
    obtain ⟨rfl, h2⟩ := List.cons_prefix_cons.mp h
    obtain ⟨rfl, g2⟩ := List.cons_prefix_cons.mp g
    rw [kn_jn, kn_jn]
    split
    · exact List.cons_prefix_cons.mpr ⟨rfl, kn_jn_mono n h g2⟩
    · exact List.cons_prefix_cons.mpr ⟨rfl, kn_jn_mono n h2 g⟩
theorem kn_sm_mono : ∀ (s : Int32) {a a' : List Int32}, a <+: a' → kn_sm s a <+: kn_sm s a'
  | _, [], _, _ => List.nil_prefix
  | _, x :: a, [], h => by simp at h
  | s, x :: a, x' :: a', h => by
    obtain ⟨rfl, h2⟩ := List.cons_prefix_cons.mp h
    rw [kn_sm, kn_sm]
    exact List.cons_prefix_cons.mpr ⟨rfl, kn_sm_mono _ h2⟩
theorem kn_pr_mono : ∀ {a a' : List Int32}, a <+: a' → kn_pr a <+: kn_pr a'
  | [], _, _ => List.nil_prefix
  | [x], _, _ => List.nil_prefix
  | x :: y :: a, [], h => by simp at h
  | x :: y :: a, [z], h => by simp at h
  | x :: y :: a, x' :: y' :: a', h => by
    obtain ⟨rfl, h2⟩ := List.cons_prefix_cons.mp h
    obtain ⟨rfl, h3⟩ := List.cons_prefix_cons.mp h2
    rw [kn_pr, kn_pr]
    exact List.cons_prefix_cons.mpr ⟨rfl, kn_pr_mono h3⟩
theorem kn_ot_mono (kd nb : Nat) (p q : Int32) {a a' b b' : List Int32} (h : a <+: a') (g : b <+: b') : kn_ot kd nb p q a b <+: kn_ot kd nb p q a' b' := by
  unfold kn_ot
  by_cases h0 : kd = 0
  · rw [if_pos h0, if_pos h0]; exact List.prefix_rfl
  rw [if_neg h0, if_neg h0]
  by_cases h1 : kd = 1
  · rw [if_pos h1, if_pos h1]; exact h
  rw [if_neg h1, if_neg h1]
  by_cases h2 : kd = 2
  · rw [if_pos h2, if_pos h2]; exact kn_pl_mono h g
  rw [if_neg h2, if_neg h2]
  by_cases h3 : kd = 3
  · rw [if_pos h3, if_pos h3]; exact List.cons_prefix_cons.mpr ⟨rfl, h⟩
  rw [if_neg h3, if_neg h3]
  by_cases h4 : kd = 4
  · rw [if_pos h4, if_pos h4]; exact kn_pk_mono p h
  rw [if_neg h4, if_neg h4]
  by_cases h5 : kd = 5
  · rw [if_pos h5, if_pos h5]; exact kn_jn_mono 20 h g
  rw [if_neg h5, if_neg h5]
  by_cases h6 : kd = 6
  · rw [if_pos h6, if_pos h6]; exact kn_sm_mono 0 h
  rw [if_neg h6, if_neg h6]
  exact kn_pr_mono h
theorem kn_take_mono (k : Nat) {a a' : List Int32} (h : a <+: a') : a.take k <+: a'.take k := by
  rw [List.prefix_take_iff]
  exact ⟨(List.take_prefix k a).trans h, by rw [List.length_take]; omega⟩

-- a process: kind, a, b, c, d, number, increment
abbrev kn_P : Type := Nat × Nat × Nat × Nat × Nat × Int32 × Int32
def kn_F (N : Nat → kn_P) (i : Nat) (S : Nat → List Int32) : List Int32 :=
  (kn_ot (N i).1 (N i).2.2.1 (N i).2.2.2.2.2.1 (N i).2.2.2.2.2.2 (S (N i).2.1) (S (N i).2.2.1)).take 20
def kn_W (p : kn_P) (c : Nat) : Prop := c = p.2.2.2.1 ∨ (p.1 = 1 ∧ c = p.2.2.2.2.1)
def kn_R (p : kn_P) (c : Nat) : Prop := (p.1 ≠ 0 ∧ c = p.2.1) ∨ ((p.1 = 2 ∨ p.1 = 5) ∧ c = p.2.2.1)
def kn_ok (p : kn_P) : Prop := p.1 ≤ 7 ∧ p.2.1 < 10 ∧ p.2.2.1 < 13 ∧ (p.1 ≠ 0 → p.2.2.1 < 10) ∧ p.2.2.2.1 < 10 ∧ p.2.2.2.2.1 < 10 ∧ (p.1 = 1 → p.2.2.2.1 ≠ p.2.2.2.2.1)
def kn_le (S T : Nat → List Int32) : Prop := ∀ c, S c <+: T c
theorem kn_F_mono {N : Nat → kn_P} {i : Nat} {S T : Nat → List Int32} (h : kn_le S T) : kn_F N i S <+: kn_F N i T :=
  kn_take_mono 20 (kn_ot_mono _ _ _ _ (h _) (h _))
theorem kn_F_len (N : Nat → kn_P) (i : Nat) (S : Nat → List Int32) : (kn_F N i S).length ≤ 20 := by
  unfold kn_F; rw [List.length_take]; omega
def kn_Cl (N : Nat → kn_P) (n : Nat) (T : Nat → List Int32) : Prop := ∀ i, i < n → ∀ c, kn_W (N i) c → kn_F N i T <+: T c
def kn_In (N : Nat → kn_P) (n : Nat) (S : Nat → List Int32) : Prop :=
  (∀ i, i < n → ∀ c, kn_W (N i) c → S c <+: kn_F N i S) ∧ (∀ T, kn_Cl N n T → kn_le S T) ∧ (∀ c, (∀ i, i < n → ¬ kn_W (N i) c) → S c = [])
def kn_Ls (N : Nat → kn_P) (n : Nat) (S : Nat → List Int32) : Prop := kn_In N n S ∧ kn_Cl N n S
def kn_Un (N : Nat → kn_P) (n : Nat) : Prop := (∀ i, i < n → kn_ok (N i)) ∧ ∀ i j, i < n → j < n → ∀ c, kn_W (N i) c → kn_W (N j) c → i = j
def kn_St (N : Nat → kn_P) (i : Nat) (S S' : Nat → List Int32) : Prop := (∀ c, kn_W (N i) c → S' c = kn_F N i S) ∧ (∀ c, ¬ kn_W (N i) c → S' c = S c)
theorem kn_le_anti {S T : Nat → List Int32} (h : kn_le S T) (g : kn_le T S) : S = T := by
  funext c
  exact (h c).eq_of_length_le (g c).length_le
theorem kn_Ls_eq {N : Nat → kn_P} {n : Nat} {S T : Nat → List Int32} (h : kn_Ls N n S) (g : kn_Ls N n T) : S = T :=
  kn_le_anti (h.1.2.1 T g.2) (g.1.2.1 S h.2)
theorem kn_step_le {N : Nat → kn_P} {n i : Nat} {S S' : Nat → List Int32} (I : kn_In N n S) (hi : i < n) (h : kn_St N i S S') : kn_le S S' := by
  intro c
  by_cases w : kn_W (N i) c
  · rw [h.1 c w]; exact I.1 i hi c w
  · rw [h.2 c w]; exact List.prefix_rfl
theorem kn_step_In {N : Nat → kn_P} {n i : Nat} {S S' : Nat → List Int32} (U : kn_Un N n) (I : kn_In N n S) (hi : i < n) (h : kn_St N i S S') : kn_In N n S' := by
  have L := kn_step_le I hi h
  refine ⟨?_, ?_, ?_⟩
  · intro j hj c w
    by_cases w' : kn_W (N i) c
    · have e : j = i := U.2 j i hj hi c w w'
      rw [h.1 c w', e]
      exact kn_F_mono L
    · rw [h.2 c w']
      exact (I.1 j hj c w).trans (kn_F_mono L)
  · intro T hT c
    by_cases w : kn_W (N i) c
    · rw [h.1 c w]
      exact (kn_F_mono (I.2.1 T hT)).trans (hT i hi c w)
    · rw [h.2 c w]; exact I.2.1 T hT c
  · intro c hc
    rw [h.2 c (hc i hi)]
    exact I.2.2 c hc
theorem kn_W_lt {p : kn_P} (h : kn_ok p) {c : Nat} (w : kn_W p c) : c < 10 := by
  rcases w with w | w
  · rw [w]; exact h.2.2.2.2.1
  · rw [w.2]; exact h.2.2.2.2.2.1
theorem kn_In_big {N : Nat → kn_P} {n : Nat} {S : Nat → List Int32} (U : kn_Un N n) (I : kn_In N n S) {c : Nat} (h : 10 ≤ c) : S c = [] :=
  I.2.2 c (fun i hi w => absurd (kn_W_lt (U.1 i hi) w) (by omega))
theorem kn_In_len {N : Nat → kn_P} {n : Nat} {S : Nat → List Int32} (I : kn_In N n S) (c : Nat) : (S c).length ≤ 20 := by
  by_cases h : ∃ i, i < n ∧ kn_W (N i) c
  · obtain ⟨i, hi, w⟩ := h
    exact Nat.le_trans (I.1 i hi c w).length_le (kn_F_len N i S)
  · rw [I.2.2 c (fun i hi w => h ⟨i, hi, w⟩)]; simp
def kn_tot (S : Nat → List Int32) : Nat → Nat
  | 0 => 0
  | c + 1 => kn_tot S c + (S c).length
theorem kn_tot_le {S T : Nat → List Int32} (h : kn_le S T) : ∀ m, kn_tot S m ≤ kn_tot T m
  | 0 => Nat.le_refl _
  | m + 1 => Nat.add_le_add (kn_tot_le h m) (h m).length_le
theorem kn_tot_eq {S T : Nat → List Int32} (h : kn_le S T) : ∀ m, kn_tot S m = kn_tot T m → ∀ c, c < m → S c = T c
  | 0, _, _, hc => absurd hc (Nat.not_lt_zero _)
  | m + 1, e, c, hc => by
    have h1 := kn_tot_le h m
    have h2 := (h m).length_le
    have e' : kn_tot S m + (S m).length = kn_tot T m + (T m).length := e
    by_cases z : c = m
    · rw [z]; exact (h m).eq_of_length (by omega)
    · exact kn_tot_eq h m (by omega) c (by omega)
theorem kn_tot_bd {S : Nat → List Int32} (h : ∀ c, (S c).length ≤ 20) : ∀ m, kn_tot S m ≤ 20 * m
  | 0 => Nat.le_refl _
  | m + 1 => by
    have h1 := kn_tot_bd h m
    have h2 := h m
    show kn_tot S m + (S m).length ≤ _
    omega
theorem kn_tot_same {N : Nat → kn_P} {n : Nat} {S T : Nat → List Int32} (U : kn_Un N n) (I : kn_In N n S) (J : kn_In N n T) (h : kn_le S T) (e : kn_tot S 10 = kn_tot T 10) : S = T := by
  funext c
  by_cases z : c < 10
  · exact kn_tot_eq h 10 e c z
  · rw [kn_In_big U I (by omega), kn_In_big U J (by omega)]
-- a round from S, after i processes at T
def kn_Rd (N : Nat → kn_P) (n : Nat) (S : Nat → List Int32) (i : Nat) (T : Nat → List Int32) : Prop :=
  kn_In N n S ∧ kn_In N n T ∧ kn_le S T ∧ ∀ j, j < i → kn_tot T 10 = kn_tot S 10 → ∀ c, kn_W (N j) c → S c = kn_F N j S
theorem kn_Rd_0 {N : Nat → kn_P} {n : Nat} {S : Nat → List Int32} (I : kn_In N n S) : kn_Rd N n S 0 S :=
  ⟨I, I, fun _ => List.prefix_rfl, fun _ h => absurd h (Nat.not_lt_zero _)⟩
theorem kn_le_trans {S T R : Nat → List Int32} (h : kn_le S T) (g : kn_le T R) : kn_le S R := fun c => (h c).trans (g c)
theorem kn_Rd_s {N : Nat → kn_P} {n i : Nat} {S T T' : Nat → List Int32} (U : kn_Un N n) (R : kn_Rd N n S i T) (hi : i < n) (h : kn_St N i T T') : kn_Rd N n S (i + 1) T' := by
  obtain ⟨I, J, L, K⟩ := R
  have L' := kn_step_le J hi h
  have J' := kn_step_In U J hi h
  refine ⟨I, J', kn_le_trans L L', ?_⟩
  intro j hj e c w
  have t1 := kn_tot_le L 10
  have t2 := kn_tot_le L' 10
  by_cases z : j = i
  · have e1 : S = T := kn_tot_same U I J L (by omega)
    have e2 : T = T' := kn_tot_same U J J' L' (by omega)
    subst z
    have a1 := h.1 c w
    rw [← e2, ← e1] at a1
    exact a1
  · exact K j (by omega) (by omega) c w
theorem kn_Rd_e {N : Nat → kn_P} {n : Nat} {S T : Nat → List Int32} (U : kn_Un N n) (R : kn_Rd N n S n T) (e : kn_tot T 10 = kn_tot S 10) : kn_Ls N n T := by
  obtain ⟨I, J, L, K⟩ := R
  have e1 : S = T := kn_tot_same U I J L e.symm
  refine ⟨J, ?_⟩
  intro i hi c w
  rw [← e1, ← K i hi e c w]
  exact List.prefix_rfl
theorem kn_tot_lt {S T : Nat → List Int32} (h : kn_le S T) {c : Nat} (l : (S c).length < (T c).length) : ∀ m, c < m → kn_tot S m < kn_tot T m
  | 0, hc => absurd hc (Nat.not_lt_zero _)
  | m + 1, hc => by
    have h1 := kn_tot_le h m
    have h2 := (h m).length_le
    show kn_tot S m + (S m).length < kn_tot T m + (T m).length
    by_cases z : c = m
    · subst z; omega
    · have := kn_tot_lt h l m (by omega)
      omega
-- the empty streams, and one process more
theorem kn_In_0 (N : Nat → kn_P) (n : Nat) : kn_In N n (fun _ => []) :=
  ⟨fun _ _ _ _ => List.nil_prefix, fun _ _ _ => List.nil_prefix, fun _ _ => rfl⟩
theorem kn_Ls_0 (N : Nat → kn_P) : kn_Ls N 0 (fun _ => []) := ⟨kn_In_0 N 0, fun _ h => absurd h (Nat.not_lt_zero _)⟩
def kn_ad (N : Nat → kn_P) (n : Nat) (p : kn_P) : Nat → kn_P := fun i => if i = n then p else N i
theorem kn_ad_n (N : Nat → kn_P) (n : Nat) (p : kn_P) : kn_ad N n p n = p := if_pos rfl
theorem kn_ad_o {N : Nat → kn_P} {n : Nat} {p : kn_P} {i : Nat} (h : i < n) : kn_ad N n p i = N i := if_neg (by omega)
theorem kn_F_ad {N : Nat → kn_P} {n : Nat} {p : kn_P} {i : Nat} (h : i < n) (S : Nat → List Int32) : kn_F (kn_ad N n p) i S = kn_F N i S := by
  unfold kn_F; rw [kn_ad_o h]
theorem kn_In_ad {N : Nat → kn_P} {n : Nat} {p : kn_P} {S : Nat → List Int32} (L : kn_Ls N n S) (hf : ∀ c, kn_W p c → ∀ i, i < n → ¬ kn_W (N i) c) : kn_In (kn_ad N n p) (n + 1) S := by
  refine ⟨?_, ?_, ?_⟩
  · intro i hi c w
    by_cases z : i = n
    · rw [z, kn_ad_n] at w
      rw [L.1.2.2 c (hf c w)]
      exact List.nil_prefix
    · have hi' : i < n := by omega
      rw [kn_ad_o hi'] at w
      rw [kn_F_ad hi']
      exact L.1.1 i hi' c w
  · intro T hT
    refine L.1.2.1 T ?_
    intro i hi c w
    have := hT i (by omega) c (by rw [kn_ad_o hi]; exact w)
    rw [kn_F_ad hi] at this
    exact this
  · intro c hc
    refine L.1.2.2 c ?_
    intro i hi w
    exact hc i (by omega) (by rw [kn_ad_o hi]; exact w)
theorem kn_Un_ad {N : Nat → kn_P} {n : Nat} {p : kn_P} (U : kn_Un N n) (hp : kn_ok p) (hf : ∀ c, kn_W p c → ∀ i, i < n → ¬ kn_W (N i) c) : kn_Un (kn_ad N n p) (n + 1) := by
  refine ⟨?_, ?_⟩
  · intro i hi
    by_cases z : i = n
    · rw [z, kn_ad_n]; exact hp
    · rw [kn_ad_o (by omega)]; exact U.1 i (by omega)
  · intro i j hi hj c w w'
    by_cases z : i = n
    · by_cases z' : j = n
      · omega
      · rw [z, kn_ad_n] at w
        rw [kn_ad_o (by omega)] at w'
        exact absurd w' (hf c w j (by omega))
    · rw [kn_ad_o (by omega)] at w
      by_cases z' : j = n
      · rw [z', kn_ad_n] at w'
        exact absurd w (hf c w' i (by omega))
      · rw [kn_ad_o (by omega)] at w'
        exact U.2 i j (by omega) (by omega) c w w'
end
section
-- an array of lengths and an array of cells hold the streams S
def kn_Rp (S : Nat → List Int32) (l d : Nat → Int32) : Prop :=
  ∀ c, c < 10 → (S c).length ≤ 20 ∧ l c = nI (S c).length ∧ ∀ k (h : k < (S c).length), d (20 * c + k) = (S c)[k]
def kn_up (S : Nat → List Int32) (c : Nat) (o : List Int32) : Nat → List Int32 := fun j => if j = c then o else S j
theorem kn_up_s (S : Nat → List Int32) (c : Nat) (o : List Int32) : kn_up S c o c = o := if_pos rfl
theorem kn_up_o {S : Nat → List Int32} {c j : Nat} {o : List Int32} (h : j ≠ c) : kn_up S c o j = S j := if_neg h
-- channel c after the ints e of e ++ r have been put
def kn_xs (S : Nat → List Int32) (c : Nat) (e r : List Int32) : Nat → List Int32 :=
  kn_up S c (((e ++ r).take 20).take (max (S c).length e.length))
theorem kn_app (e : List Int32) (x : Int32) (r : List Int32) : e ++ x :: r = (e ++ [x]) ++ r := by simp
theorem kn_xs_0 {S : Nat → List Int32} {c : Nat} {r : List Int32} (h : S c <+: r.take 20) : kn_xs S c [] r = S := by
  funext j
  by_cases z : j = c
  · subst z
    unfold kn_xs
    rw [kn_up_s]
    show List.take (max (S j).length 0) (List.take 20 r) = S j
    rw [Nat.max_eq_left (Nat.zero_le _)]
    exact (List.prefix_iff_eq_take.mp h).symm
  · exact kn_up_o z
theorem kn_xs_e {S : Nat → List Int32} {c : Nat} {e r : List Int32} (h : r = [] ∨ 20 ≤ e.length) : kn_xs S c e r = kn_up S c ((e ++ r).take 20) := by
  unfold kn_xs
  rw [List.take_of_length_le]
  rw [List.length_take, List.length_append]
  rcases h with h | h
  · subst h
    simp only [List.length_nil]
    omega
  · omega
theorem kn_xs_pre {S : Nat → List Int32} {c : Nat} {e r : List Int32} (h : S c <+: (e ++ r).take 20) : kn_le S (kn_xs S c e r) := by
  intro j
  by_cases z : j = c
  · subst z
    unfold kn_xs
    rw [kn_up_s, List.prefix_take_iff]
    exact ⟨h, by omega⟩
  · unfold kn_xs
    rw [kn_up_o z]
    exact List.prefix_rfl
theorem kn_xs_o {S : Nat → List Int32} {c j : Nat} {e r : List Int32} (h : j ≠ c) : kn_xs S c e r j = S j := kn_up_o h
theorem kn_xs_s (S : Nat → List Int32) (c : Nat) (e r : List Int32) : kn_xs S c e r c = ((e ++ r).take 20).take (max (S c).length e.length) := kn_up_s _ _ _
theorem kn_pt_y {S : Nat → List Int32} {c : Nat} {e r : List Int32} {x : Int32} (h : (S c).length ≤ e.length) (h2 : e.length < 20) :
    (kn_xs S c e (x :: r) c).length = e.length ∧ kn_xs S c (e ++ [x]) r c = kn_xs S c e (x :: r) c ++ [x] := by
  have lo : (e ++ x :: r).length = e.length + (r.length + 1) := by rw [List.length_append]; rfl
  have l2 : e.length < ((e ++ x :: r).take 20).length := by rw [List.length_take, lo]; omega
  rw [kn_xs_s, kn_xs_s, ← kn_app, Nat.max_eq_right h]
  have e1 : (e ++ [x]).length = e.length + 1 := by rw [List.length_append]; rfl
  rw [e1, Nat.max_eq_right (by omega)]
  refine ⟨by rw [List.length_take]; omega, ?_⟩
  rw [List.take_succ_eq_append_getElem l2]
  congr 2
  rw [List.getElem_take]
  simp
theorem kn_pt_n {S : Nat → List Int32} {c : Nat} {e r : List Int32} {x : Int32} (hp : S c <+: (e ++ x :: r).take 20) (h : e.length < (S c).length ∨ 20 ≤ e.length) :
    kn_xs S c (e ++ [x]) r = kn_xs S c e (x :: r) ∧ ((kn_xs S c e (x :: r) c).length ≠ e.length ∨ 20 ≤ e.length) := by
  have e1 : (e ++ [x]).length = e.length + 1 := by rw [List.length_append]; rfl
  have hl := hp.length_le
  rcases h with h | h
  · refine ⟨?_, Or.inl ?_⟩
    · unfold kn_xs
      rw [← kn_app, e1, Nat.max_eq_left (by omega), Nat.max_eq_left (by omega)]
    · rw [kn_xs_s, List.length_take]
      omega
  · refine ⟨?_, Or.inr h⟩
    rw [kn_xs_e (Or.inr (by omega)), kn_xs_e (Or.inr h), ← kn_app]
theorem kn_Rp_app {S S' : Nat → List Int32} {l d : Nat → Int32} {c : Nat} {x : Int32} (R : kn_Rp S l d) (hc : c < 10) (h20 : (S c).length < 20)
    (hs : S' c = S c ++ [x]) (ho : ∀ j, j ≠ c → S' j = S j) : kn_Rp S' (upd l c (nI (S c).length + 1)) (upd d (20 * c + (S c).length) x) := by
  intro j hj
  by_cases z : j = c
  · subst z
    rw [hs]
    have e1 : (S j ++ [x]).length = (S j).length + 1 := by rw [List.length_append]; rfl
    refine ⟨by omega, by rw [pk_us, e1, nI_1], ?_⟩
    intro k hk
    by_cases y : k = (S j).length
    · subst y
      rw [pk_us]
      simp
    · have hk' : k < (S j).length := by omega
      rw [pk_un (by omega), List.getElem_append_left hk']
      exact (R j hj).2.2 k hk'
  · have e := ho j z
    obtain ⟨a, b, f⟩ := R j hj
    refine ⟨by rw [e]; exact a, by rw [pk_un z, e]; exact b, ?_⟩
    intro k hk
    have hk' : k < (S j).length := by rw [← e]; exact hk
    have ne : 20 * j + k ≠ 20 * c + (S c).length := by omega
    rw [pk_un ne, f k hk']
    congr 1
    exact e.symm
theorem kn_ix (a k : Nat) : nI a * 20 + nI k = nI (20 * a + k) := by
  rw [show (20 : Int32) = nI 20 from rfl, pk_mul, nI_add, Nat.mul_comm]
theorem kn_iy (a k : Nat) : 20 * nI a + nI k = nI (20 * a + k) := by
  rw [show (20 : Int32) = nI 20 from rfl, pk_mul, nI_add]
theorem kn_len1 (e : List Int32) (x : Int32) : nI e.length + 1 = nI (e ++ [x]).length := by
  rw [nI_1, List.length_append]; rfl

section
variable {vc : Int32} {vk va vb vcc vd vn vi vm : Nat → Int32}
theorem kn_put {post : SX → Prop} {S : Nat → List Int32} {c : Nat} {e r : List Int32} {x q x' : Int32} {l d : Nat → Int32} (hq : q = nI e.length) (hx : x' = x) (hc : c < 10) (he : e.length < 1000)
    (hp : S c <+: (e ++ x :: r).take 20) (R : kn_Rp (kn_xs S c e (x :: r)) l d)
    (h : ∀ l' d', kn_Rp (kn_xs S c (e ++ [x]) r) l' d' → post (vc, vk, va, vb, vcc, vd, vn, vi, vm, l', d')) :
    wpX_put post (vc, vk, va, vb, vcc, vd, vn, vi, vm, l, d) (nI c) q x' := by
  rw [hq, hx]
  have hin : vp_in (nI c) 10 := vp_in_nI hc (by omega)
  have cl : (nI c).toNatClampNeg = c := nI_clamp (by omega)
  have lc : l (nI c).toNatClampNeg = nI (kn_xs S c e (x :: r) c).length := by rw [cl]; exact (R c hc).2.1
  have l20 := (R c hc).1
  by_cases y : (S c).length ≤ e.length ∧ e.length < 20
  · obtain ⟨h1, h2⟩ := kn_pt_y (S := S) (c := c) (x := x) (r := r) y.1 y.2
    have eq : nI e.length = l (nI c).toNatClampNeg := by rw [lc, h1]
    have n20 : ¬ (20 : Int32) ≤ nI e.length := nI_ge (b := 20) y.2 (by decide)
    refine ⟨hin, br_t eq (br_f n20 ⟨?_, nm_e ⟨hin, nm_e (h _ _ ?_)⟩⟩)⟩
    · rw [kn_ix]; exact vp_in_nI (by omega) (by omega)
    · have R' := kn_Rp_app R hc (by omega) h2 (fun j hj => by rw [kn_xs_o hj, kn_xs_o hj])
      rw [h1] at R'
      rw [cl, kn_ix, nI_clamp (by omega)]
      exact R'
  · obtain ⟨h1, h2⟩ := kn_pt_n hp (show e.length < (S c).length ∨ 20 ≤ e.length by omega)
    have P : post (vc, vk, va, vb, vcc, vd, vn, vi, vm, l, d) := h l d (by rw [h1]; exact R)
    refine ⟨hin, ?_⟩
    by_cases eq : nI e.length = l (nI c).toNatClampNeg
    · rw [lc, nI_eq (by omega) (by omega)] at eq
      have h20 : (20 : Int32) ≤ nI e.length := nI_le (a := 20) (by omega) (by omega)
      exact br_t (by rw [lc, eq]) (br_t h20 P)
    · exact br_f eq P
end
theorem kn_rd {S T : Nat → List Int32} {l d : Nat → Int32} {a k : Nat} (R : kn_Rp T l d) (L : kn_le S T) (ha : a < 10) (hk : k < (S a).length) :
    vp_in (nI a * 20 + nI k) 200 ∧ d (nI a * 20 + nI k).toNatClampNeg = (S a)[k] := by
  obtain ⟨r1, r2, r3⟩ := R a ha
  have l1 := (L a).length_le
  have hk' : k < (T a).length := by omega
  rw [kn_ix, nI_clamp (by omega)]
  refine ⟨vp_in_nI (by omega) (by omega), ?_⟩
  rw [r3 k hk', (L a).getElem hk]
end
section
section
variable {vc : Int32} {vk va vb vcc vd vn vi vm : Nat → Int32} {post : SX → Prop} {S : Nat → List Int32} {a b c d : Nat} {o : List Int32}
theorem kn_fin {e r : List Int32} {l dd : Nat → Int32} (ho : e ++ r = o) (hr : r = [] ∨ 20 ≤ e.length) (R : kn_Rp (kn_xs S c e r) l dd) : kn_Rp (kn_up S c (o.take 20)) l dd := by
  rw [kn_xs_e hr, ho] at R; exact R
theorem kn_po {e r : List Int32} (hp : S c <+: o.take 20) (ho : e ++ r = o) : S c <+: (e ++ r).take 20 := by rw [ho]; exact hp
theorem kn_l1 {e : List Int32} {x : Int32} {k : Nat} (h : e.length = k) : (e ++ [x]).length = k + 1 := by rw [List.length_append, h]; rfl
theorem kn_Lsource {p q : Int32} {nb : Nat} (hn : nb < 100) (hc : c < 10) (hp : S c <+: o.take 20) (h : ∀ l' d', kn_Rp (kn_up S c (o.take 20)) l' d' → post (vc, vk, va, vb, vcc, vd, vn, vi, vm, l', d')) :
    ∀ (m k : Nat) (e : List Int32) (l dd : Nat → Int32), k + m = nb → e.length = k → e ++ kn_sr p q m k = o → kn_Rp (kn_xs S c e (kn_sr p q m k)) l dd →
    wX_writeSource_3 post (nI c) p q (nI nb) (m + 1) (nI k) vc vk va vb vcc vd vn vi vm l dd := by
  intro m
  induction m with
  | zero =>
    intro k e l dd hk hek ho R
    exact br_t (nI_le (by omega) (by omega)) (h l dd (kn_fin ho (Or.inl rfl) R))
  | succ m ih =>
    intro k e l dd hk hek ho R
    rw [kn_sr] at ho R
    refine br_f (nI_ge (by omega) (by omega)) ?_
    exact kn_put (by rw [hek]) rfl hc (by omega) (kn_po hp ho) R (fun l' d' R' => nm_r (nI_1 k) (ih (k + 1) _ l' d' (by omega) (kn_l1 hek) ((kn_app _ _ _).symm.trans ho) R'))
theorem kn_Lsums (ha : a < 10) (hc : c < 10) (hl : (S a).length ≤ 20) (hp : S c <+: o.take 20) (h : ∀ l' d', kn_Rp (kn_up S c (o.take 20)) l' d' → post (vc, vk, va, vb, vcc, vd, vn, vi, vm, l', d')) :
    ∀ (m k : Nat) (e : List Int32) (s : Int32) (l dd : Nat → Int32), k + m = (S a).length → e.length = k → e ++ kn_sm s ((S a).drop k) = o → kn_Rp (kn_xs S c e (kn_sm s ((S a).drop k))) l dd →
    wX_writeSums_13 post (nI a) (nI c) (nI (S a).length) (m + 1) s (nI k) vc vk va vb vcc vd vn vi vm l dd := by
  intro m
  induction m with
  | zero =>
    intro k e s l dd hk hek ho R
    rw [List.drop_eq_nil_of_le (by omega)] at ho R
    exact br_t (nI_le (by omega) (by omega)) (h l dd (kn_fin ho (Or.inl rfl) R))
  | succ m ih =>
    intro k e s l dd hk hek ho R
    have hlt : k < (S a).length := by omega
    rw [List.drop_eq_getElem_cons hlt, kn_sm] at ho R
    obtain ⟨hin, hv⟩ := kn_rd R (kn_xs_pre (kn_po hp ho)) ha hlt
    refine br_f (nI_ge (by omega) (by omega)) ⟨hin, nm_r (e' := s + (S a)[k]) (by rw [hv]) ?_⟩
    exact kn_put (by rw [hek]) rfl hc (by omega) (kn_po hp ho) R (fun l' d' R' => nm_r (nI_1 k) (ih (k + 1) _ _ l' d' (by omega) (kn_l1 hek) ((kn_app _ _ _).symm.trans ho) R'))
theorem kn_Lfirst (ha : a < 10) (hc : c < 10) (hl : (S a).length ≤ 20) (hp : S c <+: o.take 20) (h : ∀ l' d', kn_Rp (kn_up S c (o.take 20)) l' d' → post (vc, vk, va, vb, vcc, vd, vn, vi, vm, l', d')) :
    ∀ (m k : Nat) (e : List Int32) (l dd : Nat → Int32), k + m = (S a).length → e.length = k + 1 → e ++ (S a).drop k = o → kn_Rp (kn_xs S c e ((S a).drop k)) l dd →
    wX_writeFirst_18 post (nI a) (nI c) (nI (S a).length) (m + 1) (nI k) vc vk va vb vcc vd vn vi vm l dd := by
  intro m
  induction m with
  | zero =>
    intro k e l dd hk hek ho R
    rw [List.drop_eq_nil_of_le (by omega)] at ho R
    exact br_t (nI_le (by omega) (by omega)) (h l dd (kn_fin ho (Or.inl rfl) R))
  | succ m ih =>
    intro k e l dd hk hek ho R
    have hlt : k < (S a).length := by omega
    rw [List.drop_eq_getElem_cons hlt] at ho R
    obtain ⟨hin, hv⟩ := kn_rd R (kn_xs_pre (kn_po hp ho)) ha hlt
    refine br_f (nI_ge (by omega) (by omega)) ⟨hin, ?_⟩
    exact kn_put (by rw [hek, nI_1]) hv hc (by omega) (kn_po hp ho) R (fun l' d' R' => nm_r (nI_1 k) (ih (k + 1) _ l' d' (by omega) (kn_l1 hek) ((kn_app _ _ _).symm.trans ho) R'))
theorem kn_Lpick {mk : Int32} (ha : a < 10) (hc : c < 10) (hl : (S a).length ≤ 20) (hp : S c <+: o.take 20) (h : ∀ l' d', kn_Rp (kn_up S c (o.take 20)) l' d' → post (vc, vk, va, vb, vcc, vd, vn, vi, vm, l', d')) :
    ∀ (m k : Nat) (e : List Int32) (l dd : Nat → Int32), k + m = (S a).length → e.length ≤ k → e ++ kn_pk mk ((S a).drop k) = o → kn_Rp (kn_xs S c e (kn_pk mk ((S a).drop k))) l dd →
    wX_writePick_14 post (nI a) (nI c) mk (nI (S a).length) (m + 1) (nI e.length) (nI k) vc vk va vb vcc vd vn vi vm l dd := by
  intro m
  induction m with
  | zero =>
    intro k e l dd hk hek ho R
    rw [List.drop_eq_nil_of_le (by omega)] at ho R
    exact br_t (nI_le (by omega) (by omega)) (h l dd (kn_fin ho (Or.inl rfl) R))
  | succ m ih =>
    intro k e l dd hk hek ho R
    have hlt : k < (S a).length := by omega
    rw [List.drop_eq_getElem_cons hlt, kn_pk] at ho R
    obtain ⟨hin, hv⟩ := kn_rd R (kn_xs_pre (kn_po hp ho)) ha hlt
    refine br_f (nI_ge (by omega) (by omega)) ⟨hin, nm_r (e' := (S a)[k]) hv ?_⟩
    by_cases z : (S a)[k] &&& mk = 0
    · rw [if_pos z] at ho R
      refine br_t z ?_
      exact kn_put rfl rfl hc (by omega) (kn_po hp ho) R (fun l' d' R' => nm_r (kn_len1 e _) (nm_r (nI_1 k) (ih (k + 1) _ l' d' (by omega) (by rw [kn_l1 rfl]; omega) ((kn_app _ _ _).symm.trans ho) R')))
    · rw [if_neg z] at ho R
      exact br_f z (nm_r (nI_1 k) (ih (k + 1) e l dd (by omega) (by omega) ho R))
theorem kn_pl_nil_l (x : List Int32) : kn_pl [] x = [] := by cases x <;> rfl
theorem kn_pl_nil_r (x : List Int32) : kn_pl x [] = [] := by cases x <;> rfl
theorem kn_Lplus {t : Nat} (ht : t = min (S a).length (S b).length) (ha : a < 10) (hb : b < 10) (hc : c < 10) (hl : (S a).length ≤ 20) (hp : S c <+: o.take 20) (h : ∀ l' d', kn_Rp (kn_up S c (o.take 20)) l' d' → post (vc, vk, va, vb, vcc, vd, vn, vi, vm, l', d')) :
    ∀ (m k : Nat) (e : List Int32) (l dd : Nat → Int32), k + m = t → e.length = k → e ++ kn_pl ((S a).drop k) ((S b).drop k) = o → kn_Rp (kn_xs S c e (kn_pl ((S a).drop k) ((S b).drop k))) l dd →
    wX_writePlus_35 post (nI a) (nI b) (nI c) (nI t) (m + 1) (nI k) vc vk va vb vcc vd vn vi vm l dd := by
  intro m
  induction m with
  | zero =>
    intro k e l dd hk hek ho R
    have z : kn_pl ((S a).drop k) ((S b).drop k) = [] := by
      by_cases y : (S a).length ≤ k
      · rw [List.drop_eq_nil_of_le y, kn_pl_nil_l]
      · rw [List.drop_eq_nil_of_le (as := S b) (by omega), kn_pl_nil_r]
    exact br_t (nI_le (by omega) (by omega)) (h l dd (kn_fin ho (Or.inl z) R))
  | succ m ih =>
    intro k e l dd hk hek ho R
    have hla : k < (S a).length := by omega
    have hlb : k < (S b).length := by omega
    rw [List.drop_eq_getElem_cons hla, List.drop_eq_getElem_cons hlb, kn_pl] at ho R
    obtain ⟨hia, hva⟩ := kn_rd R (kn_xs_pre (kn_po hp ho)) ha hla
    obtain ⟨hib, hvb⟩ := kn_rd R (kn_xs_pre (kn_po hp ho)) hb hlb
    refine br_f (nI_ge (by omega) (by omega)) ⟨hia, hib, ?_⟩
    exact kn_put (by rw [hek]) (by rw [hva, hvb]) hc (by omega) (kn_po hp ho) R (fun l' d' R' => nm_r (nI_1 k) (ih (k + 1) _ l' d' (by omega) (kn_l1 hek) ((kn_app _ _ _).symm.trans ho) R'))
theorem kn_Ljoin (ha : a < 10) (hb : b < 10) (hc : c < 10) (hl : (S a).length ≤ 20) (hlb : (S b).length ≤ 20) (hp : S c <+: o.take 20) (h : ∀ l' d', kn_Rp (kn_up S c (o.take 20)) l' d' → post (vc, vk, va, vb, vcc, vd, vn, vi, vm, l', d')) :
    ∀ (m k i j : Nat) (e : List Int32) (l dd : Nat → Int32), k + m = 20 → i + j = k → e.length = k → e ++ kn_jn m ((S a).drop i) ((S b).drop j) = o → kn_Rp (kn_xs S c e (kn_jn m ((S a).drop i) ((S b).drop j))) l dd →
    wX_writeJoin_25 post (nI a) (nI b) (nI c) (nI (S a).length) (nI (S b).length) (m + 1) (nI i) (nI j) (nI k) vc vk va vb vcc vd vn vi vm l dd := by
  intro m
  induction m with
  | zero =>
    intro k i j e l dd hk hij hek ho R
    exact br_t (nI_le (a := 20) (by omega) (by omega)) (h l dd (kn_fin ho (Or.inr (by omega)) R))
  | succ m ih =>
    intro k i j e l dd hk hij hek ho R
    refine br_f (nI_ge (b := 20) (by omega) (by decide)) ?_
    by_cases hi : (S a).length ≤ i
    · rw [List.drop_eq_nil_of_le hi, kn_jn_nil_l] at ho R
      exact br_t (nI_le hi (by omega)) (h l dd (kn_fin ho (Or.inl rfl) R))
    refine br_f (nI_ge (by omega) (by omega)) ?_
    by_cases hj : (S b).length ≤ j
    · rw [List.drop_eq_nil_of_le hj, kn_jn_nil_r] at ho R
      exact br_t (nI_le hj (by omega)) (h l dd (kn_fin ho (Or.inl rfl) R))
    refine br_f (nI_ge (by omega) (by omega)) ?_
    have hi' : i < (S a).length := by omega
    have hj' : j < (S b).length := by omega
    have da := List.drop_eq_getElem_cons hi'
    have db := List.drop_eq_getElem_cons hj'
    have ej : kn_jn (m + 1) ((S a).drop i) ((S b).drop j) = if (S b)[j] < (S a)[i] then (S b)[j] :: kn_jn m ((S a).drop i) ((S b).drop (j + 1)) else (S a)[i] :: kn_jn m ((S a).drop (i + 1)) ((S b).drop j) := by
      rw [da, db, kn_jn]
    rw [ej] at ho R
    obtain ⟨hia, hva⟩ := kn_rd R (kn_xs_pre (kn_po hp ho)) ha hi'
    obtain ⟨hib, hvb⟩ := kn_rd R (kn_xs_pre (kn_po hp ho)) hb hj'
    refine ⟨hia, nm_r hva ⟨hib, nm_r hvb ?_⟩⟩
    by_cases z : (S b)[j] < (S a)[i]
    · rw [if_pos z] at ho R
      refine br_t z ?_
      exact kn_put (by rw [hek]) rfl hc (by omega) (kn_po hp ho) R (fun l' d' R' => nm_r (nI_1 j) (nm_r (nI_1 k) (ih (k + 1) i (j + 1) _ l' d' (by omega) (by omega) (kn_l1 hek) ((kn_app _ _ _).symm.trans ho) R')))
    · rw [if_neg z] at ho R
      refine br_f z ?_
      exact kn_put (by rw [hek]) rfl hc (by omega) (kn_po hp ho) R (fun l' d' R' => nm_r (nI_1 i) (nm_r (nI_1 k) (ih (k + 1) (i + 1) j _ l' d' (by omega) (by omega) (kn_l1 hek) ((kn_app _ _ _).symm.trans ho) R')))
theorem kn_pr_le {x : List Int32} (h : x.length ≤ 1) : kn_pr x = [] := by
  match x, h with
  | [], _ => rfl
  | [_], _ => rfl
  | _ :: _ :: _, h => simp at h
theorem kn_Lpairs (ha : a < 10) (hc : c < 10) (hl : (S a).length ≤ 20) (hp : S c <+: o.take 20) (h : ∀ l' d', kn_Rp (kn_up S c (o.take 20)) l' d' → post (vc, vk, va, vb, vcc, vd, vn, vi, vm, l', d')) :
    ∀ (m k : Nat) (e : List Int32) (l dd : Nat → Int32), k + m = (S a).length / 2 → e.length = k → e ++ kn_pr ((S a).drop (2 * k)) = o → kn_Rp (kn_xs S c e (kn_pr ((S a).drop (2 * k)))) l dd →
    wX_writePairs_12 post (nI a) (nI c) (nI ((S a).length / 2)) (m + 1) (nI k) vc vk va vb vcc vd vn vi vm l dd := by
  intro m
  induction m with
  | zero =>
    intro k e l dd hk hek ho R
    have z : kn_pr ((S a).drop (2 * k)) = [] := kn_pr_le (by rw [List.length_drop]; omega)
    exact br_t (nI_le (by omega) (by omega)) (h l dd (kn_fin ho (Or.inl z) R))
  | succ m ih =>
    intro k e l dd hk hek ho R
    have h0 : 2 * k < (S a).length := by omega
    have h1 : 2 * k + 1 < (S a).length := by omega
    rw [List.drop_eq_getElem_cons h0, List.drop_eq_getElem_cons h1, kn_pr] at ho R
    obtain ⟨hi0, hv0⟩ := kn_rd R (kn_xs_pre (kn_po hp ho)) ha h0
    obtain ⟨hi1, hv1⟩ := kn_rd R (kn_xs_pre (kn_po hp ho)) ha h1
    have e0 : nI a * 20 + 2 * nI k = nI a * 20 + nI (2 * k) := by rw [show (2 : Int32) = nI 2 from rfl, pk_mul]
    have e1 : nI a * 20 + nI (2 * k) + 1 = nI a * 20 + nI (2 * k + 1) := by rw [Int32.add_assoc, nI_1]
    refine br_f (nI_ge (by omega) (by omega)) (nm_r e0 ⟨hi0, by rw [e1]; exact hi1, ?_⟩)
    exact kn_put (by rw [hek]) (by rw [e1, hv0, hv1]) hc (by omega) (kn_po hp ho) R (fun l' d' R' => nm_r (nI_1 k) (ih (k + 1) _ l' d' (by omega) (kn_l1 hek) ((kn_app _ _ _).symm.trans ho) R'))
end
end
section
section
variable {vc : Int32} {vk va vb vcc vd vn vi vm : Nat → Int32} {post : SX → Prop} {S : Nat → List Int32} {a b c d : Nat} {o : List Int32} {l dd : Nat → Int32}
theorem kn_xs_comm {e r e' r' : List Int32} (h : c ≠ d) : kn_xs (kn_xs S c e r) d e' r' = kn_xs (kn_xs S d e' r') c e r := by
  funext j
  by_cases z : j = d
  · subst z
    have y : j ≠ c := fun e => h e.symm
    rw [kn_xs_s (kn_xs S c e r), kn_xs_o (S := S) y, kn_xs_o (S := kn_xs S j e' r') y, kn_xs_s]
  · by_cases y : j = c
    · subst y
      rw [kn_xs_o (S := kn_xs S j e r) z, kn_xs_s, kn_xs_s (kn_xs S d e' r'), kn_xs_o (S := S) z]
    · rw [kn_xs_o (S := kn_xs S c e r) z, kn_xs_o (S := S) y, kn_xs_o (S := kn_xs S d e' r') y, kn_xs_o (S := S) z]
theorem kn_Lcopy (ha : a < 10) (hc : c < 10) (hd : d < 10) (hcd : c ≠ d) (hl : (S a).length ≤ 20) (hp : S c <+: o.take 20) (hq : S d <+: o.take 20) (h : ∀ l' d', kn_Rp (kn_up (kn_up S c (o.take 20)) d (o.take 20)) l' d' → post (vc, vk, va, vb, vcc, vd, vn, vi, vm, l', d')) :
    ∀ (m k : Nat) (e : List Int32) (l dd : Nat → Int32), k + m = (S a).length → e.length = k → e ++ (S a).drop k = o → kn_Rp (kn_xs (kn_xs S c e ((S a).drop k)) d e ((S a).drop k)) l dd →
    wX_writeCopy_11 post (nI a) (nI c) (nI d) (nI (S a).length) (m + 1) (nI k) vc vk va vb vcc vd vn vi vm l dd := by
  have hdc : d ≠ c := fun e => hcd e.symm
  intro m
  induction m with
  | zero =>
    intro k e l dd hk hek ho R
    rw [List.drop_eq_nil_of_le (by omega)] at ho R
    rw [kn_xs_e (Or.inl rfl), kn_xs_e (Or.inl rfl), ho] at R
    exact br_t (nI_le (by omega) (by omega)) (h l dd R)
  | succ m ih =>
    intro k e l dd hk hek ho R
    have hlt : k < (S a).length := by omega
    rw [List.drop_eq_getElem_cons hlt] at ho R
    have L1 : kn_le S (kn_xs S c e ((S a)[k] :: (S a).drop (k + 1))) := kn_xs_pre (kn_po hp ho)
    have p2 : kn_xs S c e ((S a)[k] :: (S a).drop (k + 1)) d <+: (e ++ (S a)[k] :: (S a).drop (k + 1)).take 20 := by
      rw [kn_xs_o hdc]; exact kn_po hq ho
    obtain ⟨hin, hv⟩ := kn_rd R (kn_le_trans L1 (kn_xs_pre p2)) ha hlt
    refine br_f (nI_ge (by omega) (by omega)) ⟨hin, nm_r hv ?_⟩
    rw [kn_xs_comm hcd] at R
    refine kn_put (by rw [hek]) rfl hc (by omega) ?_ R (fun l' d' R' => ?_)
    · rw [kn_xs_o hcd]; exact kn_po hp ho
    rw [kn_xs_comm hdc] at R'
    refine kn_put (S := kn_xs S c (e ++ [(S a)[k]]) ((S a).drop (k + 1))) (by rw [hek]) rfl hd (by omega) ?_ R' (fun l' d' R2 => nm_r (nI_1 k) (ih (k + 1) _ l' d' (by omega) (kn_l1 hek) ((kn_app _ _ _).symm.trans ho) R2))
    rw [kn_xs_o hdc]; exact kn_po hq ho
theorem kn_st0 {r : List Int32} (hp : S c <+: r.take 20) (R : kn_Rp S l dd) : kn_Rp (kn_xs S c [] r) l dd := by rw [kn_xs_0 hp]; exact R
theorem kn_lA (R : kn_Rp S l dd) (ha : a < 10) : l (nI a).toNatClampNeg = nI (S a).length := by
  rw [nI_clamp (by omega)]; exact (R a ha).2.1
theorem kn_wSource {p q : Int32} {nb : Nat} (R : kn_Rp S l dd) (hn : nb < 100) (hc : c < 10) (hp : S c <+: (kn_sr p q nb 0).take 20) (h : ∀ l' d', kn_Rp (kn_up S c ((kn_sr p q nb 0).take 20)) l' d' → post (vc, vk, va, vb, vcc, vd, vn, vi, vm, l', d')) : wpX_writeSource post (vc, vk, va, vb, vcc, vd, vn, vi, vm, l, dd) (nI c) p q (nI nb) :=
  ⟨nb + 1, kn_Lsource hn hc hp h nb 0 [] l dd (by omega) rfl rfl (kn_st0 hp R)⟩
theorem kn_wSums (R : kn_Rp S l dd) (ha : a < 10) (hc : c < 10) (hp : S c <+: (kn_sm 0 (S a)).take 20) (h : ∀ l' d', kn_Rp (kn_up S c ((kn_sm 0 (S a)).take 20)) l' d' → post (vc, vk, va, vb, vcc, vd, vn, vi, vm, l', d')) : wpX_writeSums post (vc, vk, va, vb, vcc, vd, vn, vi, vm, l, dd) (nI a) (nI c) :=
  ⟨vp_in_nI ha (by omega), nm_r (kn_lA R ha) ⟨(S a).length + 1, kn_Lsums ha hc (R a ha).1 hp h (S a).length 0 [] 0 l dd (by omega) rfl rfl (kn_st0 hp R)⟩⟩
theorem kn_wPick {mk : Int32} (R : kn_Rp S l dd) (ha : a < 10) (hc : c < 10) (hp : S c <+: (kn_pk mk (S a)).take 20) (h : ∀ l' d', kn_Rp (kn_up S c ((kn_pk mk (S a)).take 20)) l' d' → post (vc, vk, va, vb, vcc, vd, vn, vi, vm, l', d')) : wpX_writePick post (vc, vk, va, vb, vcc, vd, vn, vi, vm, l, dd) (nI a) (nI c) mk :=
  ⟨vp_in_nI ha (by omega), nm_r (kn_lA R ha) ⟨(S a).length + 1, kn_Lpick ha hc (R a ha).1 hp h (S a).length 0 [] l dd (by omega) (Nat.le_refl _) rfl (kn_st0 hp R)⟩⟩
theorem kn_wFirst {p : Int32} (R : kn_Rp S l dd) (ha : a < 10) (hc : c < 10) (hp : S c <+: (p :: S a).take 20) (h : ∀ l' d', kn_Rp (kn_up S c ((p :: S a).take 20)) l' d' → post (vc, vk, va, vb, vcc, vd, vn, vi, vm, l', d')) : wpX_writeFirst post (vc, vk, va, vb, vcc, vd, vn, vi, vm, l, dd) (nI a) (nI c) p :=
  ⟨vp_in_nI ha (by omega), nm_r (kn_lA R ha) (kn_put (e := []) rfl rfl hc (by decide) hp (kn_st0 hp R) (fun l' d' R' =>
    ⟨(S a).length + 1, kn_Lfirst ha hc (R a ha).1 hp h (S a).length 0 [p] l' d' (by omega) rfl rfl R'⟩))⟩
theorem kn_wJoin (R : kn_Rp S l dd) (ha : a < 10) (hb : b < 10) (hc : c < 10) (hp : S c <+: (kn_jn 20 (S a) (S b)).take 20) (h : ∀ l' d', kn_Rp (kn_up S c ((kn_jn 20 (S a) (S b)).take 20)) l' d' → post (vc, vk, va, vb, vcc, vd, vn, vi, vm, l', d')) : wpX_writeJoin post (vc, vk, va, vb, vcc, vd, vn, vi, vm, l, dd) (nI a) (nI b) (nI c) :=
  ⟨vp_in_nI ha (by omega), nm_r (kn_lA R ha) ⟨vp_in_nI hb (by omega), nm_r (kn_lA R hb) ⟨21, kn_Ljoin ha hb hc (R a ha).1 (R b hb).1 hp h 20 0 0 0 [] l dd (by omega) rfl rfl rfl (kn_st0 hp R)⟩⟩⟩
theorem kn_wPlus (R : kn_Rp S l dd) (ha : a < 10) (hb : b < 10) (hc : c < 10) (hp : S c <+: (kn_pl (S a) (S b)).take 20) (h : ∀ l' d', kn_Rp (kn_up S c ((kn_pl (S a) (S b)).take 20)) l' d' → post (vc, vk, va, vb, vcc, vd, vn, vi, vm, l', d')) : wpX_writePlus post (vc, vk, va, vb, vcc, vd, vn, vi, vm, l, dd) (nI a) (nI b) (nI c) := by
  have la := (R a ha).1
  have lb := (R b hb).1
  refine ⟨vp_in_nI ha (by omega), vp_in_nI hb (by omega), pk_le (S b).length (S a).length (fun z => ?_) (fun z => ?_) (kn_lA R hb) (kn_lA R ha)⟩
  · exact ⟨vp_in_nI hb (by omega), nm_r (kn_lA R hb) ⟨(S b).length + 1, kn_Lplus (by omega) ha hb hc la hp h (S b).length 0 [] l dd (by omega) rfl rfl (kn_st0 hp R)⟩⟩
  · exact ⟨vp_in_nI ha (by omega), nm_r (kn_lA R ha) ⟨(S a).length + 1, kn_Lplus (by omega) ha hb hc la hp h (S a).length 0 [] l dd (by omega) rfl rfl (kn_st0 hp R)⟩⟩
theorem kn_wPairs (R : kn_Rp S l dd) (ha : a < 10) (hc : c < 10) (hp : S c <+: (kn_pr (S a)).take 20) (h : ∀ l' d', kn_Rp (kn_up S c ((kn_pr (S a)).take 20)) l' d' → post (vc, vk, va, vb, vcc, vd, vn, vi, vm, l', d')) : wpX_writePairs post (vc, vk, va, vb, vcc, vd, vn, vi, vm, l, dd) (nI a) (nI c) := by
  have la := (R a ha).1
  refine ⟨vp_in_nI ha (by omega), by decide, nm_r (e' := nI ((S a).length / 2)) ?_ ⟨(S a).length / 2 + 1, kn_Lpairs ha hc la hp h ((S a).length / 2) 0 [] l dd (by omega) rfl rfl (kn_st0 hp R)⟩⟩
  rw [kn_lA R ha, show (2 : Int32) = nI 2 from rfl, pk_div (by omega) (by omega) (by omega)]
theorem kn_wCopy (R : kn_Rp S l dd) (ha : a < 10) (hc : c < 10) (hd : d < 10) (hcd : c ≠ d) (hp : S c <+: (S a).take 20) (hq : S d <+: (S a).take 20)
    (h : ∀ l' d', kn_Rp (kn_up (kn_up S c ((S a).take 20)) d ((S a).take 20)) l' d' → post (vc, vk, va, vb, vcc, vd, vn, vi, vm, l', d')) : wpX_writeCopy post (vc, vk, va, vb, vcc, vd, vn, vi, vm, l, dd) (nI a) (nI c) (nI d) := by
  refine ⟨vp_in_nI ha (by omega), nm_r (kn_lA R ha) ⟨(S a).length + 1, kn_Lcopy ha hc hd hcd (R a ha).1 hp hq h (S a).length 0 [] l dd (by omega) rfl rfl ?_⟩⟩
  show kn_Rp (kn_xs (kn_xs S c [] (S a)) d [] (S a)) l dd
  rw [kn_xs_0 hp]
  exact kn_st0 hq R
end
theorem kn_St1 {N : Nat → kn_P} {i kd A B C D : Nat} {P Q : Int32} {S : Nat → List Int32} {o : List Int32} (hN : N i = (kd, A, B, C, D, P, Q)) (hk : kd ≠ 1) (hF : kn_F N i S = o) : kn_St N i S (kn_up S C o) := by
  refine ⟨?_, ?_⟩
  · intro c w
    rw [hN] at w
    rcases w with w | w
    · have e : c = C := w
      rw [e, kn_up_s, hF]
    · exact absurd w.1 hk
  · intro c w
    rw [hN] at w
    exact kn_up_o (fun e => w (Or.inl e))
theorem kn_St2 {N : Nat → kn_P} {i A B C D : Nat} {P Q : Int32} {S : Nat → List Int32} {o : List Int32} (hN : N i = (1, A, B, C, D, P, Q)) (hF : kn_F N i S = o) : kn_St N i S (kn_up (kn_up S C o) D o) := by
  refine ⟨?_, ?_⟩
  · intro c w
    rw [hN] at w
    rw [hF]
    by_cases z : c = D
    · rw [z, kn_up_s]
    · rcases w with w | w
      · have e : c = C := w
        rw [kn_up_o z, e, kn_up_s]
      · exact absurd w.2 z
  · intro c w
    rw [hN] at w
    rw [kn_up_o (fun e => w (Or.inr ⟨rfl, e⟩)), kn_up_o (fun e => w (Or.inl e))]
-- process p as X holds it
def kn_RX (p : kn_P) (k a b c d n i m : Int32) : Prop :=
  k = nI p.1 ∧ (p.1 ≠ 0 → a = nI p.2.1) ∧ (p.1 = 0 → a = -1) ∧ ((p.1 = 2 ∨ p.1 = 5) → b = nI p.2.2.1) ∧ (¬ (p.1 = 2 ∨ p.1 = 5) → b = -1) ∧
  c = nI p.2.2.2.1 ∧ (p.1 = 1 → d = nI p.2.2.2.2.1) ∧ (p.1 ≠ 1 → d = -1) ∧ n = p.2.2.2.2.2.1 ∧ (p.1 = 0 → i = p.2.2.2.2.2.2 ∧ m = nI p.2.2.1)
section
variable {vc : Int32} {vk va vb vcc vd vn vi vm : Nat → Int32} {post : SX → Prop} {S : Nat → List Int32} {l dd : Nat → Int32}
theorem kn_step {N : Nat → kn_P} {i : Nat} (hi : i < 8) (ok : kn_ok (N i)) (X : kn_RX (N i) (vk i) (va i) (vb i) (vcc i) (vd i) (vn i) (vi i) (vm i)) (R : kn_Rp S l dd)
    (hw : ∀ c, kn_W (N i) c → S c <+: kn_F N i S) (h : ∀ S' l' d', kn_St N i S S' → kn_Rp S' l' d' → post (vc, vk, va, vb, vcc, vd, vn, vi, vm, l', d')) : wpX_step post (vc, vk, va, vb, vcc, vd, vn, vi, vm, l, dd) (nI i) := by
  have hcl : (nI i).toNatClampNeg = i := nI_clamp (by omega)
  have hin : vp_in (nI i) 8 := vp_in_nI hi (by omega)
  have X' : kn_RX (N i) (vk (nI i).toNatClampNeg) (va (nI i).toNatClampNeg) (vb (nI i).toNatClampNeg) (vcc (nI i).toNatClampNeg) (vd (nI i).toNatClampNeg) (vn (nI i).toNatClampNeg) (vi (nI i).toNatClampNeg) (vm (nI i).toNatClampNeg) := by
    rw [hcl]; exact X
  clear X
  generalize hN : N i = p at ok X' hw
  obtain ⟨kd, A, B, C, D, P, Q⟩ := p
  obtain ⟨o1, o2, o3, o4, o5, o6, o7⟩ := ok
  obtain ⟨x1, x2, x3, x4, x5, x6, x7, x8, x9, x10⟩ := X'
  dsimp only at o1 o2 o3 o4 o5 o6 o7 x1 x2 x3 x4 x5 x6 x7 x8 x9 x10
  have wC : S C <+: kn_F N i S := hw C (Or.inl rfl)
  refine ⟨hin, nm_r x1 (br_f (nI_pos (by omega)) (br_f (nI_nlt (a := 7) o1 (by decide)) ?_))⟩
  have cs : kd = 0 ∨ kd = 1 ∨ kd = 2 ∨ kd = 3 ∨ kd = 4 ∨ kd = 5 ∨ kd = 6 ∨ kd = 7 := by omega
  rcases cs with rfl | rfl | rfl | rfl | rfl | rfl | rfl | rfl
  · have eF : kn_F N i S = (kn_sr P Q B 0).take 20 := by unfold kn_F; rw [hN]; rfl
    have z0 := wC
    rw [eF] at z0
    refine br_t (by decide) ⟨hin, hin, hin, hin, ?_⟩
    rw [x6, x9, (x10 rfl).1, (x10 rfl).2]
    exact kn_wSource R (by omega) o5 z0 (fun l' d' R' => h _ l' d' (kn_St1 hN (by decide) eF) R')
  · have eF : kn_F N i S = (S A).take 20 := by unfold kn_F; rw [hN]; rfl
    have z0 := wC
    rw [eF] at z0
    refine br_f (by decide) (br_t (by decide) ⟨hin, hin, hin, ?_⟩)
    rw [x2 (by decide), x6, x7 rfl]
    have z1 : S D <+: (S A).take 20 := by rw [← eF]; exact hw D (Or.inr ⟨rfl, rfl⟩)
    exact kn_wCopy R o2 o5 o6 (o7 rfl) z0 z1 (fun l' d' R' => h _ l' d' (kn_St2 hN eF) R')
  · have eF : kn_F N i S = (kn_pl (S A) (S B)).take 20 := by unfold kn_F; rw [hN]; rfl
    have z0 := wC
    rw [eF] at z0
    refine br_f (by decide) (br_f (by decide) (br_t (by decide) ⟨hin, hin, hin, ?_⟩))
    rw [x2 (by decide), x4 (Or.inl rfl), x6]
    exact kn_wPlus R o2 (o4 (by decide)) o5 z0 (fun l' d' R' => h _ l' d' (kn_St1 hN (by decide) eF) R')
  · have eF : kn_F N i S = (P :: S A).take 20 := by unfold kn_F; rw [hN]; rfl
    have z0 := wC
    rw [eF] at z0
    refine br_f (by decide) (br_f (by decide) (br_f (by decide) (br_t (by decide) ⟨hin, hin, hin, ?_⟩)))
    rw [x2 (by decide), x6, x9]
    exact kn_wFirst R o2 o5 z0 (fun l' d' R' => h _ l' d' (kn_St1 hN (by decide) eF) R')
  · have eF : kn_F N i S = (kn_pk P (S A)).take 20 := by unfold kn_F; rw [hN]; rfl
    have z0 := wC
    rw [eF] at z0
    refine br_f (by decide) (br_f (by decide) (br_f (by decide) (br_f (by decide) (br_t (by decide) ⟨hin, hin, hin, ?_⟩))))
    rw [x2 (by decide), x6, x9]
    exact kn_wPick R o2 o5 z0 (fun l' d' R' => h _ l' d' (kn_St1 hN (by decide) eF) R')
  · have eF : kn_F N i S = (kn_jn 20 (S A) (S B)).take 20 := by unfold kn_F; rw [hN]; rfl
    have z0 := wC
    rw [eF] at z0
    refine br_f (by decide) (br_f (by decide) (br_f (by decide) (br_f (by decide) (br_f (by decide) (br_t (by decide) ⟨hin, hin, hin, ?_⟩)))))
    rw [x2 (by decide), x4 (Or.inr rfl), x6]
    exact kn_wJoin R o2 (o4 (by decide)) o5 z0 (fun l' d' R' => h _ l' d' (kn_St1 hN (by decide) eF) R')
  · have eF : kn_F N i S = (kn_sm 0 (S A)).take 20 := by unfold kn_F; rw [hN]; rfl
    have z0 := wC
    rw [eF] at z0
    refine br_f (by decide) (br_f (by decide) (br_f (by decide) (br_f (by decide) (br_f (by decide) (br_f (by decide) (br_t (by decide) ⟨hin, hin, ?_⟩))))))
    rw [x2 (by decide), x6]
    exact kn_wSums R o2 o5 z0 (fun l' d' R' => h _ l' d' (kn_St1 hN (by decide) eF) R')
  · have eF : kn_F N i S = (kn_pr (S A)).take 20 := by unfold kn_F; rw [hN]; rfl
    have z0 := wC
    rw [eF] at z0
    refine br_f (by decide) (br_f (by decide) (br_f (by decide) (br_f (by decide) (br_f (by decide) (br_f (by decide) (br_f (by decide) (br_t (by decide) ⟨hin, hin, ?_⟩)))))))
    rw [x2 (by decide), x6]
    exact kn_wPairs R o2 o5 z0 (fun l' d' R' => h _ l' d' (kn_St1 hN (by decide) eF) R')
end
end
section
section
variable {vc : Int32} {vk va vb vcc vd vn vi vm : Nat → Int32} {S : Nat → List Int32} {l dd : Nat → Int32}
theorem kn_Xtot4 {post : Int32 → Prop} (R : kn_Rp S l dd) (h : post (nI (kn_tot S 10))) : ∀ (m c : Nat), c + m = 10 → wX_total_4 post vc vk va vb vcc vd vn vi vm l dd (m + 1) (nI (kn_tot S c)) (nI c) := by
  intro m
  induction m with
  | zero =>
    intro c hc
    have e : c = 10 := by omega
    rw [e]
    exact br_t (by decide) h
  | succ m ih =>
    intro c hc
    refine br_f (nI_ge (b := 10) (by omega) (by decide)) ⟨vp_in_nI (by omega) (by omega), nm_r (e' := nI (kn_tot S (c + 1))) ?_ (nm_r (nI_1 c) (ih (c + 1) (by omega)))⟩
    rw [nI_clamp (by omega), (R c (by omega)).2.1, nI_add]
    rfl
theorem kn_Xtotal {post : Int32 → Prop} (R : kn_Rp S l dd) (h : post (nI (kn_tot S 10))) : wpX_total post (vc, vk, va, vb, vcc, vd, vn, vi, vm, l, dd) := ⟨11, kn_Xtot4 R h 10 0 rfl⟩
theorem kn_tot200 {N : Nat → kn_P} {n : Nat} (I : kn_In N n S) : kn_tot S 10 ≤ 200 := kn_tot_bd (fun c => kn_In_len I c) 10
theorem kn_Xrun16 {post : SX → Prop} {J : Int32 → Int32 → (Nat → Int32) → (Nat → Int32) → (Nat → Int32) → (Nat → Int32) → (Nat → Int32) → (Nat → Int32) → (Nat → Int32) → (Nat → Int32) → (Nat → Int32) → (Nat → Int32) → Prop}
    {N : Nat → kn_P} {n r : Nat} (hn : n ≤ 8) (hv : vc = nI n) (U : kn_Un N n) (X : ∀ i, i < n → kn_RX (N i) (vk i) (va i) (vb i) (vcc i) (vd i) (vn i) (vi i) (vm i))
    (hpost : ∀ T l d, kn_Ls N n T → kn_Rp T l d → post (vc, vk, va, vb, vcc, vd, vn, vi, vm, l, d))
    (hJ : ∀ T l d, kn_In N n T → kn_Rp T l d → kn_tot S 10 < kn_tot T 10 → J (nI (r + 1)) vc vk va vb vcc vd vn vi vm l d) :
    ∀ (m i : Nat) (T : Nat → List Int32) (l dd : Nat → Int32), i + m = n → kn_Rd N n S i T → kn_Rp T l dd → wX_run_16 post J (nI r) (nI (kn_tot S 10)) (m + 1) (nI i) vc vk va vb vcc vd vn vi vm l dd := by
  intro m
  induction m with
  | zero =>
    intro i T l dd hi D R
    have e : i = n := by omega
    subst e
    have b1 := kn_tot200 D.1
    have b2 := kn_tot200 D.2.1
    have b3 := kn_tot_le D.2.2.1 10
    refine br_t (by rw [hv]; exact nI_le (Nat.le_refl _) (by omega)) (kn_Xtotal R ?_)
    exact pk_eq (kn_tot T 10) (kn_tot S 10) (fun e => hpost T l dd (kn_Rd_e U D e) R) (fun ne => nm_r (nI_1 r) (hJ T l dd D.2.1 R (by omega)))
  | succ m ih =>
    intro i T l dd hi D R
    refine br_f (by rw [hv]; exact nI_ge (by omega) (by omega)) ?_
    exact kn_step (by omega) (U.1 i (by omega)) (X i (by omega)) R (D.2.1.1 i (by omega)) (fun S' l' d' hs R' => nm_r (nI_1 i) (ih (i + 1) S' l' d' (by omega) (kn_Rd_s U D (by omega) hs) R'))
theorem kn_Xrun2 {post : SX → Prop} {N : Nat → kn_P} {n : Nat} (hn : n ≤ 8) (hv : vc = nI n) (U : kn_Un N n) (X : ∀ i, i < n → kn_RX (N i) (vk i) (va i) (vb i) (vcc i) (vd i) (vn i) (vi i) (vm i))
    (hpost : ∀ T l d, kn_Ls N n T → kn_Rp T l d → post (vc, vk, va, vb, vcc, vd, vn, vi, vm, l, d)) :
    ∀ (m r : Nat) (T : Nat → List Int32) (l dd : Nat → Int32), r + m = 201 → kn_In N n T → kn_Rp T l dd → r ≤ kn_tot T 10 → wX_run_2 post (m + 1) (nI r) vc vk va vb vcc vd vn vi vm l dd := by
  intro m
  induction m with
  | zero =>
    intro r T l dd hr I R ht
    have := kn_tot200 I
    omega
  | succ m ih =>
    intro r T l dd hr I R ht
    refine br_f (nI_nlt (a := 200) (by omega) (by omega)) (kn_Xtotal R ⟨n + 1, ?_⟩)
    exact kn_Xrun16 (S := T) hn hv U X hpost (fun T' l' d' I' R' lt => ih (r + 1) T' l' d' (by omega) I' R' (by omega)) n 0 T l dd (by omega) (kn_Rd_0 I) R
theorem kn_Xrun {post : SX → Prop} {N : Nat → kn_P} {n : Nat} (hn : n ≤ 8) (hv : vc = nI n) (U : kn_Un N n) (X : ∀ i, i < n → kn_RX (N i) (vk i) (va i) (vb i) (vcc i) (vd i) (vn i) (vi i) (vm i))
    (I : kn_In N n S) (R : kn_Rp S l dd) (hpost : ∀ T l d, kn_Ls N n T → kn_Rp T l d → post (vc, vk, va, vb, vcc, vd, vn, vi, vm, l, d)) : wpX_run post (vc, vk, va, vb, vcc, vd, vn, vi, vm, l, dd) :=
  ⟨202, kn_Xrun2 hn hv U X hpost 201 0 S l dd rfl I R (Nat.zero_le _)⟩
end
end
section
theorem kn_ky {x y : Int32} {k : Nat} (h : x = nI k) (d : nI k = y) : x = y := h.trans d
theorem kn_kn {x y : Int32} {k : Nat} (h : x = nI k) (d : ¬ nI k = y) : ¬ x = y := fun e => d (h.symm.trans e)
-- the list g lies in made, count its length
def kn_Mk (g : List Int32) (ct : Int32) (mk : Nat → Int32) : Prop := g.length ≤ 20 ∧ ct = nI g.length ∧ ∀ k (h : k < g.length), mk k = g[k]
theorem kn_t20s {e : List Int32} {x : Int32} (h : e.length < 20) : (e ++ [x]).take 20 = e ++ [x] := List.take_of_length_le (by rw [kn_l1 rfl]; omega)
theorem kn_t20b {e : List Int32} {x : Int32} (h : 20 ≤ e.length) : (e ++ [x]).take 20 = e.take 20 := by
  rw [List.take_append_of_le_length h]
section
variable {fn ct : Int32} {yk ya yb yc yd yp yq yr yw sz it mk : Nat → Int32} {post : SY → Prop} {S : Nat → List Int32} {i A B : Nat} {o : List Int32}
theorem kn_Yw {e : List Int32} {x : Int32} (M : kn_Mk (e.take 20) ct mk) (h : ∀ ct' mk', kn_Mk ((e ++ [x]).take 20) ct' mk' → post (fn, ct', yk, ya, yb, yc, yd, yp, yq, yr, yw, sz, it, mk')) : wpY_write post (fn, ct, yk, ya, yb, yc, yd, yp, yq, yr, yw, sz, it, mk) x := by
  obtain ⟨m1, m2, m3⟩ := M
  by_cases z : e.length < 20
  · have e0 : e.take 20 = e := List.take_of_length_le (by omega)
    rw [e0] at m1 m2
    have n20 : ¬ (20 : Int32) ≤ ct := by rw [m2]; exact nI_ge (b := 20) z (by decide)
    refine br_f n20 ⟨by rw [m2]; exact vp_in_nI z (by omega), nm_e (nm_e (h _ _ ?_))⟩
    rw [kn_t20s z, m2, nI_clamp (by omega)]
    refine ⟨by rw [kn_l1 rfl]; omega, kn_len1 e x, ?_⟩
    intro k hk
    rw [kn_l1 rfl] at hk
    by_cases y : k = e.length
    · subst y
      rw [pk_us]
      simp
    · have hk' : k < e.length := by omega
      rw [pk_un y, List.getElem_append_left hk', m3 k (by rw [e0]; exact hk')]
      congr 1
  · have le : (e.take 20).length = 20 := by rw [List.length_take]; omega
    have y20 : (20 : Int32) ≤ ct := by rw [m2, le]; decide
    exact br_t y20 (h _ _ (by rw [kn_t20b (by omega)]; exact ⟨m1, m2, m3⟩))
-- what the reference's loop writes at k, and what is left to write
def kn_em (kd : Nat) (p s : Int32) (k lb : Nat) (v r z : Int32) : List Int32 :=
  if kd = 1 ∨ kd = 3 then [v] else if kd = 4 then (if v &&& p = 0 then [v] else []) else if kd = 6 then [s + v]
  else if kd = 2 then (if k < lb then [v + r] else []) else (if k % 2 = 1 then [z - v] else [])
def kn_rs (kd : Nat) (p s : Int32) (k : Nat) (al bl : List Int32) : List Int32 :=
  if kd = 1 ∨ kd = 3 then al.drop k else if kd = 4 then kn_pk p (al.drop k) else if kd = 6 then kn_sm s (al.drop k)
  else if kd = 2 then kn_pl (al.drop k) (bl.drop k) else kn_pr (al.drop (k - k % 2))
theorem kn_rs_e (kd : Nat) (p s : Int32) (k : Nat) (al bl : List Int32) (h : al.length ≤ k) (hk : k ≤ al.length) : kn_rs kd p s k al bl = [] := by
  have d := List.drop_eq_nil_of_le h
  unfold kn_rs
  split
  · exact d
  split
  · rw [d]; rfl
  split
  · rw [d]; rfl
  split
  · rw [d, kn_pl_nil_l]
  · exact kn_pr_le (by rw [List.length_drop]; omega)
theorem kn_rs_s (kd : Nat) (p s : Int32) (k : Nat) (al bl : List Int32) (r z : Int32) (h : k < al.length) (hr : ∀ g : k < bl.length, r = bl[k]) (hz : ∀ g : 0 < k, z = al[k - 1]) :
    kn_rs kd p s k al bl = kn_em kd p s k bl.length al[k] r z ++ kn_rs kd p (s + al[k]) (k + 1) al bl := by
  have d := List.drop_eq_getElem_cons h
  unfold kn_rs kn_em
  by_cases c1 : kd = 1 ∨ kd = 3
  · rw [if_pos c1, if_pos c1, if_pos c1, d]; rfl
  rw [if_neg c1, if_neg c1, if_neg c1]
  by_cases c4 : kd = 4
  · rw [if_pos c4, if_pos c4, if_pos c4, d, kn_pk]
    by_cases y : al[k] &&& p = 0
    · rw [if_pos y, if_pos y]; rfl
    · rw [if_neg y, if_neg y]; rfl
  rw [if_neg c4, if_neg c4, if_neg c4]
  by_cases c6 : kd = 6
  · rw [if_pos c6, if_pos c6, if_pos c6, d, kn_sm]; rfl
  rw [if_neg c6, if_neg c6, if_neg c6]
  by_cases c2 : kd = 2
  · rw [if_pos c2, if_pos c2, if_pos c2, d]
    by_cases y : k < bl.length
    · rw [if_pos y, List.drop_eq_getElem_cons y, kn_pl, hr y]; rfl
    · rw [if_neg y, List.drop_eq_nil_of_le (as := bl) (i := k) (by omega), List.drop_eq_nil_of_le (as := bl) (i := k + 1) (by omega), kn_pl_nil_r, kn_pl_nil_r]; rfl
  rw [if_neg c2, if_neg c2, if_neg c2]
  by_cases y : k % 2 = 1
  · obtain ⟨j, rfl⟩ : ∃ j, k = j + 1 := ⟨k - 1, by omega⟩
    have hj : j < al.length := by omega
    rw [if_pos y, show j + 1 - (j + 1) % 2 = j by omega, show j + 1 + 1 - (j + 1 + 1) % 2 = j + 1 + 1 by omega, List.drop_eq_getElem_cons hj, List.drop_eq_getElem_cons h, kn_pr, hz (by omega)]
    rfl
  · rw [if_neg y, show k - k % 2 = k by omega, show k + 1 - (k + 1) % 2 = k by omega]
    rfl
theorem kn_gt {post : Int32 → Prop} {a k : Nat} (ha : a < 10) (hk : k < 20) (h : post (it (20 * a + k))) : wpY_get post (fn, ct, yk, ya, yb, yc, yd, yp, yq, yr, yw, sz, it, mk) (nI a) (nI k) := by
  refine ⟨by rw [kn_iy]; exact vp_in_nI (by omega) (by omega), ?_⟩
  rw [kn_iy, nI_clamp (by omega)]
  exact h
theorem kn_Y178 {J : Int32 → Int32 → Int32 → Int32 → (Nat → Int32) → (Nat → Int32) → (Nat → Int32) → (Nat → Int32) → (Nat → Int32) → (Nat → Int32) → (Nat → Int32) → (Nat → Int32) → (Nat → Int32) → (Nat → Int32) → (Nat → Int32) → (Nat → Int32) → Prop}
    {kd k : Nat} {e : List Int32} {p s v r z x2 : Int32} (hi : i < 8) (h7 : kd = 1 ∨ kd = 2 ∨ kd = 3 ∨ kd = 4 ∨ kd = 6 ∨ kd = 7) (hk : yk (nI i).toNatClampNeg = nI kd)
    (hb : yb (nI i).toNatClampNeg = nI B) (hB : B < 10) (hp : yp (nI i).toNatClampNeg = p) (R : kn_Rp S sz it) (hk20 : k < 20) (M : kn_Mk (e.take 20) ct mk)
    (h : ∀ ct' mk', kn_Mk ((e ++ kn_em kd p s k (S B).length v r z).take 20) ct' mk' → J (s + v) (nI (k + 1)) fn ct' yk ya yb yc yd yp yq yr yw sz it mk') :
    wY_work_178 post J (nI i) x2 s (nI k) v r z fn ct yk ya yb yc yd yp yq yr yw sz it mk := by
  have hin : vp_in (nI i) 8 := vp_in_nI hi (by omega)
  have hBl := (R B hB).1
  rcases h7 with rfl | rfl | rfl | rfl | rfl | rfl
  · refine nm_e ⟨hin, br_t (kn_ky hk (by decide)) (kn_Yw M (fun ct' mk' M' => ?_))⟩
    exact ⟨hin, br_f (kn_kn hk (by decide)) ⟨hin, br_f (kn_kn hk (by decide)) ⟨hin, br_f (kn_kn hk (by decide)) (nm_r (nI_1 k) (h ct' mk' M'))⟩⟩⟩
  · refine nm_e ⟨hin, br_f (kn_kn hk (by decide)) ⟨hin, br_f (kn_kn hk (by decide)) ⟨hin, br_f (kn_kn hk (by decide)) ?_⟩⟩⟩
    refine ⟨hin, br_f (kn_kn hk (by decide)) ⟨hin, br_t (kn_ky hk (by decide)) ⟨hin, by rw [hb]; exact vp_in_nI hB (by omega), ?_⟩⟩⟩
    refine pk_le (S B).length k (fun y => ?_) (fun y => ?_) (by rw [hb]; exact kn_lA R hB)
    · refine ⟨hin, br_f (kn_kn hk (by decide)) (nm_r (nI_1 k) (h ct mk ?_))⟩
      have : kn_em 2 p s k (S B).length v r z = [] := if_neg (show ¬ k < (S B).length by omega)
      rw [this, List.append_nil]
      exact M
    · refine kn_Yw M (fun ct' mk' M' => ⟨hin, br_f (kn_kn hk (by decide)) (nm_r (nI_1 k) (h ct' mk' ?_))⟩)
      have : kn_em 2 p s k (S B).length v r z = [v + r] := if_pos y
      rw [this]
      exact M'
  · refine nm_e ⟨hin, br_f (kn_kn hk (by decide)) ⟨hin, br_t (kn_ky hk (by decide)) (kn_Yw M (fun ct' mk' M' => ?_))⟩⟩
    exact ⟨hin, br_f (kn_kn hk (by decide)) ⟨hin, br_f (kn_kn hk (by decide)) ⟨hin, br_f (kn_kn hk (by decide)) (nm_r (nI_1 k) (h ct' mk' M'))⟩⟩⟩
  · refine nm_e ⟨hin, br_f (kn_kn hk (by decide)) ⟨hin, br_f (kn_kn hk (by decide)) ⟨hin, br_t (kn_ky hk (by decide)) ⟨hin, ?_⟩⟩⟩⟩
    rw [hp]
    by_cases y : v &&& p = 0
    · refine br_t y (kn_Yw M (fun ct' mk' M' => ?_))
      have : kn_em 4 p s k (S B).length v r z = [v] := if_pos y
      rw [this] at h
      exact ⟨hin, br_f (kn_kn hk (by decide)) ⟨hin, br_f (kn_kn hk (by decide)) ⟨hin, br_f (kn_kn hk (by decide)) (nm_r (nI_1 k) (h ct' mk' M'))⟩⟩⟩
    · have : kn_em 4 p s k (S B).length v r z = [] := if_neg y
      rw [this, List.append_nil] at h
      exact br_f y ⟨hin, br_f (kn_kn hk (by decide)) ⟨hin, br_f (kn_kn hk (by decide)) ⟨hin, br_f (kn_kn hk (by decide)) (nm_r (nI_1 k) (h ct mk M))⟩⟩⟩
  · refine nm_e ⟨hin, br_f (kn_kn hk (by decide)) ⟨hin, br_f (kn_kn hk (by decide)) ⟨hin, br_f (kn_kn hk (by decide)) ?_⟩⟩⟩
    refine ⟨hin, br_t (kn_ky hk (by decide)) (kn_Yw M (fun ct' mk' M' => ?_))⟩
    exact ⟨hin, br_f (kn_kn hk (by decide)) ⟨hin, br_f (kn_kn hk (by decide)) (nm_r (nI_1 k) (h ct' mk' M'))⟩⟩
  · refine nm_e ⟨hin, br_f (kn_kn hk (by decide)) ⟨hin, br_f (kn_kn hk (by decide)) ⟨hin, br_f (kn_kn hk (by decide)) ?_⟩⟩⟩
    refine ⟨hin, br_f (kn_kn hk (by decide)) ⟨hin, br_f (kn_kn hk (by decide)) ⟨hin, br_t (kn_ky hk (by decide)) ⟨by decide, ?_⟩⟩⟩⟩
    refine pk_eq (k % 2) 1 (fun y => ?_) (fun y => ?_) (by rw [show (2 : Int32) = nI 2 from rfl]; exact pk_rem (by omega) (by omega) (by omega))
    · refine kn_Yw M (fun ct' mk' M' => nm_r (nI_1 k) (h ct' mk' ?_))
      have : kn_em 7 p s k (S B).length v r z = [z - v] := if_pos y
      rw [this]
      exact M'
    · refine nm_r (nI_1 k) (h ct mk ?_)
      have : kn_em 7 p s k (S B).length v r z = [] := if_neg y
      rw [this, List.append_nil]
      exact M
theorem kn_Y107 {kd : Nat} {p : Int32} (hi : i < 8) (h7 : kd = 1 ∨ kd = 2 ∨ kd = 3 ∨ kd = 4 ∨ kd = 6 ∨ kd = 7) (hk : yk (nI i).toNatClampNeg = nI kd) (hA : A < 10)
    (hb : yb (nI i).toNatClampNeg = nI B) (hB : B < 10) (hp : yp (nI i).toNatClampNeg = p) (R : kn_Rp S sz it) (h : ∀ ct' mk', kn_Mk (o.take 20) ct' mk' → post (fn, ct', yk, ya, yb, yc, yd, yp, yq, yr, yw, sz, it, mk')) :
    ∀ (m k : Nat) (e : List Int32) (s ct : Int32) (mk : Nat → Int32), k + m = (S A).length → e ++ kn_rs kd p s k (S A) (S B) = o → kn_Mk (e.take 20) ct mk →
    wY_work_107 post (nI i) (nI A) (m + 1) s (nI k) fn ct yk ya yb yc yd yp yq yr yw sz it mk := by
  have hin : vp_in (nI i) 8 := vp_in_nI hi (by omega)
  have hAl := (R A hA).1
  have k0 : ¬ yk (nI i).toNatClampNeg = 0 := by rcases h7 with rfl | rfl | rfl | rfl | rfl | rfl <;> exact kn_kn hk (by decide)
  have k5 : ¬ yk (nI i).toNatClampNeg = 5 := by rcases h7 with rfl | rfl | rfl | rfl | rfl | rfl <;> exact kn_kn hk (by decide)
  intro m
  induction m with
  | zero =>
    intro k e s ct mk hkm ho M
    rw [kn_rs_e kd p s k _ _ (by omega) (by omega), List.append_nil] at ho
    refine ⟨hin, br_f k0 ⟨hin, br_f k5 ⟨vp_in_nI hA (by omega), br_t ?_ (h ct mk (by rw [← ho]; exact M))⟩⟩⟩
    rw [kn_lA R hA]
    exact nI_le (by omega) (by omega)
  | succ m ih =>
    intro k e s ct mk hkm ho M
    have hlt : k < (S A).length := by omega
    refine ⟨hin, br_f k0 ⟨hin, br_f k5 ⟨vp_in_nI hA (by omega), br_f ?_ (kn_gt hA (by omega) ⟨hin, ?_⟩)⟩⟩⟩
    · rw [kn_lA R hA]
      exact nI_ge (by omega) (by omega)
    rw [hb]
    refine kn_gt hB (by omega) ?_
    have go : ∀ z : Int32, (∀ g : 0 < k, z = (S A)[k - 1]) → wY_work_178 post (wY_work_107 post (nI i) (nI A) (m + 1)) (nI i) (nI A) s (nI k) (it (20 * A + k)) (it (20 * B + k)) z fn ct yk ya yb yc yd yp yq yr yw sz it mk := by
      intro z hz
      refine kn_Y178 hi h7 hk hb hB hp R (by omega) M (fun ct' mk' M' => ih (k + 1) _ _ ct' mk' (by omega) ?_ M')
      rw [← ho, kn_rs_s kd p s k (S A) (S B) (it (20 * B + k)) z hlt (fun g => (R B hB).2.2 k g) hz, (R A hA).2.2 k hlt, List.append_assoc]
    by_cases z : k = 0
    · subst z
      exact br_t (by decide) (go 0 (fun g => absurd g (by decide)))
    · refine br_f (nI_nle (by omega) (by omega)) ?_
      obtain ⟨j, rfl⟩ : ∃ j, k = j + 1 := ⟨k - 1, by omega⟩
      rw [nI_pred j]
      exact kn_gt hA (by omega) (go _ (fun _ => (R A hA).2.2 j (by omega)))
end
end
section
section
variable {fn ct : Int32} {yk ya yb yc yd yp yq yr yw sz it mk : Nat → Int32} {post : SY → Prop} {S : Nat → List Int32} {i A B : Nat} {o : List Int32}
theorem kn_Yjoin (hA : A < 10) (hB : B < 10) (R : kn_Rp S sz it) (h : ∀ ct' mk', kn_Mk (o.take 20) ct' mk' → post (fn, ct', yk, ya, yb, yc, yd, yp, yq, yr, yw, sz, it, mk')) :
    ∀ (m k i j : Nat) (e : List Int32) (ct : Int32) (mk : Nat → Int32), k + m = 20 → i + j = k → e.length = k → e ++ kn_jn m ((S A).drop i) ((S B).drop j) = o → kn_Mk (e.take 20) ct mk →
    wY_join_8 post (nI A) (nI B) (m + 1) (nI i) (nI j) (nI k) fn ct yk ya yb yc yd yp yq yr yw sz it mk := by
  have hAl := (R A hA).1
  have hBl := (R B hB).1
  have iA : vp_in (nI A) 10 := vp_in_nI hA (by omega)
  have iB : vp_in (nI B) 10 := vp_in_nI hB (by omega)
  intro m
  induction m with
  | zero =>
    intro k i j e ct mk hk hij hek ho M
    refine br_t (nI_le (a := 20) (by omega) (by omega)) (h ct mk ?_)
    rw [← ho, List.take_append_of_le_length (by omega)]
    exact M
  | succ m ih =>
    intro k i j e ct mk hk hij hek ho M
    refine br_f (nI_ge (b := 20) (by omega) (by decide)) ⟨iA, ?_⟩
    refine pk_le (S A).length i (fun hi => ?_) (fun hi => ⟨iB, ?_⟩) (kn_lA R hA)
    · rw [List.drop_eq_nil_of_le hi, kn_jn_nil_l, List.append_nil] at ho
      exact h ct mk (by rw [← ho]; exact M)
    refine pk_le (S B).length j (fun hj => ?_) (fun hj => ?_) (kn_lA R hB)
    · rw [List.drop_eq_nil_of_le hj, kn_jn_nil_r, List.append_nil] at ho
      exact h ct mk (by rw [← ho]; exact M)
    have da := List.drop_eq_getElem_cons hi
    have db := List.drop_eq_getElem_cons hj
    have ej : kn_jn (m + 1) ((S A).drop i) ((S B).drop j) = if (S B)[j] < (S A)[i] then (S B)[j] :: kn_jn m ((S A).drop i) ((S B).drop (j + 1)) else (S A)[i] :: kn_jn m ((S A).drop (i + 1)) ((S B).drop j) := by
      rw [da, db, kn_jn]
    rw [ej] at ho
    refine kn_gt hA (by omega) (kn_gt hB (by omega) ?_)
    rw [(R A hA).2.2 i hi, (R B hB).2.2 j hj]
    by_cases z : (S B)[j] < (S A)[i]
    · rw [if_pos z] at ho
      refine br_t z (kn_Yw M (fun ct' mk' M' => br_t z (nm_r (nI_1 j) (nm_r (nI_1 k) (ih (k + 1) i (j + 1) _ ct' mk' (by omega) (by omega) (kn_l1 hek) ((kn_app _ _ _).symm.trans ho) M')))))
    · rw [if_neg z] at ho
      refine br_f z (kn_Yw M (fun ct' mk' M' => br_f z (nm_r (nI_1 i) (nm_r (nI_1 k) (ih (k + 1) (i + 1) j _ ct' mk' (by omega) (by omega) (kn_l1 hek) ((kn_app _ _ _).symm.trans ho) M')))))
theorem kn_Ysource {p q x2 x3 : Int32} (hi : i < 8) (hb : yb (nI i).toNatClampNeg = nI B) (hB : B < 100) (hp : yp (nI i).toNatClampNeg = p) (hq : yq (nI i).toNatClampNeg = q)
    (h : ∀ ct' mk', kn_Mk (o.take 20) ct' mk' → wY_work_63 post (nI i) x2 x3 fn ct' yk ya yb yc yd yp yq yr yw sz it mk') :
    ∀ (m k : Nat) (e : List Int32) (ct : Int32) (mk : Nat → Int32), k + m = B → e ++ kn_sr p q m k = o → kn_Mk (e.take 20) ct mk → wY_work_26 post (nI i) x2 x3 (m + 1) (nI k) fn ct yk ya yb yc yd yp yq yr yw sz it mk := by
  have hin : vp_in (nI i) 8 := vp_in_nI hi (by omega)
  intro m
  induction m with
  | zero =>
    intro k e ct mk hk ho M
    refine ⟨hin, br_t (by rw [hb]; exact nI_le (by omega) (by omega)) (h ct mk ?_)⟩
    rw [kn_sr, List.append_nil] at ho
    rw [← ho]
    exact M
  | succ m ih =>
    intro k e ct mk hk ho M
    rw [kn_sr] at ho
    refine ⟨hin, br_f (by rw [hb]; exact nI_ge (by omega) (by omega)) ⟨hin, hin, ?_⟩⟩
    rw [hp, hq]
    exact kn_Yw M (fun ct' mk' M' => nm_r (nI_1 k) (ih (k + 1) _ ct' mk' (by omega) ((kn_app _ _ _).symm.trans ho) M'))
-- process p as the reference holds it
def kn_RY (p : kn_P) (k a b c d n q : Int32) : Prop :=
  k = nI p.1 ∧ a = nI p.2.1 ∧ b = nI p.2.2.1 ∧ c = nI p.2.2.2.1 ∧ d = nI p.2.2.2.2.1 ∧ n = p.2.2.2.2.2.1 ∧ (p.1 = 0 → q = p.2.2.2.2.2.2)
theorem kn_Mk0 (mk : Nat → Int32) : kn_Mk (([] : List Int32).take 20) 0 mk := ⟨by decide, rfl, fun k h => absurd h (Nat.not_lt_zero k)⟩
theorem kn_Ywork {N : Nat → kn_P} (hi : i < 8) (ok : kn_ok (N i)) (Y : kn_RY (N i) (yk i) (ya i) (yb i) (yc i) (yd i) (yp i) (yq i)) (R : kn_Rp S sz it)
    (h : ∀ ct' mk', kn_Mk (kn_F N i S) ct' mk' → post (fn, ct', yk, ya, yb, yc, yd, yp, yq, yr, yw, sz, it, mk')) : wpY_work post (fn, ct, yk, ya, yb, yc, yd, yp, yq, yr, yw, sz, it, mk) (nI i) := by
  have hcl : (nI i).toNatClampNeg = i := nI_clamp (by omega)
  have hin : vp_in (nI i) 8 := vp_in_nI hi (by omega)
  have Y' : kn_RY (N i) (yk (nI i).toNatClampNeg) (ya (nI i).toNatClampNeg) (yb (nI i).toNatClampNeg) (yc (nI i).toNatClampNeg) (yd (nI i).toNatClampNeg) (yp (nI i).toNatClampNeg) (yq (nI i).toNatClampNeg) := by
    rw [hcl]; exact Y
  clear Y
  generalize hN : N i = pp at ok Y'
  obtain ⟨kd, A, B, C, D, P, Q⟩ := pp
  obtain ⟨o1, o2, o3, o4, o5, o6, o7⟩ := ok
  obtain ⟨y1, y2, y3, y4, y5, y6, y7⟩ := Y'
  dsimp only at o1 o2 o3 o4 o5 o6 o7 y1 y2 y3 y4 y5 y6 y7
  refine ⟨hin, nm_r y2 ⟨hin, ?_⟩⟩
  have cs : kd = 0 ∨ kd = 1 ∨ kd = 2 ∨ kd = 3 ∨ kd = 4 ∨ kd = 5 ∨ kd = 6 ∨ kd = 7 := by omega
  rcases cs with rfl | rfl | rfl | rfl | rfl | rfl | rfl | rfl
  · have eF : kn_F N i S = (kn_sr P Q B 0).take 20 := by unfold kn_F; rw [hN]; rfl
    rw [eF] at h
    refine br_t (kn_ky y1 (by decide)) ⟨B + 1, kn_Ysource hi y3 (by omega) y6 (y7 rfl) (fun ct' mk' M' => ?_) B 0 [] 0 mk (by omega) rfl (kn_Mk0 mk)⟩
    exact ⟨hin, br_f (kn_kn y1 (by decide)) ⟨hin, br_f (kn_kn y1 (by decide)) ⟨1, ⟨hin, br_t (kn_ky y1 (by decide)) (h ct' mk' M')⟩⟩⟩⟩
  · have eF : kn_F N i S = (S A).take 20 := by unfold kn_F; rw [hN]; rfl
    rw [eF] at h
    refine br_f (kn_kn y1 (by decide)) ⟨hin, br_f (kn_kn y1 (by decide)) ⟨hin, br_f (kn_kn y1 (by decide)) ⟨(S A).length + 1, ?_⟩⟩⟩
    exact kn_Y107 (kd := 1) hi (Or.inl rfl) y1 o2 y3 (o4 (by decide)) y6 R h (S A).length 0 [] 0 0 mk (by omega) rfl (kn_Mk0 mk)
  · have eF : kn_F N i S = (kn_pl (S A) (S B)).take 20 := by unfold kn_F; rw [hN]; rfl
    rw [eF] at h
    refine br_f (kn_kn y1 (by decide)) ⟨hin, br_f (kn_kn y1 (by decide)) ⟨hin, br_f (kn_kn y1 (by decide)) ⟨(S A).length + 1, ?_⟩⟩⟩
    exact kn_Y107 (kd := 2) hi (Or.inr (Or.inl rfl)) y1 o2 y3 (o4 (by decide)) y6 R h (S A).length 0 [] 0 0 mk (by omega) rfl (kn_Mk0 mk)
  · have eF : kn_F N i S = (P :: S A).take 20 := by unfold kn_F; rw [hN]; rfl
    rw [eF] at h
    refine br_f (kn_kn y1 (by decide)) ⟨hin, br_t (kn_ky y1 (by decide)) ⟨hin, kn_Yw (e := []) (kn_Mk0 mk) (fun ct' mk' M' => ⟨hin, br_f (kn_kn y1 (by decide)) ⟨(S A).length + 1, ?_⟩⟩)⟩⟩
    exact kn_Y107 (kd := 3) hi (Or.inr (Or.inr (Or.inl rfl))) y1 o2 y3 (o4 (by decide)) y6 R h (S A).length 0 [P] 0 ct' mk' (by omega) rfl (by rw [y6] at M'; exact M')
  · have eF : kn_F N i S = (kn_pk P (S A)).take 20 := by unfold kn_F; rw [hN]; rfl
    rw [eF] at h
    refine br_f (kn_kn y1 (by decide)) ⟨hin, br_f (kn_kn y1 (by decide)) ⟨hin, br_f (kn_kn y1 (by decide)) ⟨(S A).length + 1, ?_⟩⟩⟩
    exact kn_Y107 (kd := 4) hi (Or.inr (Or.inr (Or.inr (Or.inl rfl)))) y1 o2 y3 (o4 (by decide)) y6 R h (S A).length 0 [] 0 0 mk (by omega) rfl (kn_Mk0 mk)
  · have eF : kn_F N i S = (kn_jn 20 (S A) (S B)).take 20 := by unfold kn_F; rw [hN]; rfl
    rw [eF] at h
    refine br_f (kn_kn y1 (by decide)) ⟨hin, br_f (kn_kn y1 (by decide)) ⟨hin, br_t (kn_ky y1 (by decide)) ⟨hin, ?_⟩⟩⟩
    rw [y3]
    exact ⟨21, kn_Yjoin o2 (o4 (by decide)) R (fun ct' mk' M' => ⟨1, ⟨hin, br_f (kn_kn y1 (by decide)) ⟨hin, br_t (kn_ky y1 (by decide)) (h ct' mk' M')⟩⟩⟩) 20 0 0 0 [] 0 mk rfl rfl rfl rfl (kn_Mk0 mk)⟩
  · have eF : kn_F N i S = (kn_sm 0 (S A)).take 20 := by unfold kn_F; rw [hN]; rfl
    rw [eF] at h
    refine br_f (kn_kn y1 (by decide)) ⟨hin, br_f (kn_kn y1 (by decide)) ⟨hin, br_f (kn_kn y1 (by decide)) ⟨(S A).length + 1, ?_⟩⟩⟩
    exact kn_Y107 (kd := 6) hi (Or.inr (Or.inr (Or.inr (Or.inr (Or.inl rfl))))) y1 o2 y3 (o4 (by decide)) y6 R h (S A).length 0 [] 0 0 mk (by omega) rfl (kn_Mk0 mk)
  · have eF : kn_F N i S = (kn_pr (S A)).take 20 := by unfold kn_F; rw [hN]; rfl
    rw [eF] at h
    refine br_f (kn_kn y1 (by decide)) ⟨hin, br_f (kn_kn y1 (by decide)) ⟨hin, br_f (kn_kn y1 (by decide)) ⟨(S A).length + 1, ?_⟩⟩⟩
    exact kn_Y107 (kd := 7) hi (Or.inr (Or.inr (Or.inr (Or.inr (Or.inr rfl))))) y1 o2 y3 (o4 (by decide)) y6 R h (S A).length 0 [] 0 0 mk (by omega) rfl (kn_Mk0 mk)
end
end
section
section
variable {fn ct : Int32} {yk ya yb yc yd yp yq yr yw sz it mk : Nat → Int32} {S T : Nat → List Int32}
-- the cells of channel c hold the first k of g, all others what they held
def kn_Wr (c : Nat) (g : List Int32) (it0 : Nat → Int32) (k : Nat) (it : Nat → Int32) : Prop :=
  (∀ j (h : j < g.length), j < k → it (20 * c + j) = g[j]) ∧ (∀ x, (x < 20 * c ∨ 20 * c + 20 ≤ x) → it x = it0 x)
theorem kn_Wr_e {c : Nat} {g : List Int32} {it0 it' : Nat → Int32} (R : kn_Rp S sz it0) (hg : g.length ≤ 20) (W : kn_Wr c g it0 g.length it') : kn_Rp (kn_up S c g) (upd sz c (nI g.length)) it' := by
  intro j hj
  by_cases z : j = c
  · subst z
    rw [kn_up_s]
    exact ⟨hg, pk_us, fun k h => W.1 k h h⟩
  · rw [kn_up_o z]
    obtain ⟨r1, r2, r3⟩ := R j hj
    refine ⟨r1, by rw [pk_un z]; exact r2, fun k h => ?_⟩
    rw [W.2 _ (by omega)]
    exact r3 k h
theorem kn_Y21 {post : Int32 → SY → Prop} {c : Nat} {x2 : Int32} {g : List Int32} {it0 : Nat → Int32} (hc : c < 10) (R : kn_Rp S sz it0) (M : kn_Mk g ct mk) (hx : narrow .boolean (.int x2) = .int x2)
    (h : ∀ sz' it', kn_Rp (kn_up S c g) sz' it' → post x2 (fn, ct, yk, ya, yb, yc, yd, yp, yq, yr, yw, sz', it', mk)) :
    ∀ (m k : Nat) (it : Nat → Int32), k + m = g.length → kn_Wr c g it0 k it → wY_store_21 post (nI c) x2 fn ct (m + 1) (nI k) yk ya yb yc yd yp yq yr yw sz it mk := by
  obtain ⟨m1, m2, m3⟩ := M
  intro m
  induction m with
  | zero =>
    intro k it hk W
    have e : k = g.length := by omega
    refine br_t (by rw [m2]; exact nI_le (by omega) (by omega)) ⟨vp_in_nI hc (by omega), nm_e ⟨hx, h _ _ ?_⟩⟩
    rw [nI_clamp (by omega), m2]
    rw [e] at W
    exact kn_Wr_e R m1 W
  | succ m ih =>
    intro k it hk W
    refine br_f (by rw [m2]; exact nI_ge (by omega) (by omega)) ⟨vp_in_nI (by omega) (by omega), by rw [kn_iy]; exact vp_in_nI (by omega) (by omega), nm_e (nm_r (nI_1 k) (ih (k + 1) _ (by omega) ?_))⟩
    rw [kn_iy, nI_clamp (by omega), nI_clamp (by omega), m3 k (by omega)]
    refine ⟨?_, ?_⟩
    · intro j hj hjk
      by_cases z : j = k
      · subst z; rw [pk_us]
      · rw [pk_un (by omega)]; exact W.1 j hj (by omega)
    · intro x hx
      rw [pk_un (by omega)]
      exact W.2 x hx
theorem kn_Ystore {post : Int32 → SY → Prop} {c : Nat} {g : List Int32} (hc : c < 10) (R : kn_Rp S sz it) (M : kn_Mk g ct mk)
    (h0 : g.length ≤ (S c).length → ∀ sz' it', kn_Rp (kn_up S c g) sz' it' → post 0 (fn, ct, yk, ya, yb, yc, yd, yp, yq, yr, yw, sz', it', mk))
    (h1 : (S c).length < g.length → ∀ sz' it', kn_Rp (kn_up S c g) sz' it' → post 1 (fn, ct, yk, ya, yb, yc, yd, yp, yq, yr, yw, sz', it', mk)) : wpY_store post (fn, ct, yk, ya, yb, yc, yd, yp, yq, yr, yw, sz, it, mk) (nI c) := by
  have W0 : kn_Wr c g it 0 it := ⟨fun j _ h => absurd h (Nat.not_lt_zero j), fun _ _ => rfl⟩
  have b1 := M.1
  have b2 := (R c hc).1
  refine ⟨vp_in_nI hc (by omega), pk_le g.length (S c).length (fun z => ?_) (fun z => ?_) M.2.1 (kn_lA R hc)⟩
  · exact ⟨g.length + 1, kn_Y21 hc R M rfl (h0 z) g.length 0 it (by omega) W0⟩
  · exact ⟨g.length + 1, kn_Y21 hc R M rfl (h1 z) g.length 0 it (by omega) W0⟩
-- grown says whether the round has written
def kn_Fl (g : Int32) (S T : Nat → List Int32) : Prop := (g = 0 → kn_tot T 10 = kn_tot S 10) ∧ (g ≠ 0 → kn_tot S 10 < kn_tot T 10)
theorem kn_Fl1 (h : kn_tot S 10 < kn_tot T 10) : kn_Fl 1 S T := ⟨fun e => absurd e (by decide), fun _ => h⟩
theorem kn_Y40 {post : SY → Prop} {J : Int32 → Int32 → Int32 → Int32 → (Nat → Int32) → (Nat → Int32) → (Nat → Int32) → (Nat → Int32) → (Nat → Int32) → (Nat → Int32) → (Nat → Int32) → (Nat → Int32) → (Nat → Int32) → (Nat → Int32) → (Nat → Int32) → (Nat → Int32) → Prop}
    {N : Nat → kn_P} {n r : Nat} (hn : n ≤ 8) (hv : fn = nI n) (U : kn_Un N n) (Y : ∀ i, i < n → kn_RY (N i) (yk i) (ya i) (yb i) (yc i) (yd i) (yp i) (yq i))
    (hJ : ∀ (g : Int32) (T : Nat → List Int32) (ct : Int32) (sz it mk : Nat → Int32), kn_Rd N n S n T → kn_Fl g S T → kn_Rp T sz it → J g (nI (r + 1)) fn ct yk ya yb yc yd yp yq yr yw sz it mk) :
    ∀ (m i : Nat) (g : Int32) (T : Nat → List Int32) (ct : Int32) (sz it mk : Nat → Int32), i + m = n → kn_Rd N n S i T → kn_Fl g S T → kn_Rp T sz it → wY_settle_40 post J (nI r) (m + 1) g (nI i) fn ct yk ya yb yc yd yp yq yr yw sz it mk := by
  intro m
  induction m with
  | zero =>
    intro i g T ct sz it mk hi D F R
    have e : i = n := by omega
    subst e
    exact br_t (by rw [hv]; exact nI_le (Nat.le_refl _) (by omega)) (nm_r (nI_1 r) (hJ g T ct sz it mk D F R))
  | succ m ih =>
    intro i g T ct sz it mk hi D F R
    have hin : vp_in (nI i) 8 := vp_in_nI (by omega) (by omega)
    have hcl : (nI i).toNatClampNeg = i := nI_clamp (by omega)
    have hi' : i < n := by omega
    have ok := U.1 i hi'
    have Yi := Y i hi'
    have tT := kn_tot_le D.2.2.1 10
    have hC : yc (nI i).toNatClampNeg = nI (N i).2.2.2.1 := by rw [hcl]; exact Yi.2.2.2.1
    have hD : yd (nI i).toNatClampNeg = nI (N i).2.2.2.2.1 := by rw [hcl]; exact Yi.2.2.2.2.1
    have hK : yk (nI i).toNatClampNeg = nI (N i).1 := by rw [hcl]; exact Yi.1
    have wC : T (N i).2.2.2.1 <+: kn_F N i T := D.2.1.1 i hi' _ (Or.inl rfl)
    refine br_f (by rw [hv]; exact nI_ge (by omega) (by omega)) (kn_Ywork (by omega) ok Yi R (fun ct1 mk1 M1 => ⟨hin, ?_⟩))
    rw [hC]
    -- the second store, or none; the first one left flag g1
    have snd : ∀ (g1 : Int32) (sz1 it1 : Nat → Int32), kn_Rp (kn_up T (N i).2.2.2.1 (kn_F N i T)) sz1 it1 → kn_Fl g1 S (kn_up T (N i).2.2.2.1 (kn_F N i T)) →
        wY_settle_68 post J (wY_settle_40 post J (nI r) (m + 1)) g1 (nI r) (nI i) fn ct1 yk ya yb yc yd yp yq yr yw sz1 it1 mk1 := by
      intro g1 sz1 it1 R1 F1
      refine ⟨hin, ?_⟩
      by_cases k1 : (N i).1 = 1
      · refine br_t (kn_ky hK (by rw [k1]; decide)) ⟨hin, ?_⟩
        rw [hD]
        have ne : (N i).2.2.2.1 ≠ (N i).2.2.2.2.1 := ok.2.2.2.2.2.2 k1
        have wD : T (N i).2.2.2.2.1 <+: kn_F N i T := D.2.1.1 i hi' _ (Or.inr ⟨k1, rfl⟩)
        have eD : kn_up T (N i).2.2.2.1 (kn_F N i T) (N i).2.2.2.2.1 = T (N i).2.2.2.2.1 := kn_up_o (fun e => ne e.symm)
        have st : kn_St N i T (kn_up (kn_up T (N i).2.2.2.1 (kn_F N i T)) (N i).2.2.2.2.1 (kn_F N i T)) := by
          have e : N i = (1, (N i).2.1, (N i).2.2.1, (N i).2.2.2.1, (N i).2.2.2.2.1, (N i).2.2.2.2.2.1, (N i).2.2.2.2.2.2) := by rw [← k1]
          exact kn_St2 e rfl
        have L1 : kn_le (kn_up T (N i).2.2.2.1 (kn_F N i T)) (kn_up (kn_up T (N i).2.2.2.1 (kn_F N i T)) (N i).2.2.2.2.1 (kn_F N i T)) := by
          intro c
          by_cases z : c = (N i).2.2.2.2.1
          · rw [z, kn_up_s, eD]; exact wD
          · rw [kn_up_o z]; exact List.prefix_rfl
        have t1 := kn_tot_le L1 10
        refine kn_Ystore ok.2.2.2.2.2.1 R1 M1 (fun z sz2 it2 R2 => ?_) (fun z sz2 it2 R2 => ?_)
        · refine br_t rfl (nm_r (nI_1 i) (ih (i + 1) g1 _ ct1 sz2 it2 mk1 (by omega) (kn_Rd_s U D hi' st) ?_ R2))
          have e : kn_up (kn_up T (N i).2.2.2.1 (kn_F N i T)) (N i).2.2.2.2.1 (kn_F N i T) = kn_up T (N i).2.2.2.1 (kn_F N i T) := by
            funext c
            by_cases y : c = (N i).2.2.2.2.1
            · rw [y, kn_up_s, eD]
              rw [eD] at z
              exact (wD.eq_of_length_le z).symm
            · rw [kn_up_o y]
          rw [e]
          exact F1
        · refine br_f (by decide) (nm_r (nI_1 i) (ih (i + 1) 1 _ ct1 sz2 it2 mk1 (by omega) (kn_Rd_s U D hi' st) (kn_Fl1 ?_) R2))
          have t2 : kn_tot S 10 ≤ kn_tot (kn_up T (N i).2.2.2.1 (kn_F N i T)) 10 := by
            by_cases y : g1 = 0
            · rw [F1.1 y]; omega
            · have := F1.2 y; omega
          have t3 := kn_tot_lt L1 (c := (N i).2.2.2.2.1) (by rw [kn_up_s]; exact z) 10 ok.2.2.2.2.2.1
          omega
      · refine br_f (kn_kn hK ?_) (nm_r (nI_1 i) (ih (i + 1) g1 _ ct1 sz1 it1 mk1 (by omega) (kn_Rd_s U D hi' ?_) F1 R1))
        · have o1 := ok.1
          intro e
          rw [show (1 : Int32) = nI 1 from rfl, nI_eq (by omega) (by omega)] at e
          exact k1 e
        · exact kn_St1 (A := (N i).2.1) (B := (N i).2.2.1) (D := (N i).2.2.2.2.1) (P := (N i).2.2.2.2.2.1) (Q := (N i).2.2.2.2.2.2) rfl k1 rfl
    have L0 : kn_le T (kn_up T (N i).2.2.2.1 (kn_F N i T)) := by
      intro c
      by_cases z : c = (N i).2.2.2.1
      · rw [z, kn_up_s]; exact wC
      · rw [kn_up_o z]; exact List.prefix_rfl
    refine kn_Ystore ok.2.2.2.2.1 R M1 (fun z sz1 it1 R1 => ?_) (fun z sz1 it1 R1 => ?_)
    · refine br_t rfl (snd g sz1 it1 R1 ?_)
      have e : kn_up T (N i).2.2.2.1 (kn_F N i T) = T := by
        funext c
        by_cases y : c = (N i).2.2.2.1
        · rw [y, kn_up_s]; exact (wC.eq_of_length_le z).symm
        · rw [kn_up_o y]
      rw [e]
      exact F
    · refine br_f (by decide) (snd 1 sz1 it1 R1 (kn_Fl1 ?_))
      have t3 := kn_tot_lt L0 (c := (N i).2.2.2.1) (by rw [kn_up_s]; exact z) 10 ok.2.2.2.2.1
      omega
theorem kn_Y25 {post : SY → Prop} {N : Nat → kn_P} {n : Nat} (hn : n ≤ 8) (hv : fn = nI n) (U : kn_Un N n) (Y : ∀ i, i < n → kn_RY (N i) (yk i) (ya i) (yb i) (yc i) (yd i) (yp i) (yq i))
    (hpost : ∀ (T : Nat → List Int32) (ct : Int32) (sz it mk : Nat → Int32), kn_Ls N n T → kn_Rp T sz it → post (fn, ct, yk, ya, yb, yc, yd, yp, yq, yr, yw, sz, it, mk)) :
    ∀ (m r : Nat) (g : Int32) (T : Nat → List Int32) (ct : Int32) (sz it mk : Nat → Int32), r + m = 201 → kn_In N n T → kn_Rp T sz it → (g = 0 → kn_Ls N n T) → (g ≠ 0 → r ≤ kn_tot T 10) → wY_settle_25 post (m + 1) g (nI r) fn ct yk ya yb yc yd yp yq yr yw sz it mk := by
  intro m
  induction m with
  | zero =>
    intro r g T ct sz it mk hr I R h0 h1
    have b := kn_tot200 I
    refine br_t (nI_le (a := 201) (by omega) (by omega)) (hpost T ct sz it mk ?_ R)
    by_cases z : g = 0
    · exact h0 z
    · have := h1 z; omega
  | succ m ih =>
    intro r g T ct sz it mk hr I R h0 h1
    refine br_f (nI_ge (b := 201) (by omega) (by decide)) (br_c (fun z => hpost T ct sz it mk (h0 z) R) (fun z => ⟨n + 1, ?_⟩))
    refine kn_Y40 (S := T) hn hv U Y (fun g' T' ct' sz' it' mk' D F R' => ih (r + 1) g' T' ct' sz' it' mk' (by omega) D.2.1 R' (fun e => kn_Rd_e U D (F.1 e)) (fun e => ?_)) n 0 0 T ct sz it mk (by omega) (kn_Rd_0 I) ⟨fun _ => rfl, fun e => absurd rfl e⟩ R
    have a1 := F.2 e
    have a2 := h1 z
    omega
theorem kn_Y2 {post : SY → Prop} {N : Nat → kn_P} {n : Nat} (hn : n ≤ 8) (hv : fn = nI n) (U : kn_Un N n) (Y : ∀ i, i < n → kn_RY (N i) (yk i) (ya i) (yb i) (yc i) (yd i) (yp i) (yq i))
    (hpost : ∀ (T : Nat → List Int32) (ct : Int32) (sz it mk : Nat → Int32), kn_Ls N n T → kn_Rp T sz it → post (fn, ct, yk, ya, yb, yc, yd, yp, yq, yr, yw, sz, it, mk)) :
    ∀ (m c : Nat) (sz : Nat → Int32), c + m = 10 → (∀ j, j < c → sz j = 0) → wY_settle_2 post fn ct (m + 1) (nI c) yk ya yb yc yd yp yq yr yw sz it mk := by
  intro m
  induction m with
  | zero =>
    intro c sz hc h
    refine br_t (nI_le (a := 10) (by omega) (by omega)) ⟨202, kn_Y25 hn hv U Y hpost 201 0 1 (fun _ => []) ct sz it mk rfl (kn_In_0 N n) ?_ (fun e => absurd e (by decide)) (fun _ => Nat.zero_le _)⟩
    intro j hj
    exact ⟨Nat.zero_le _, h j (by omega), fun k hk => absurd hk (Nat.not_lt_zero k)⟩
  | succ m ih =>
    intro c sz hc h
    refine br_f (nI_ge (b := 10) (by omega) (by decide)) ⟨vp_in_nI (by omega) (by omega), nm_e (nm_r (nI_1 c) (ih (c + 1) _ (by omega) ?_))⟩
    intro j hj
    rw [nI_clamp (by omega)]
    by_cases z : j = c
    · rw [z, pk_us]
    · rw [pk_un z]; exact h j (by omega)
theorem kn_Ysettle {post : SY → Prop} {N : Nat → kn_P} {n : Nat} (hn : n ≤ 8) (hv : fn = nI n) (U : kn_Un N n) (Y : ∀ i, i < n → kn_RY (N i) (yk i) (ya i) (yb i) (yc i) (yd i) (yp i) (yq i))
    (hpost : ∀ (T : Nat → List Int32) (ct : Int32) (sz it mk : Nat → Int32), kn_Ls N n T → kn_Rp T sz it → post (fn, ct, yk, ya, yb, yc, yd, yp, yq, yr, yw, sz, it, mk)) : wpY_settle post (fn, ct, yk, ya, yb, yc, yd, yp, yq, yr, yw, sz, it, mk) :=
  ⟨11, kn_Y2 hn hv U Y hpost 10 0 sz rfl (fun j h => absurd h (Nat.not_lt_zero j))⟩
end
end
section
-- y says of each channel whether no process has Q of it
def kn_Tb (Q : kn_P → Nat → Prop) (N : Nat → kn_P) (n : Nat) (y : Nat → Int32) : Prop := ∀ c, c < 10 → (y c = 0 ↔ ∀ i, i < n → ¬ Q (N i) c)
theorem kn_Tb_ad {Q : kn_P → Nat → Prop} {N : Nat → kn_P} {n : Nat} {y y' : Nat → Int32} {p : kn_P} (h : kn_Tb Q N n y) (h1 : ∀ c, c < 10 → Q p c → ¬ y' c = 0) (h2 : ∀ c, c < 10 → ¬ Q p c → y' c = y c) :
    kn_Tb Q (kn_ad N n p) (n + 1) y' := by
  intro c hc
  by_cases q : Q p c
  · refine ⟨fun e => absurd e (h1 c hc q), fun e => ?_⟩
    have := e n (by omega)
    rw [kn_ad_n] at this
    exact absurd q this
  · rw [h2 c hc q, h c hc]
    refine ⟨fun e i hi => ?_, fun e i hi => ?_⟩
    · by_cases z : i = n
      · rw [z, kn_ad_n]; exact q
      · rw [kn_ad_o (by omega)]; exact e i (by omega)
    · have := e i (by omega)
      rw [kn_ad_o hi] at this
      exact this
def kn_J (n : Nat) (N : Nat → kn_P) (S : Nat → List Int32) (vc : Int32) (vk va vb vcc vd vn vi vm l dd : Nat → Int32) (fn : Int32) (yk ya yb yc yd yp yq yr yw : Nat → Int32) : Prop :=
  n ≤ 8 ∧ vc = nI n ∧ fn = nI n ∧ kn_Un N n ∧ (∀ i, i < n → kn_RX (N i) (vk i) (va i) (vb i) (vcc i) (vd i) (vn i) (vi i) (vm i)) ∧
  (∀ i, i < n → kn_RY (N i) (yk i) (ya i) (yb i) (yc i) (yd i) (yp i) (yq i)) ∧ kn_Ls N n S ∧ kn_Rp S l dd ∧ kn_Tb kn_R N n yr ∧ kn_Tb kn_W N n yw
/-- the same network on both sides; X holds its smallest streams; the reference's sizes, ints and made are free -/
def i_Rel (k : Nat) (u : SX) (v : SY) : Prop := match u, v with
  | (xc, xk, xa, xb, xcc, xd, xn, xi, xm, xl, xdd), (fn, _, yk, ya, yb, yc, yd, yp, yq, yr, yw, _, _, _) => ∃ (n : Nat) (N : Nat → kn_P) (S : Nat → List Int32), kn_J n N S xc xk xa xb xcc xd xn xi xm xl xdd fn yk ya yb yc yd yp yq yr yw
theorem i_up {k : Nat} {u : SX} {v : SY} (h : i_Rel k u v) : i_Rel (k + 4) u v := h
theorem i_vc0 (k0 : Int32) : wpX_init (fun u => wpY_init (fun v => i_Rel 1 u v) k0) k0 := by
  refine ⟨0, fun _ => (0, 0, 0, 0, 0, 0, 0), fun _ => [], by omega, rfl, rfl, ⟨fun i h => absurd h (Nat.not_lt_zero i), fun i j h => absurd h (Nat.not_lt_zero i)⟩, fun i h => absurd h (Nat.not_lt_zero i),
    fun i h => absurd h (Nat.not_lt_zero i), kn_Ls_0 _, ?_, ?_, ?_⟩
  · intro c hc
    exact ⟨Nat.zero_le _, rfl, fun k h => absurd h (Nat.not_lt_zero k)⟩
  · intro c hc
    exact ⟨fun _ i h => absurd h (Nat.not_lt_zero i), fun _ => rfl⟩
  · intro c hc
    exact ⟨fun _ i h => absurd h (Nat.not_lt_zero i), fun _ => rfl⟩
theorem kn_m1 {c : Nat} (h : c < 2 ^ 31) : ¬ (-1 : Int32) = nI c := by
  intro e
  have e2 := congrArg Int32.toInt e
  rw [nI_toInt h] at e2
  have e3 : (-1 : Int32).toInt = -1 := by decide
  omega
theorem kn_m1' {c : Nat} (h : c < 2 ^ 31) : ¬ nI c = (-1 : Int32) := fun e => kn_m1 h e.symm
theorem kn_WX {p : kn_P} {k a b c d n i m : Int32} {x : Nat} (ok : kn_ok p) (X : kn_RX p k a b c d n i m) (hx : x < 10) : kn_W p x ↔ (c = nI x ∨ d = nI x) := by
  obtain ⟨o1, o2, o3, o4, o5, o6, o7⟩ := ok
  obtain ⟨x1, x2, x3, x4, x5, x6, x7, x8, x9, x10⟩ := X
  unfold kn_W
  rw [x6, nI_eq (by omega) (by omega)]
  by_cases z : p.1 = 1
  · rw [x7 z, nI_eq (by omega) (by omega)]
    constructor
    · rintro (h | h)
      · exact Or.inl h.symm
      · exact Or.inr h.2.symm
    · rintro (h | h)
      · exact Or.inl h.symm
      · exact Or.inr ⟨z, h.symm⟩
  · rw [x8 z]
    constructor
    · rintro (h | h)
      · exact Or.inl h.symm
      · exact absurd h.1 z
    · rintro (h | h)
      · exact Or.inl h.symm
      · exact absurd h (kn_m1 (by omega))
theorem kn_RXr {p : kn_P} {k a b c d n i m : Int32} {x : Nat} (ok : kn_ok p) (X : kn_RX p k a b c d n i m) (hx : x < 10) : kn_R p x ↔ (a = nI x ∨ b = nI x) := by
  obtain ⟨o1, o2, o3, o4, o5, o6, o7⟩ := ok
  obtain ⟨x1, x2, x3, x4, x5, x6, x7, x8, x9, x10⟩ := X
  unfold kn_R
  have l : (p.1 ≠ 0 ∧ x = p.2.1) ↔ a = nI x := by
    by_cases z : p.1 = 0
    · rw [x3 z]
      exact ⟨fun h => absurd z h.1, fun h => absurd h (kn_m1 (by omega))⟩
    · rw [x2 z, nI_eq (by omega) (by omega)]
      exact ⟨fun h => h.2.symm, fun h => ⟨z, h.symm⟩⟩
  have r : ((p.1 = 2 ∨ p.1 = 5) ∧ x = p.2.2.1) ↔ b = nI x := by
    by_cases z : p.1 = 2 ∨ p.1 = 5
    · rw [x4 z, nI_eq (by omega) (by omega)]
      exact ⟨fun h => h.2.symm, fun h => ⟨z, h.symm⟩⟩
    · rw [x5 z]
      exact ⟨fun h => absurd h.1 z, fun h => absurd h (kn_m1 (by omega))⟩
  rw [l, r]
section
variable {vc fn ct : Int32} {vk va vb vcc vd vn vi vm l dd yk ya yb yc yd yp yq yr yw sz it mk : Nat → Int32} {n : Nat} {N : Nat → kn_P} {S : Nat → List Int32} {c : Nat}
theorem kn_XisW2 {post : Int32 → Prop} (hn : n ≤ 8) (hv : vc = nI n) (U : kn_Un N n) (X : ∀ i, i < n → kn_RX (N i) (vk i) (va i) (vb i) (vcc i) (vd i) (vn i) (vi i) (vm i)) (hc : c < 10)
    (h0 : (∀ i, i < n → ¬ kn_W (N i) c) → post 0) (h1 : (∃ i, i < n ∧ kn_W (N i) c) → post 1) :
    ∀ (m i : Nat), i + m = n → (∀ j, j < i → ¬ kn_W (N j) c) → wX_isWritten_2 post (nI c) vc vk va vb vcc vd vn vi vm l dd (m + 1) (nI i) := by
  intro m
  induction m with
  | zero =>
    intro i hi h
    have e : i = n := by omega
    subst e
    exact br_t (by rw [hv]; exact nI_le (Nat.le_refl _) (by omega)) (h0 h)
  | succ m ih =>
    intro i hi h
    have hin : vp_in (nI i) 8 := vp_in_nI (by omega) (by omega)
    have q := kn_WX (U.1 i (by omega)) (X i (by omega)) hc
    have cl : (nI i).toNatClampNeg = i := nI_clamp (by omega)
    refine br_f (by rw [hv]; exact nI_ge (by omega) (by omega)) ⟨hin, br_c (fun e => ?_) (fun e => ⟨hin, br_c (fun f => ?_) (fun f => ?_)⟩)⟩
    · rw [cl] at e
      exact h1 ⟨i, by omega, q.mpr (Or.inl e)⟩
    · rw [cl] at f
      exact h1 ⟨i, by omega, q.mpr (Or.inr f)⟩
    · rw [cl] at e f
      refine nm_r (nI_1 i) (ih (i + 1) (by omega) ?_)
      intro j hj
      by_cases z : j = i
      · rw [z]
        intro g
        rcases q.mp g with g | g
        · exact e g
        · exact f g
      · exact h j (by omega)
theorem kn_XisW {post : Int32 → Prop} (hn : n ≤ 8) (hv : vc = nI n) (U : kn_Un N n) (X : ∀ i, i < n → kn_RX (N i) (vk i) (va i) (vb i) (vcc i) (vd i) (vn i) (vi i) (vm i)) (hc : c < 10)
    (h0 : (∀ i, i < n → ¬ kn_W (N i) c) → post 0) (h1 : (∃ i, i < n ∧ kn_W (N i) c) → post 1) : wpX_isWritten post (vc, vk, va, vb, vcc, vd, vn, vi, vm, l, dd) (nI c) :=
  ⟨n + 1, kn_XisW2 hn hv U X hc h0 h1 n 0 (by omega) (fun j h => absurd h (Nat.not_lt_zero j))⟩
theorem kn_XisR2 {post : Int32 → Prop} (hn : n ≤ 8) (hv : vc = nI n) (U : kn_Un N n) (X : ∀ i, i < n → kn_RX (N i) (vk i) (va i) (vb i) (vcc i) (vd i) (vn i) (vi i) (vm i)) (hc : c < 10)
    (h0 : (∀ i, i < n → ¬ kn_R (N i) c) → post 0) (h1 : (∃ i, i < n ∧ kn_R (N i) c) → post 1) :
    ∀ (m i : Nat), i + m = n → (∀ j, j < i → ¬ kn_R (N j) c) → wX_isRead_2 post (nI c) vc vk va vb vcc vd vn vi vm l dd (m + 1) (nI i) := by
  intro m
  induction m with
  | zero =>
    intro i hi h
    have e : i = n := by omega
    subst e
    exact br_t (by rw [hv]; exact nI_le (Nat.le_refl _) (by omega)) (h0 h)
  | succ m ih =>
    intro i hi h
    have hin : vp_in (nI i) 8 := vp_in_nI (by omega) (by omega)
    have q := kn_RXr (U.1 i (by omega)) (X i (by omega)) hc
    have cl : (nI i).toNatClampNeg = i := nI_clamp (by omega)
    refine br_f (by rw [hv]; exact nI_ge (by omega) (by omega)) ⟨hin, br_c (fun e => ?_) (fun e => ⟨hin, br_c (fun f => ?_) (fun f => ?_)⟩)⟩
    · rw [cl] at e
      exact h1 ⟨i, by omega, q.mpr (Or.inl e)⟩
    · rw [cl] at f
      exact h1 ⟨i, by omega, q.mpr (Or.inr f)⟩
    · rw [cl] at e f
      refine nm_r (nI_1 i) (ih (i + 1) (by omega) ?_)
      intro j hj
      by_cases z : j = i
      · rw [z]
        intro g
        rcases q.mp g with g | g
        · exact e g
        · exact f g
      · exact h j (by omega)
theorem kn_XisR {post : Int32 → Prop} (hn : n ≤ 8) (hv : vc = nI n) (U : kn_Un N n) (X : ∀ i, i < n → kn_RX (N i) (vk i) (va i) (vb i) (vcc i) (vd i) (vn i) (vi i) (vm i)) (hc : c < 10)
    (h0 : (∀ i, i < n → ¬ kn_R (N i) c) → post 0) (h1 : (∃ i, i < n ∧ kn_R (N i) c) → post 1) : wpX_isRead post (vc, vk, va, vb, vcc, vd, vn, vi, vm, l, dd) (nI c) :=
  ⟨n + 1, kn_XisR2 hn hv U X hc h0 h1 n 0 (by omega) (fun j h => absurd h (Nat.not_lt_zero j))⟩
end
theorem kn_RX_ad {N : Nat → kn_P} {n : Nat} {p : kn_P} {vk va vb vcc vd vn vi vm vk' va' vb' vcc' vd' vn' vi' vm' : Nat → Int32}
    (X : ∀ i, i < n → kn_RX (N i) (vk i) (va i) (vb i) (vcc i) (vd i) (vn i) (vi i) (vm i)) (hp : kn_RX p (vk' n) (va' n) (vb' n) (vcc' n) (vd' n) (vn' n) (vi' n) (vm' n))
    (e : ∀ i, i < n → vk' i = vk i ∧ va' i = va i ∧ vb' i = vb i ∧ vcc' i = vcc i ∧ vd' i = vd i ∧ vn' i = vn i ∧ vi' i = vi i ∧ vm' i = vm i) :
    ∀ i, i < n + 1 → kn_RX (kn_ad N n p i) (vk' i) (va' i) (vb' i) (vcc' i) (vd' i) (vn' i) (vi' i) (vm' i) := by
  intro i hi
  by_cases z : i = n
  · rw [z, kn_ad_n]; exact hp
  · obtain ⟨e1, e2, e3, e4, e5, e6, e7, e8⟩ := e i (by omega)
    rw [kn_ad_o (by omega), e1, e2, e3, e4, e5, e6, e7, e8]
    exact X i (by omega)
theorem kn_RY_ad {N : Nat → kn_P} {n : Nat} {p : kn_P} {vk va vb vcc vd vn vi vk' va' vb' vcc' vd' vn' vi' : Nat → Int32}
    (X : ∀ i, i < n → kn_RY (N i) (vk i) (va i) (vb i) (vcc i) (vd i) (vn i) (vi i)) (hp : kn_RY p (vk' n) (va' n) (vb' n) (vcc' n) (vd' n) (vn' n) (vi' n))
    (e : ∀ i, i < n → vk' i = vk i ∧ va' i = va i ∧ vb' i = vb i ∧ vcc' i = vcc i ∧ vd' i = vd i ∧ vn' i = vn i ∧ vi' i = vi i) :
    ∀ i, i < n + 1 → kn_RY (kn_ad N n p i) (vk' i) (va' i) (vb' i) (vcc' i) (vd' i) (vn' i) (vi' i) := by
  intro i hi
  by_cases z : i = n
  · rw [z, kn_ad_n]; exact hp
  · obtain ⟨e1, e2, e3, e4, e5, e6, e7⟩ := e i (by omega)
    rw [kn_ad_o (by omega), e1, e2, e3, e4, e5, e6, e7]
    exact X i (by omega)
theorem kn_nb1 : vp_nar .boolean 1 = 1 := rfl
theorem kn_nb0 : vp_nar .boolean 0 = 0 := rfl
theorem kn_uo {f : Nat → Int32} {n i : Nat} {x : Int32} (h : i < n) : upd f n x i = f i := pk_un (by omega)
end
section
section
variable {vc fn ct : Int32} {vk va vb vcc vd vn vi vm l dd yk ya yb yc yd yp yq yr yw sz it mk : Nat → Int32} {S : Nat → List Int32}
theorem kn_ge10 {v : Int32} (h : nI 10 ≤ v) : ¬ v < 0 ∧ (10 : Int32) ≤ v ∧ 9 < v := by
  have h1 := Int32.le_iff_toInt_le.mp h
  rw [nI_toInt (by omega)] at h1
  refine ⟨fun z => ?_, h, ?_⟩
  · have h2 := Int32.lt_iff_toInt_lt.mp z
    rw [show (0 : Int32).toInt = 0 from by decide] at h2
    omega
  · rw [Int32.lt_iff_toInt_lt, show (9 : Int32).toInt = 9 from by decide]
    omega
theorem kn_chX0 {post : Int32 → Prop} {v : Int32} (h : v < 0 ∨ nI 10 ≤ v) (p : post 0) : wpX_isChannel post (vc, vk, va, vb, vcc, vd, vn, vi, vm, l, dd) v := by
  rcases h with h | h
  · exact br_t h p
  · have g := kn_ge10 h
    exact br_f g.1 (br_t g.2.1 p)
theorem kn_chX1 {post : Int32 → Prop} {c : Nat} (h : c < 10) (p : post 1) : wpX_isChannel post (vc, vk, va, vb, vcc, vd, vn, vi, vm, l, dd) (nI c) :=
  br_f (nI_pos (by omega)) (br_f (nI_ge (b := 10) h (by decide)) p)
theorem kn_chY0 {post : Int32 → Prop} {v : Int32} (h : v < 0 ∨ nI 10 ≤ v) (p : post 0) : wpY_isChannel post (fn, ct, yk, ya, yb, yc, yd, yp, yq, yr, yw, sz, it, mk) v := by
  rcases h with h | h
  · exact br_t h p
  · have g := kn_ge10 h
    exact br_f g.1 (br_t g.2.2 p)
theorem kn_chY1 {post : Int32 → Prop} {c : Nat} (h : c < 10) (p : post 1) : wpY_isChannel post (fn, ct, yk, ya, yb, yc, yd, yp, yq, yr, yw, sz, it, mk) (nI c) :=
  br_f (nI_pos (by omega)) (br_f (nI_nlt (a := 9) (by omega) (by omega)) p)
theorem kn_ch (v : Int32) : (v < 0 ∨ nI 10 ≤ v) ∨ ∃ c : Nat, c < 10 ∧ v = nI c := by
  rcases pk_ix v (n := 10) (by omega) with h | h | h
  · exact Or.inl (Or.inl h)
  · exact Or.inl (Or.inr h)
  · exact Or.inr h
-- the answer of firstDifference from k on
def kn_fd (x y : List Int32) : Nat → Nat → Int32
  | 0, _ => -1
  | m + 1, k => if k < x.length then (if k < y.length then (if x[k]? = y[k]? then kn_fd x y m (k + 1) else nI k) else nI k) else (if k < y.length then nI k else -1)
theorem kn_fdXo {post : Int32 → Prop} {c d : Nat} (hc : c < 10) (hd : d < 10) (R : kn_Rp S l dd) (h : post (-1)) :
    ∀ (m k : Nat), k + m = 20 → (S c).length ≤ k → (S d).length ≤ k → wX_firstDifference_21 post (nI c) (nI d) vc vk va vb vcc vd vn vi vm l dd (m + 1) (nI k) := by
  intro m
  induction m with
  | zero =>
    intro k hk a b
    exact br_t (nI_le (a := 20) (by omega) (by omega)) h
  | succ m ih =>
    intro k hk a b
    refine br_f (nI_ge (b := 20) (by omega) (by decide)) ⟨vp_in_nI hc (by omega), br_t (by rw [kn_lA R hc]; exact nI_le a (by omega)) ?_⟩
    refine ⟨vp_in_nI hd (by omega), br_t (by rw [kn_lA R hd]; exact nI_le b (by omega)) ?_⟩
    exact br_t rfl (br_t rfl (nm_r (nI_1 k) (ih (k + 1) (by omega) (by omega) (by omega))))
theorem kn_fdX {post : Int32 → Prop} {c d : Nat} (hc : c < 10) (hd : d < 10) (R : kn_Rp S l dd) :
    ∀ (m k : Nat), k + m = 20 → post (kn_fd (S c) (S d) m k) → wX_firstDifference_21 post (nI c) (nI d) vc vk va vb vcc vd vn vi vm l dd (m + 1) (nI k) := by
  have bc := (R c hc).1
  have bd := (R d hd).1
  intro m
  induction m with
  | zero =>
    intro k hk h
    exact br_t (nI_le (a := 20) (by omega) (by omega)) h
  | succ m ih =>
    intro k hk h
    rw [kn_fd] at h
    by_cases z : k < (S c).length
    · rw [if_pos z] at h
      refine br_f (nI_ge (b := 20) (by omega) (by decide)) ⟨vp_in_nI hc (by omega), br_f (by rw [kn_lA R hc]; exact nI_ge z (by omega)) ⟨vp_in_nI hd (by omega), ?_⟩⟩
      by_cases y : k < (S d).length
      · rw [if_pos y, List.getElem?_eq_getElem z, List.getElem?_eq_getElem y] at h
        refine br_f (by rw [kn_lA R hd]; exact nI_ge y (by omega)) (br_t rfl (br_f (by decide) ?_))
        obtain ⟨i1, e1⟩ := kn_rd R (fun _ => List.prefix_rfl) hc z
        obtain ⟨i2, e2⟩ := kn_rd R (fun _ => List.prefix_rfl) hd y
        refine ⟨i1, i2, ?_⟩
        rw [e1, e2]
        by_cases q : (S c)[k] = (S d)[k]
        · rw [if_pos (by rw [q])] at h
          exact br_t q (nm_r (nI_1 k) (ih (k + 1) (by omega) h))
        · rw [if_neg (fun e => q (Option.some.inj e))] at h
          exact br_f q h
      · rw [if_neg y] at h
        exact br_t (by rw [kn_lA R hd]; exact nI_le (by omega) (by omega)) (br_f (by decide) h)
    · rw [if_neg z] at h
      by_cases y : k < (S d).length
      · rw [if_pos y] at h
        refine br_f (nI_ge (b := 20) (by omega) (by decide)) ⟨vp_in_nI hc (by omega), br_t (by rw [kn_lA R hc]; exact nI_le (by omega) (by omega)) ⟨vp_in_nI hd (by omega), ?_⟩⟩
        exact br_f (by rw [kn_lA R hd]; exact nI_ge y (by omega)) (br_f (by decide) h)
      · rw [if_neg y] at h
        exact kn_fdXo hc hd R h (m + 1) k hk (by omega) (by omega)
theorem kn_fdY {post : Int32 → SY → Prop} {c d : Nat} (hc : c < 10) (hd : d < 10) (R : kn_Rp S sz it) :
    ∀ (m k : Nat), k + m = 20 → post (kn_fd (S c) (S d) m k) (fn, ct, yk, ya, yb, yc, yd, yp, yq, yr, yw, sz, it, mk) → wY_firstDifference_25 post (nI c) (nI d) fn ct yk ya yb yc yd yp yq yr yw sz it mk (m + 1) (nI k) := by
  have bc := (R c hc).1
  have bd := (R d hd).1
  intro m
  induction m with
  | zero =>
    intro k hk h
    exact br_t (nI_le (a := 20) (by omega) (by omega)) h
  | succ m ih =>
    intro k hk h
    rw [kn_fd] at h
    refine br_f (nI_ge (b := 20) (by omega) (by decide)) ⟨vp_in_nI hc (by omega), ?_⟩
    by_cases z : k < (S c).length
    · rw [if_pos z] at h
      refine br_t (by rw [kn_lA R hc]; exact nI_lt z (by omega)) ⟨vp_in_nI hc (by omega), br_f (by rw [kn_lA R hc]; exact nI_ge z (by omega)) ⟨vp_in_nI hd (by omega), ?_⟩⟩
      by_cases y : k < (S d).length
      · rw [if_pos y, List.getElem?_eq_getElem z, List.getElem?_eq_getElem y] at h
        refine br_f (by rw [kn_lA R hd]; exact nI_ge y (by omega)) (kn_gt hc (by omega) (kn_gt hd (by omega) ?_))
        rw [(R c hc).2.2 k z, (R d hd).2.2 k y]
        by_cases q : (S c)[k] = (S d)[k]
        · rw [if_pos (by rw [q])] at h
          exact br_t q (nm_r (nI_1 k) (ih (k + 1) (by omega) h))
        · rw [if_neg (fun e => q (Option.some.inj e))] at h
          exact br_f q h
      · rw [if_neg y] at h
        exact br_t (by rw [kn_lA R hd]; exact nI_le (by omega) (by omega)) h
    · rw [if_neg z] at h
      refine br_f (by rw [kn_lA R hc]; exact nI_nlt (by omega) (by omega)) ⟨vp_in_nI hd (by omega), ?_⟩
      by_cases y : k < (S d).length
      · rw [if_pos y] at h
        exact br_t (by rw [kn_lA R hd]; exact nI_lt y (by omega)) ⟨vp_in_nI hc (by omega), br_t (by rw [kn_lA R hc]; exact nI_le (by omega) (by omega)) h⟩
      · rw [if_neg y] at h
        exact br_f (by rw [kn_lA R hd]; exact nI_nlt (by omega) (by omega)) h
theorem kn_Ytot8 {post : Int32 → SY → Prop} (R : kn_Rp S sz it) (h : post (nI (kn_tot S 10)) (fn, ct, yk, ya, yb, yc, yd, yp, yq, yr, yw, sz, it, mk)) : ∀ (m c : Nat), c + m = 10 → wY_total_8 post fn ct yk ya yb yc yd yp yq yr yw sz it mk (m + 1) (nI (kn_tot S c)) (nI c) := by
  intro m
  induction m with
  | zero =>
    intro c hc
    have e : c = 10 := by omega
    rw [e]
    exact br_t (by decide) h
  | succ m ih =>
    intro c hc
    refine br_f (nI_ge (b := 10) (by omega) (by decide)) ⟨vp_in_nI (by omega) (by omega), nm_r (e' := nI (kn_tot S (c + 1))) ?_ (nm_r (nI_1 c) (ih (c + 1) (by omega)))⟩
    rw [nI_clamp (by omega), (R c (by omega)).2.1, nI_add]
    rfl
theorem kn_Xclr {post : Int32 → SX → Prop} {x : Int32} (h : ∀ l', (∀ j, j < 10 → l' j = 0) → post x (vc, vk, va, vb, vcc, vd, vn, vi, vm, l', dd)) :
    ∀ (m c : Nat) (l : Nat → Int32), c + m = 10 → (∀ j, j < c → l j = 0) → wX_clear_12 post x vc (m + 1) (nI c) vk va vb vcc vd vn vi vm l dd := by
  intro m
  induction m with
  | zero =>
    intro c l hc z
    exact br_t (nI_le (a := 10) (by omega) (by omega)) (h l (fun j hj => z j (by omega)))
  | succ m ih =>
    intro c l hc z
    refine br_f (nI_ge (b := 10) (by omega) (by decide)) ⟨vp_in_nI (by omega) (by omega), nm_e (nm_r (nI_1 c) (ih (c + 1) _ (by omega) ?_))⟩
    intro j hj
    rw [nI_clamp (by omega)]
    by_cases y : j = c
    · rw [y, pk_us]
    · rw [pk_un y]; exact z j (by omega)
theorem kn_Yclr {post : Int32 → SY → Prop} {x : Int32} (h : ∀ yr' yw', (∀ j, j < 10 → yr' j = 0) → (∀ j, j < 10 → yw' j = 0) → post x (fn, ct, yk, ya, yb, yc, yd, yp, yq, yr', yw', sz, it, mk)) :
    ∀ (m c : Nat) (yr yw : Nat → Int32), c + m = 10 → (∀ j, j < c → yr j = 0) → (∀ j, j < c → yw j = 0) → wY_clear_12 post x fn ct (m + 1) (nI c) yk ya yb yc yd yp yq yr yw sz it mk := by
  intro m
  induction m with
  | zero =>
    intro c yr yw hc z z'
    exact br_t (nI_le (a := 10) (by omega) (by omega)) (h yr yw (fun j hj => z j (by omega)) (fun j hj => z' j (by omega)))
  | succ m ih =>
    intro c yr yw hc z z'
    refine br_f (nI_ge (b := 10) (by omega) (by decide)) ⟨vp_in_nI (by omega) (by omega), nm_e ⟨vp_in_nI (by omega) (by omega), nm_e (nm_r (nI_1 c) (ih (c + 1) _ _ (by omega) ?_ ?_))⟩⟩
    · intro j hj
      rw [nI_clamp (by omega), kn_nb0]
      by_cases y : j = c
      · rw [y, pk_us]
      · rw [pk_un y]; exact z j (by omega)
    · intro j hj
      rw [nI_clamp (by omega), kn_nb0]
      by_cases y : j = c
      · rw [y, pk_us]
      · rw [pk_un y]; exact z' j (by omega)
end
theorem i_vc_clear {k : Nat} {u : SX} {v : SY} (I : i_Rel k u v) (hk : k + 4 ≤ 2049) : wpX_clear (fun r u' => wpY_clear (fun r' v' => r' = r ∧ i_Rel (k + 4) u' v') v) u := by
  obtain ⟨vc, vk, va, vb, vcc, vd, vn, vi, vm, l, dd⟩ := u
  obtain ⟨fn, ct, yk, ya, yb, yc, yd, yp, yq, yr, yw, sz, it, mk⟩ := v
  obtain ⟨n, N, S, hn, hv, hf, U, X, Y, L, R, tr, tw⟩ := I
  have none : ∀ {P : Nat → Prop}, ∀ j, j < 0 → P j := fun j h => absurd h (Nat.not_lt_zero j)
  refine ⟨11, kn_Xclr (fun l' hl => ⟨11, kn_Yclr (fun yr' yw' hr hw => ?_) 10 0 yr yw rfl none none⟩) 10 0 l rfl none⟩
  refine ⟨hf.trans hv.symm, 0, N, fun _ => [], by omega, rfl, rfl, ⟨none, fun i j h => absurd h (Nat.not_lt_zero i)⟩, none, none, kn_Ls_0 N, ?_, ?_, ?_⟩
  · intro c hc
    exact ⟨Nat.zero_le _, hl c hc, fun k h => absurd h (Nat.not_lt_zero k)⟩
  · intro c hc
    exact ⟨fun _ => none, fun _ => hr c hc⟩
  · intro c hc
    exact ⟨fun _ => none, fun _ => hw c hc⟩
theorem i_vc_length {k : Nat} {u : SX} {v : SY} (I : i_Rel k u v) (hk : k + 4 ≤ 2049) (v1 : Int32) : wpX_length (fun r => wpY_length (fun r' v' => r' = r ∧ i_Rel (k + 4) u v') v v1) u v1 := by
  obtain ⟨vc, vk, va, vb, vcc, vd, vn, vi, vm, l, dd⟩ := u
  obtain ⟨fn, ct, yk, ya, yb, yc, yd, yp, yq, yr, yw, sz, it, mk⟩ := v
  obtain ⟨n, N, S, hn, hv, hf, U, X, Y, L, R, tr, tw⟩ := I
  unfold wpX_length wpY_length
  dsimp only
  rcases kn_ch v1 with h | ⟨c, hc, rfl⟩
  · exact kn_chX0 h (br_t rfl (kn_chY0 h (br_t rfl ⟨rfl, n, N, S, hn, hv, hf, U, X, Y, L, R, tr, tw⟩)))
  · refine kn_chX1 hc (br_f (by decide) ⟨vp_in_nI hc (by omega), kn_chY1 hc (br_f (by decide) (kn_Ysettle hn hf U Y (fun T ct sz it mk L' R' => ?_)))⟩)
    have e := kn_Ls_eq L L'
    subst e
    exact ⟨vp_in_nI hc (by omega), by dsimp only; rw [kn_lA R hc, kn_lA R' hc], n, N, S, hn, hv, hf, U, X, Y, L, R, tr, tw⟩
theorem i_vc_at {k : Nat} {u : SX} {v : SY} (I : i_Rel k u v) (hk : k + 4 ≤ 2049) (v1 : Int32) (v2 : Int32) : wpX_at (fun r => wpY_at (fun r' v' => r' = r ∧ i_Rel (k + 4) u v') v v1 v2) u v1 v2 := by
  obtain ⟨vc, vk, va, vb, vcc, vd, vn, vi, vm, l, dd⟩ := u
  obtain ⟨fn, ct, yk, ya, yb, yc, yd, yp, yq, yr, yw, sz, it, mk⟩ := v
  obtain ⟨n, N, S, hn, hv, hf, U, X, Y, L, R, tr, tw⟩ := I
  unfold wpX_at wpY_at
  dsimp only
  rcases kn_ch v1 with h | ⟨c, hc, rfl⟩
  · exact kn_chX0 h (br_t rfl (kn_chY0 h (br_t rfl ⟨rfl, n, N, S, hn, hv, hf, U, X, Y, L, R, tr, tw⟩)))
  · refine kn_chX1 hc (br_f (by decide) ?_)
    have b := (R c hc).1
    by_cases z : v2 < 0
    · refine br_t z (kn_chY1 hc (br_f (by decide) (kn_Ysettle hn hf U Y (fun T ct sz it mk L' R' => ?_))))
      exact br_t z ⟨rfl, n, N, S, hn, hv, hf, U, X, Y, L, R, tr, tw⟩
    · obtain ⟨j, hj, rfl⟩ := nI_of z
      refine br_f z ⟨vp_in_nI hc (by omega), pk_lt j (S c).length (fun y => ?_) (fun y => ?_) rfl (kn_lA R hc)⟩
      · obtain ⟨i1, e1⟩ := kn_rd R (fun _ => List.prefix_rfl) hc y
        refine ⟨i1, kn_chY1 hc (br_f (by decide) (kn_Ysettle hn hf U Y (fun T ct sz it mk L' R' => ?_)))⟩
        have e := kn_Ls_eq L L'
        subst e
        refine br_f z ⟨vp_in_nI hc (by omega), br_f (by dsimp only; rw [kn_lA R' hc]; exact nI_ge y (by omega)) (kn_gt hc (by omega) ?_)⟩
        exact ⟨by rw [e1]; exact (R' c hc).2.2 j y, n, N, S, hn, hv, hf, U, X, Y, L, R, tr, tw⟩
      · refine kn_chY1 hc (br_f (by decide) (kn_Ysettle hn hf U Y (fun T ct sz it mk L' R' => ?_)))
        have e := kn_Ls_eq L L'
        subst e
        exact br_f z ⟨vp_in_nI hc (by omega), br_t (by dsimp only; rw [kn_lA R' hc]; exact nI_le y (by omega)) ⟨rfl, n, N, S, hn, hv, hf, U, X, Y, L, R, tr, tw⟩⟩
theorem i_vc_processes {k : Nat} {u : SX} {v : SY} (I : i_Rel k u v) (hk : k + 4 ≤ 2049) : wpX_processes (fun r => wpY_processes (fun r' => r' = r ∧ i_Rel (k + 4) u v) v) u := by
  obtain ⟨vc, vk, va, vb, vcc, vd, vn, vi, vm, l, dd⟩ := u
  obtain ⟨fn, ct, yk, ya, yb, yc, yd, yp, yq, yr, yw, sz, it, mk⟩ := v
  obtain ⟨n, N, S, hn, hv, hf, U, X, Y, L, R, tr, tw⟩ := I
  exact ⟨hf.trans hv.symm, n, N, S, hn, hv, hf, U, X, Y, L, R, tr, tw⟩
theorem i_vc_total {k : Nat} {u : SX} {v : SY} (I : i_Rel k u v) (hk : k + 4 ≤ 2049) : wpX_total (fun r => wpY_total (fun r' v' => r' = r ∧ i_Rel (k + 4) u v') v) u := by
  obtain ⟨vc, vk, va, vb, vcc, vd, vn, vi, vm, l, dd⟩ := u
  obtain ⟨fn, ct, yk, ya, yb, yc, yd, yp, yq, yr, yw, sz, it, mk⟩ := v
  obtain ⟨n, N, S, hn, hv, hf, U, X, Y, L, R, tr, tw⟩ := I
  unfold wpY_total
  dsimp only
  refine kn_Xtotal R (kn_Ysettle hn hf U Y (fun T ct sz it mk L' R' => ?_))
  have e := kn_Ls_eq L L'
  subst e
  exact ⟨11, kn_Ytot8 R' ⟨rfl, n, N, S, hn, hv, hf, U, X, Y, L, R, tr, tw⟩ 10 0 rfl⟩
theorem i_vc_firstDifference {k : Nat} {u : SX} {v : SY} (I : i_Rel k u v) (hk : k + 4 ≤ 2049) (v1 : Int32) (v2 : Int32) : wpX_firstDifference (fun r => wpY_firstDifference (fun r' v' => r' = r ∧ i_Rel (k + 4) u v') v v1 v2) u v1 v2 := by
  obtain ⟨vc, vk, va, vb, vcc, vd, vn, vi, vm, l, dd⟩ := u
  obtain ⟨fn, ct, yk, ya, yb, yc, yd, yp, yq, yr, yw, sz, it, mk⟩ := v
  obtain ⟨n, N, S, hn, hv, hf, U, X, Y, L, R, tr, tw⟩ := I
  unfold wpX_firstDifference wpY_firstDifference
  dsimp only
  rcases kn_ch v1 with h | ⟨c, hc, rfl⟩
  · exact kn_chX0 h (br_t rfl (kn_chY0 h (br_t rfl ⟨rfl, n, N, S, hn, hv, hf, U, X, Y, L, R, tr, tw⟩)))
  rcases kn_ch v2 with h | ⟨d, hd, rfl⟩
  · exact kn_chX1 hc (br_f (by decide) (kn_chX0 h (br_t rfl (kn_chY1 hc (br_f (by decide) (kn_chY0 h (br_t rfl ⟨rfl, n, N, S, hn, hv, hf, U, X, Y, L, R, tr, tw⟩)))))))
  refine kn_chX1 hc (br_f (by decide) (kn_chX1 hd (br_f (by decide) ⟨21, kn_fdX hc hd R 20 0 rfl ?_⟩)))
  refine kn_chY1 hc (br_f (by decide) (kn_chY1 hd (br_f (by decide) (kn_Ysettle hn hf U Y (fun T ct sz it mk L' R' => ?_)))))
  have e := kn_Ls_eq L L'
  subst e
  exact ⟨21, kn_fdY hc hd R' 20 0 rfl ⟨rfl, n, N, S, hn, hv, hf, U, X, Y, L, R, tr, tw⟩⟩
end
section
theorem kn_ld {j d : Nat} {x : Int32} (hj : j < 2 ^ 31) (h0 : 0 < d) (hd : d < 2 ^ 31) (hx : x = nI d) : nI j / x = nI (j / d) ∧ nI j - nI j / x * x = nI (j % d) := by
  subst hx
  exact ⟨pk_div hj h0 hd, pk_rem hj h0 hd⟩
theorem i_vc_source {k : Nat} {u : SX} {v : SY} (I : i_Rel k u v) (hk : k + 4 ≤ 2049) (v1 : Int32) (v2 : Int32) (v3 : Int32) : wpX_source (fun r u' => wpY_source (fun r' v' => r' = r ∧ i_Rel (k + 4) u' v') v v1 v2 v3) u v1 v2 v3 := by
  obtain ⟨vc, vk, va, vb, vcc, vd, vn, vi, vm, l, dd⟩ := u
  obtain ⟨fn, ct, yk, ya, yb, yc, yd, yp, yq, yr, yw, sz, it, mk⟩ := v
  obtain ⟨n, N, S, hn, hv, hf, U, X, Y, L, R, tr, tw⟩ := I
  subst hv hf
  have cl : (nI n).toNatClampNeg = n := nI_clamp (by omega)
  by_cases z8 : n = 8
  · subst z8
    exact br_f (by decide) (br_t (by decide) ⟨rfl, 8, N, S, hn, rfl, rfl, U, X, Y, L, R, tr, tw⟩)
  have n8 : ¬ nI n = 8 := fun e => z8 ((nI_eq (b := 8) (by omega) (by decide)).mp e)
  have i8 : vp_in (nI n) 8 := vp_in_nI (by omega) (by omega)
  refine br_t (nI_lt (b := 8) (by omega) (by decide)) ?_
  by_cases z0 : v1 < 0
  · exact br_f (Int32.not_le.mpr z0) (br_f n8 (br_t z0 ⟨rfl, n, N, S, hn, rfl, rfl, U, X, Y, L, R, tr, tw⟩))
  obtain ⟨j, hj, rfl⟩ := nI_of z0
  obtain ⟨e1, e2⟩ := kn_ld (x := 16) hj (d := 16) (by omega) (by omega) rfl
  have n16 : ¬ (16 : Int32) = 0 := by decide
  refine br_t (Int32.not_lt.mp z0) ⟨n16, nm_r e1 ⟨n16, nm_r e2 ?_⟩⟩
  have hd : j / 16 < 2 ^ 31 := by omega
  by_cases zc : 10 ≤ j / 16
  · refine br_t (nI_le (a := 10) zc hd) (br_f n8 (br_f z0 ⟨n16, br_t ?_ ⟨rfl, n, N, S, hn, rfl, rfl, U, X, Y, L, R, tr, tw⟩⟩))
    rw [e1]
    exact nI_lt (a := 9) (by omega) hd
  have g9 : ¬ (9 : Int32) < nI j / 16 := by rw [e1]; exact nI_nlt (a := 9) (by omega) (by decide)
  refine br_f (nI_ge (b := 10) (by omega) (by decide)) ?_
  by_cases zn : 12 < j % 16
  · have g : ¬ nI (j % 16) ≤ 12 := nI_ge (a := 12) zn (by omega)
    exact br_f g (br_f n8 (br_f z0 ⟨n16, br_f g9 ⟨n16, br_f (by rw [e2]; exact g) ⟨rfl, n, N, S, hn, rfl, rfl, U, X, Y, L, R, tr, tw⟩⟩⟩))
  have g12 : nI (j % 16) ≤ 12 := nI_le (b := 12) (by omega) (by decide)
  have hc : j / 16 < 10 := by omega
  have clc : (nI (j / 16)).toNatClampNeg = j / 16 := nI_clamp hd
  refine br_t g12 (kn_XisW hn rfl U X hc (fun free => ?_) (fun bad => ?_))
  · have i16 : vp_in (nI j / 16) 10 := by rw [e1]; exact vp_in_nI hc (by omega)
    have okp : kn_ok (0, 0, j % 16, j / 16, 0, v2, v3) := ⟨by omega, by show (0 : Nat) < 10; decide, by show j % 16 < 13; omega, fun e => absurd rfl e, hc, by show (0 : Nat) < 10; decide, fun e => absurd (show (0 : Nat) = 1 from e) (by decide)⟩
    have wp : ∀ c, kn_W (0, 0, j % 16, j / 16, 0, v2, v3) c → c = j / 16 := by
      rintro c (e | e)
      · exact e
      · exact absurd (show (0 : Nat) = 1 from e.1) (by decide)
    have rp : ∀ c, ¬ kn_R (0, 0, j % 16, j / 16, 0, v2, v3) c := by
      rintro c (e | e)
      · exact absurd rfl e.1
      · rcases e.1 with e | e
        · exact absurd (show (0 : Nat) = 2 from e) (by decide)
        · exact absurd (show (0 : Nat) = 5 from e) (by decide)
    have fre : ∀ c, kn_W (0, 0, j % 16, j / 16, 0, v2, v3) c → ∀ i, i < n → ¬ kn_W (N i) c := fun c w => by rw [wp c w]; exact free
    refine br_t rfl ⟨i8, nm_e ⟨i8, nm_e ⟨i8, nm_e ⟨i8, nm_e ⟨i8, nm_e ⟨i8, nm_e (nm_r (nI_1 n) ⟨i8, nm_e ⟨i8, nm_e ?_⟩⟩)⟩⟩⟩⟩⟩⟩
    rw [cl]
    have X' := kn_RX_ad (p := (0, 0, j % 16, j / 16, 0, v2, v3)) (vk' := upd vk n 0) (va' := upd va n (-1)) (vb' := upd vb n (-1)) (vcc' := upd vcc n (nI (j / 16))) (vd' := upd vd n (-1)) (vn' := upd vn n v2) (vi' := upd vi n v3) (vm' := upd vm n (nI (j % 16))) X
      (by
        rw [pk_us, pk_us, pk_us, pk_us, pk_us, pk_us, pk_us, pk_us]
        exact ⟨rfl, fun e => absurd rfl e, fun _ => rfl, fun e => absurd (show (0 : Nat) = 2 ∨ (0 : Nat) = 5 from e) (by decide), fun _ => rfl, rfl, fun e => absurd (show (0 : Nat) = 1 from e) (by decide), fun _ => rfl, rfl, fun _ => ⟨rfl, rfl⟩⟩)
      (fun i hi => ⟨kn_uo hi, kn_uo hi, kn_uo hi, kn_uo hi, kn_uo hi, kn_uo hi, kn_uo hi, kn_uo hi⟩)
    refine kn_Xrun (n := n + 1) (by omega) rfl (kn_Un_ad U okp fre) X' (kn_In_ad L fre) R (fun T l' d' L' R' => ?_)
    refine br_f n8 (br_f z0 ⟨n16, br_f g9 ⟨n16, br_t (by rw [e2]; exact g12) ⟨n16, i16, br_t ?_ ⟨n16, i16, nm_e ⟨i8, nm_e ⟨i8, nm_e ⟨n16, n16, ?_⟩⟩⟩⟩⟩⟩⟩)
    · rw [e1, clc]
      exact (tw (j / 16) hc).mpr free
    refine ⟨i8, nm_e ⟨i8, nm_e ⟨i8, nm_e ⟨i8, nm_e ⟨i8, nm_e (nm_r (nI_1 n) ⟨nI_pred n, n + 1, kn_ad N n (0, 0, j % 16, j / 16, 0, v2, v3), T, by omega, rfl, rfl, kn_Un_ad U okp fre, X', ?_, L', R', ?_, ?_⟩)⟩⟩⟩⟩⟩
    · rw [cl, e2, e1]
      refine kn_RY_ad Y ?_ (fun i hi => ⟨kn_uo hi, kn_uo hi, kn_uo hi, kn_uo hi, kn_uo hi, kn_uo hi, kn_uo hi⟩)
      rw [pk_us, pk_us, pk_us, pk_us, pk_us, pk_us, pk_us]
      exact ⟨rfl, rfl, rfl, rfl, rfl, rfl, fun _ => rfl⟩
    · exact kn_Tb_ad tr (fun c hc q => absurd q (rp c)) (fun c hc q => rfl)
    · rw [e1, clc, kn_nb1]
      refine kn_Tb_ad tw (fun c hc q => ?_) (fun c hc q => pk_un (fun e => q (Or.inl e)))
      rw [wp c q, pk_us]
      decide
  · refine br_f (by decide) (br_f n8 (br_f z0 ⟨n16, br_f g9 ⟨n16, br_t (by rw [e2]; exact g12) ⟨n16, by rw [e1]; exact vp_in_nI hc (by omega), br_f ?_ ⟨rfl, n, N, S, hn, rfl, rfl, U, X, Y, L, R, tr, tw⟩⟩⟩⟩))
    rw [e1, clc, tw (j / 16) hc]
    obtain ⟨i, hi, q⟩ := bad
    exact fun f => f i hi q
end
section
-- nothing that the new process wants is taken
def kn_fr (N : Nat → kn_P) (n kd a b c d : Nat) : Prop :=
  (∀ i, i < n → ¬ kn_R (N i) a) ∧ (∀ i, i < n → ¬ kn_W (N i) c) ∧ ((kd = 2 ∨ kd = 5) → a ≠ b ∧ ∀ i, i < n → ¬ kn_R (N i) b) ∧ (kd = 1 → c ≠ d ∧ ∀ i, i < n → ¬ kn_W (N i) d)
section
variable {vc fn ct : Int32} {vk va vb vcc vd vn vi vm l dd yk ya yb yc yd yp yq yr yw sz it mk : Nat → Int32} {n kd a b c d : Nat} {N : Nat → kn_P} {S : Nat → List Int32}
theorem kn_X141 {post : Int32 → SX → Prop} {x1 x3 x4 x5 x6 d' : Int32} (hn : n ≤ 8) (hv : vc = nI n) (U : kn_Un N n) (X : ∀ i, i < n → kn_RX (N i) (vk i) (va i) (vb i) (vcc i) (vd i) (vn i) (vi i) (vm i))
    (hd1 : kd = 1 → d' = nI d) (hd2 : kd ≠ 1 → d' = -1) (hd : d < 10) (h0 : (kd = 1 → ∀ i, i < n → ¬ kn_W (N i) d) → wX_process_159 post x1 x3 x4 x5 x6 d' vc vk va vb vcc vd vn vi vm l dd)
    (h1 : kd = 1 → (∃ i, i < n ∧ kn_W (N i) d) → post (-3) (vc, vk, va, vb, vcc, vd, vn, vi, vm, l, dd)) : wX_process_141 post x1 x3 x4 x5 x6 d' vc vk va vb vcc vd vn vi vm l dd := by
  by_cases z : kd = 1
  · have e := hd1 z
    subst e
    refine br_f (kn_m1' (by omega)) (kn_XisW hn hv U X hd (fun f => br_t rfl (h0 (fun _ => f))) (fun f => br_f (by decide) (h1 z f)))
  · exact br_t (hd2 z) (h0 (fun e => absurd e z))
theorem kn_X89 {post : Int32 → SX → Prop} {x1 x3 b' d' : Int32} (hn : n ≤ 8) (hv : vc = nI n) (U : kn_Un N n) (X : ∀ i, i < n → kn_RX (N i) (vk i) (va i) (vb i) (vcc i) (vd i) (vn i) (vi i) (vm i))
    (hb1 : (kd = 2 ∨ kd = 5) → b' = nI b) (hb2 : ¬ (kd = 2 ∨ kd = 5) → b' = -1) (hd1 : kd = 1 → d' = nI d) (hd2 : kd ≠ 1 → d' = -1) (ha : a < 10) (hb : b < 10) (hc : c < 10) (hd : d < 10)
    (h0 : kn_fr N n kd a b c d → wX_process_159 post x1 x3 (nI a) b' (nI c) d' vc vk va vb vcc vd vn vi vm l dd) (h1 : ¬ kn_fr N n kd a b c d → post (-3) (vc, vk, va, vb, vcc, vd, vn, vi, vm, l, dd)) : wX_process_89 post x1 x3 (nI a) b' (nI c) d' vc vk va vb vcc vd vn vi vm l dd := by
  refine br_c (fun e => h1 ?_) (fun e => br_c (fun g => h1 ?_) (fun g => kn_XisR hn hv U X ha (fun ra => br_t rfl (kn_XisW hn hv U X hc (fun wc => br_t rfl ?_) (fun f => br_f (by decide) (h1 ?_)))) (fun f => br_f (by decide) (h1 ?_))))
  · intro fr
    by_cases z : kd = 2 ∨ kd = 5
    · rw [hb1 z, nI_eq (by omega) (by omega)] at e
      exact (fr.2.2.1 z).1 e
    · rw [hb2 z] at e
      exact kn_m1' (by omega) e
  · intro fr
    by_cases z : kd = 1
    · rw [hd1 z, nI_eq (by omega) (by omega)] at g
      exact (fr.2.2.2 z).1 g
    · rw [hd2 z] at g
      exact kn_m1' (by omega) g
  · have cd : kd = 1 → c ≠ d := fun z q => g (by rw [hd1 z, q])
    by_cases z : kd = 2 ∨ kd = 5
    · have ab : a ≠ b := fun q => e (by rw [hb1 z, q])
      have eb := hb1 z
      subst eb
      refine br_f (kn_m1' (by omega)) (kn_XisR hn hv U X hb (fun rb => br_t rfl ?_) (fun f => br_f (by decide) (h1 ?_)))
      · exact kn_X141 hn hv U X hd1 hd2 hd (fun wd => h0 ⟨ra, wc, fun _ => ⟨ab, rb⟩, fun q => ⟨cd q, wd q⟩⟩) (fun q ⟨i, hi, f⟩ => h1 (fun fr => (fr.2.2.2 q).2 i hi f))
      · intro fr
        obtain ⟨i, hi, q⟩ := f
        exact (fr.2.2.1 z).2 i hi q
    · exact br_t (hb2 z) (kn_X141 hn hv U X hd1 hd2 hd (fun wd => h0 ⟨ra, wc, fun q => absurd q z, fun q => ⟨cd q, wd q⟩⟩) (fun q ⟨i, hi, f⟩ => h1 (fun fr => (fr.2.2.2 q).2 i hi f)))
  · intro fr
    obtain ⟨i, hi, q⟩ := f
    exact fr.2.1 i hi q
  · intro fr
    obtain ⟨i, hi, q⟩ := f
    exact fr.1 i hi q
theorem kn_Y27 {post : Int32 → Prop} {t s : Int32} (tr : kn_Tb kn_R N n yr) (tw : kn_Tb kn_W N n yw) (ht1 : (kd = 2 ∨ kd = 5) → t = 1) (ht2 : ¬ (kd = 2 ∨ kd = 5) → t = 0) (hs1 : kd = 1 → s = 1) (hs2 : kd ≠ 1 → s = 0)
    (ha : a < 10) (hb : b < 10) (hc : c < 10) (hd : d < 10) (h0 : kn_fr N n kd a b c d → post 0) (h1 : ¬ kn_fr N n kd a b c d → post 1) : wY_isTaken_27 post (nI a) (nI b) (nI c) (nI d) t s fn ct yk ya yb yc yd yp yq yr yw sz it mk := by
  have ia : vp_in (nI a) 10 := vp_in_nI ha (by omega)
  have ib : vp_in (nI b) 10 := vp_in_nI hb (by omega)
  have ic : vp_in (nI c) 10 := vp_in_nI hc (by omega)
  have id' : vp_in (nI d) 10 := vp_in_nI hd (by omega)
  have ta : yr (nI a).toNatClampNeg = 0 ↔ ∀ i, i < n → ¬ kn_R (N i) a := by rw [nI_clamp (by omega)]; exact tr a ha
  have tb : yr (nI b).toNatClampNeg = 0 ↔ ∀ i, i < n → ¬ kn_R (N i) b := by rw [nI_clamp (by omega)]; exact tr b hb
  have tc : yw (nI c).toNatClampNeg = 0 ↔ ∀ i, i < n → ¬ kn_W (N i) c := by rw [nI_clamp (by omega)]; exact tw c hc
  have td : yw (nI d).toNatClampNeg = 0 ↔ ∀ i, i < n → ¬ kn_W (N i) d := by rw [nI_clamp (by omega)]; exact tw d hd
  have n01 : ¬ (1 : Int32) = 0 := by decide
  -- the last two steps: a = b, c = d
  have last : (∀ i, i < n → ¬ kn_R (N i) a) → ((kd = 2 ∨ kd = 5) → ∀ i, i < n → ¬ kn_R (N i) b) → (∀ i, i < n → ¬ kn_W (N i) c) → (kd = 1 → ∀ i, i < n → ¬ kn_W (N i) d) →
      wY_isTaken_79 post (nI a) (nI b) (nI c) (nI d) t s fn ct yk ya yb yc yd yp yq yr yw sz it mk := by
    intro qa qb qc qd
    have l89 : ((kd = 2 ∨ kd = 5) → a ≠ b) → wY_isTaken_89 post (nI c) (nI d) s fn ct yk ya yb yc yd yp yq yr yw sz it mk := by
      intro ab
      by_cases y : kd = 1
      · rw [hs1 y]
        exact br_f n01 (pk_eq c d (fun e => h1 (fun fr => (fr.2.2.2 y).1 e)) (fun e => h0 ⟨qa, qc, fun z => ⟨ab z, qb z⟩, fun z => ⟨e, qd z⟩⟩))
      · rw [hs2 y]
        exact br_t rfl (h0 ⟨qa, qc, fun z => ⟨ab z, qb z⟩, fun z => absurd z y⟩)
    by_cases z : kd = 2 ∨ kd = 5
    · have e := ht1 z
      refine br_f (by rw [e]; exact n01) (pk_eq a b (fun e => h1 (fun fr => (fr.2.2.1 z).1 e)) (fun e => l89 (fun _ => e)))
    · exact br_t (ht2 z) (l89 (fun q => absurd q z))
  have mid : (∀ i, i < n → ¬ kn_R (N i) a) → ((kd = 2 ∨ kd = 5) → ∀ i, i < n → ¬ kn_R (N i) b) → wY_isTaken_52 post (nI a) (nI b) (nI c) (nI d) t s fn ct yk ya yb yc yd yp yq yr yw sz it mk := by
    intro qa qb
    refine ⟨ic, br_c (fun e => ?_) (fun e => h1 (fun fr => e (tc.mpr fr.2.1)))⟩
    by_cases y : kd = 1
    · refine br_f (by rw [hs1 y]; exact n01) ⟨id', br_c (fun f => last qa qb (tc.mp e) (fun _ => td.mp f)) (fun f => h1 (fun fr => f (td.mpr (fr.2.2.2 y).2)))⟩
    · exact br_t (hs2 y) (last qa qb (tc.mp e) (fun q => absurd q y))
  refine ⟨ia, br_c (fun e => ?_) (fun e => h1 (fun fr => e (ta.mpr fr.1)))⟩
  by_cases z : kd = 2 ∨ kd = 5
  · refine br_f (by rw [ht1 z]; exact n01) ⟨ib, br_c (fun f => mid (ta.mp e) (fun _ => tb.mp f)) (fun f => h1 (fun fr => f (tb.mpr (fr.2.2.1 z).2)))⟩
  · exact br_t (ht2 z) (mid (ta.mp e) (fun q => absurd q z))
theorem kn_YisT {post : Int32 → Prop} (tr : kn_Tb kn_R N n yr) (tw : kn_Tb kn_W N n yw) (hkd : kd ≤ 7)
    (ha : a < 10) (hb : b < 10) (hc : c < 10) (hd : d < 10) (h0 : kn_fr N n kd a b c d → post 0) (h1 : ¬ kn_fr N n kd a b c d → post 1) : wpY_isTaken post (fn, ct, yk, ya, yb, yc, yd, yp, yq, yr, yw, sz, it, mk) (nI kd) (nI a) (nI b) (nI c) (nI d) := by
  have l15 : ∀ t : Int32, ((kd = 2 ∨ kd = 5) → t = 1) → (¬ (kd = 2 ∨ kd = 5) → t = 0) → wY_isTaken_15 post (nI kd) (nI a) (nI b) (nI c) (nI d) t fn ct yk ya yb yc yd yp yq yr yw sz it mk := by
    intro t t1 t2
    exact pk_eq kd 1 (fun e => kn_Y27 (kd := kd) tr tw t1 t2 (fun _ => rfl) (fun q => absurd e q) ha hb hc hd h0 h1) (fun e => kn_Y27 (kd := kd) tr tw t1 t2 (fun q => absurd q e) (fun _ => rfl) ha hb hc hd h0 h1)
  exact pk_eq kd 2 (fun e => l15 1 (fun _ => rfl) (fun q => absurd (Or.inl e) q)) (fun e => pk_eq kd 5 (fun f => l15 1 (fun _ => rfl) (fun q => absurd (Or.inr f) q)) (fun f => l15 0 (fun q => absurd q (by omega)) (fun _ => rfl)))
-- X adds the process and runs
theorem kn_X159 {post : Int32 → SX → Prop} {b' d' x3 : Int32} (hn : n < 8) (U : kn_Un N n) (X : ∀ i, i < n → kn_RX (N i) (vk i) (va i) (vb i) (vcc i) (vd i) (vn i) (vi i) (vm i)) (L : kn_Ls N n S) (R : kn_Rp S l dd)
    (hk1 : 1 ≤ kd) (hk7 : kd ≤ 7)
    (hb1 : (kd = 2 ∨ kd = 5) → b' = nI b) (hb2 : ¬ (kd = 2 ∨ kd = 5) → b' = -1) (hd1 : kd = 1 → d' = nI d) (hd2 : kd ≠ 1 → d' = -1) (ha : a < 10) (hb : b < 10) (hc : c < 10) (hd : d < 10) (fr : kn_fr N n kd a b c d)
    (h : ∀ T l' dd', kn_Un (kn_ad N n (kd, a, b, c, d, x3, 0)) (n + 1) → kn_Ls (kn_ad N n (kd, a, b, c, d, x3, 0)) (n + 1) T → kn_Rp T l' dd' →
      (∀ i, i < n + 1 → kn_RX (kn_ad N n (kd, a, b, c, d, x3, 0) i) (upd vk n (nI kd) i) (upd va n (nI a) i) (upd vb n b' i) (upd vcc n (nI c) i) (upd vd n d' i) (upd vn n x3 i) (vi i) (vm i)) →
      post (nI n) (nI (n + 1), upd vk n (nI kd), upd va n (nI a), upd vb n b', upd vcc n (nI c), upd vd n d', upd vn n x3, vi, vm, l', dd')) :
    wX_process_159 post (nI kd) x3 (nI a) b' (nI c) d' (nI n) vk va vb vcc vd vn vi vm l dd := by
  have cl : (nI n).toNatClampNeg = n := nI_clamp (by omega)
  have i8 : vp_in (nI n) 8 := vp_in_nI (by omega) (by omega)
  have okp : kn_ok (kd, a, b, c, d, x3, 0) := ⟨hk7, ha, by show b < 13; omega, fun _ => hb, hc, hd, fun e => (fr.2.2.2 e).1⟩
  have fre : ∀ x, kn_W (kd, a, b, c, d, x3, 0) x → ∀ i, i < n → ¬ kn_W (N i) x := by
    rintro x (e | e)
    · have e' : x = c := e
      rw [e']; exact fr.2.1
    · have e' : x = d := e.2
      rw [e']; exact (fr.2.2.2 e.1).2
  have X' := kn_RX_ad (p := (kd, a, b, c, d, x3, 0)) (vk' := upd vk n (nI kd)) (va' := upd va n (nI a)) (vb' := upd vb n b') (vcc' := upd vcc n (nI c)) (vd' := upd vd n d') (vn' := upd vn n x3) (vi' := vi) (vm' := vm) X
    (by
      rw [pk_us, pk_us, pk_us, pk_us, pk_us, pk_us]
      exact ⟨rfl, fun _ => rfl, fun e => absurd (show kd = 0 from e) (by omega), hb1, hb2, rfl, hd1, hd2, rfl, fun e => absurd (show kd = 0 from e) (by omega)⟩)
    (fun i hi => ⟨kn_uo hi, kn_uo hi, kn_uo hi, kn_uo hi, kn_uo hi, kn_uo hi, rfl, rfl⟩)
  refine ⟨i8, nm_e ⟨i8, nm_e ⟨i8, nm_e ⟨i8, nm_e ⟨i8, nm_e ⟨i8, nm_e (nm_r (nI_1 n) ?_)⟩⟩⟩⟩⟩⟩
  rw [cl]
  exact kn_Xrun (n := n + 1) (by omega) rfl (kn_Un_ad U okp fre) X' (kn_In_ad L fre) R (fun T l' d' L' R' => h T l' d' (kn_Un_ad U okp fre) L' R' X')
-- the reference adds the process
theorem kn_Y133 {post : Int32 → SY → Prop} {x3 : Int32} (hn : n < 8) (Y : ∀ i, i < n → kn_RY (N i) (yk i) (ya i) (yb i) (yc i) (yd i) (yp i) (yq i)) (hk1 : 1 ≤ kd)
    (h : (∀ i, i < n + 1 → kn_RY (kn_ad N n (kd, a, b, c, d, x3, 0) i) (upd yk n (nI kd) i) (upd ya n (nI a) i) (upd yb n (nI b) i) (upd yc n (nI c) i) (upd yd n (nI d) i) (upd yp n x3 i) (yq i)) →
      post (nI n) (nI (n + 1), ct, upd yk n (nI kd), upd ya n (nI a), upd yb n (nI b), upd yc n (nI c), upd yd n (nI d), upd yp n x3, yq, yr, yw, sz, it, mk)) :
    wY_process_133 post (nI kd) x3 (nI a) (nI b) (nI c) (nI d) (nI n) ct yk ya yb yc yd yp yq yr yw sz it mk := by
  have cl : (nI n).toNatClampNeg = n := nI_clamp (by omega)
  have i8 : vp_in (nI n) 8 := vp_in_nI (by omega) (by omega)
  refine ⟨i8, nm_e ⟨i8, nm_e ⟨i8, nm_e ⟨i8, nm_e ⟨i8, nm_e ⟨i8, nm_e (nm_r (nI_1 n) ?_)⟩⟩⟩⟩⟩⟩
  rw [cl, nI_pred n]
  refine h (kn_RY_ad Y ?_ (fun i hi => ⟨kn_uo hi, kn_uo hi, kn_uo hi, kn_uo hi, kn_uo hi, kn_uo hi, rfl⟩))
  rw [pk_us, pk_us, pk_us, pk_us, pk_us, pk_us]
  exact ⟨rfl, rfl, rfl, rfl, rfl, rfl, fun e => absurd (show kd = 0 from e) (by omega)⟩
end
end
section
section
variable {vc : Int32} {vk va vb vcc vd vn vi vm l dd : Nat → Int32} {kd : Nat}
theorem kn_Xr2 {post : Int32 → Prop} (hk : kd ≤ 7) (h1 : (kd = 2 ∨ kd = 5) → post 1) (h0 : ¬ (kd = 2 ∨ kd = 5) → post 0) : wpX_readsTwo post (vc, vk, va, vb, vcc, vd, vn, vi, vm, l, dd) (nI kd) :=
  pk_eq kd 2 (fun e => h1 (Or.inl e)) (fun e => pk_eq kd 5 (fun f => h1 (Or.inr f)) (fun f => h0 (by omega)))
theorem kn_Xw2 {post : Int32 → Prop} (hk : kd ≤ 7) (h1 : kd = 1 → post 1) (h0 : kd ≠ 1 → post 0) : wpX_writesTwo post (vc, vk, va, vb, vcc, vd, vn, vi, vm, l, dd) (nI kd) :=
  pk_eq kd 1 h1 h0
end
theorem i_vc_process {k : Nat} {u : SX} {v : SY} (I : i_Rel k u v) (hk : k + 4 ≤ 2049) (v1 : Int32) (v2 : Int32) (v3 : Int32) : wpX_process (fun r u' => wpY_process (fun r' v' => r' = r ∧ i_Rel (k + 4) u' v') v v1 v2 v3) u v1 v2 v3 := by
  obtain ⟨vc, vk, va, vb, vcc, vd, vn, vi, vm, l, dd⟩ := u
  obtain ⟨fn, ct, yk, ya, yb, yc, yd, yp, yq, yr, yw, sz, it, mk⟩ := v
  obtain ⟨n, N, S, hn, hv, hf, U, X, Y, L, R, tr, tw⟩ := I
  subst hv hf
  by_cases z8 : n = 8
  · subst z8
    exact br_f (by decide) (br_t (by decide) ⟨rfl, 8, N, S, hn, rfl, rfl, U, X, Y, L, R, tr, tw⟩)
  have n8 : ¬ nI n = 8 := fun e => z8 ((nI_eq (b := 8) (by omega) (by decide)).mp e)
  refine br_t (nI_lt (b := 8) (by omega) (by decide)) ?_
  by_cases z1 : v1 < 1
  · exact br_t z1 (br_f n8 (br_t z1 ⟨rfl, n, N, S, hn, rfl, rfl, U, X, Y, L, R, tr, tw⟩))
  by_cases z7 : 7 < v1
  · exact br_f z1 (br_t z7 (br_f n8 (br_f z1 (br_t z7 ⟨rfl, n, N, S, hn, rfl, rfl, U, X, Y, L, R, tr, tw⟩))))
  by_cases z0 : v2 < 0
  · exact br_f z1 (br_f z7 (br_t z0 (br_f n8 (br_f z1 (br_f z7 (br_t z0 ⟨rfl, n, N, S, hn, rfl, rfl, U, X, Y, L, R, tr, tw⟩))))))
  by_cases z9 : v2 ≤ 9999
  rotate_left
  · exact br_f z1 (br_f z7 (br_f z0 (br_f z9 (br_f n8 (br_f z1 (br_f z7 (br_f z0 (br_f z9 ⟨rfl, n, N, S, hn, rfl, rfl, U, X, Y, L, R, tr, tw⟩))))))))
  have kk : ∃ kd : Nat, 1 ≤ kd ∧ kd ≤ 7 ∧ v1 = nI kd := by
    have q0 : ¬ v1 < 0 := fun e => z1 (Int32.lt_trans e (by decide))
    obtain ⟨kd, h7, rfl⟩ := nI_of2 (M := 7) (n := 7) (by decide) q0 (Int32.not_lt.mp z7)
    refine ⟨kd, ?_, h7, rfl⟩
    have q1 := mt (nI_ltI (a := kd) (b := 1) (by omega) (by decide)).mpr z1
    omega
  obtain ⟨kd, k1, k7, rfl⟩ := kk
  obtain ⟨j, hj, rfl⟩ := nI_of2 (M := 9999) (n := 9999) (by decide) z0 z9
  have d10 : ¬ (10 : Int32) = 0 := by decide
  have d100 : ¬ (100 : Int32) = 0 := by decide
  have d1000 : ¬ (1000 : Int32) = 0 := by decide
  have ea : nI j / 1000 = nI (j / 1000) := (kn_ld (d := 1000) (by omega) (by omega) (by omega) rfl).1
  have eb : nI j / 100 - nI j / 100 / 10 * 10 = nI (j / 100 % 10) := by
    rw [(kn_ld (j := j) (d := 100) (x := 100) (by omega) (by omega) (by omega) rfl).1]
    exact (kn_ld (d := 10) (by omega) (by omega) (by omega) rfl).2
  have ec : nI j / 10 - nI j / 10 / 10 * 10 = nI (j / 10 % 10) := by
    rw [(kn_ld (j := j) (d := 10) (x := 10) (by omega) (by omega) (by omega) rfl).1]
    exact (kn_ld (d := 10) (by omega) (by omega) (by omega) rfl).2
  have ed : nI j - nI j / 10 * 10 = nI (j % 10) := (kn_ld (d := 10) (by omega) (by omega) (by omega) rfl).2
  have ha : j / 1000 < 10 := by omega
  have hb : j / 100 % 10 < 10 := by omega
  have hc : j / 10 % 10 < 10 := by omega
  have hd : j % 10 < 10 := by omega
  generalize j / 1000 = a at ea ha
  generalize j / 100 % 10 = b at eb hb
  generalize j / 10 % 10 = c at ec hc
  generalize j % 10 = d at ed hd
  have ia : vp_in (nI a) 10 := vp_in_nI ha (by omega)
  have ib : vp_in (nI b) 10 := vp_in_nI hb (by omega)
  have ic : vp_in (nI c) 10 := vp_in_nI hc (by omega)
  have id' : vp_in (nI d) 10 := vp_in_nI hd (by omega)
  have ca : (nI a).toNatClampNeg = a := nI_clamp (by omega)
  have cb : (nI b).toNatClampNeg = b := nI_clamp (by omega)
  have cc : (nI c).toNatClampNeg = c := nI_clamp (by omega)
  have cd : (nI d).toNatClampNeg = d := nI_clamp (by omega)
  have one : ¬ (1 : Int32) = 0 := by decide
  -- X from the checks on
  have main : ∀ b' d' : Int32, ((kd = 2 ∨ kd = 5) → b' = nI b) → (¬ (kd = 2 ∨ kd = 5) → b' = -1) → (kd = 1 → d' = nI d) → (kd ≠ 1 → d' = -1) →
      wX_process_89 (fun r u' => wpY_process (fun r' v' => r' = r ∧ i_Rel (k + 4) u' v') (nI n, ct, yk, ya, yb, yc, yd, yp, yq, yr, yw, sz, it, mk) (nI kd) (nI j) v3) (nI kd) v3 (nI a) b' (nI c) d' (nI n) vk va vb vcc vd vn vi vm l dd := by
    intro b' d' hb1 hb2 hd1 hd2
    refine kn_X89 hn rfl U X hb1 hb2 hd1 hd2 ha hb hc hd (fun fr => ?_) (fun nf => ?_)
    · refine kn_X159 (by omega) U X L R k1 k7 hb1 hb2 hd1 hd2 ha hb hc hd fr (fun T l' dd' U' L' R' X' => ?_)
      refine br_f n8 (br_f z1 (br_f z7 (br_f z0 (br_t z9 ⟨d1000, nm_r ea ⟨d100, d10, nm_r eb ⟨d10, d10, nm_r ec ⟨d10, nm_r ed ?_⟩⟩⟩⟩))))
      refine kn_YisT tr tw k7 ha hb hc hd (fun _ => br_t rfl ?_) (fun nf => absurd fr nf)
      refine ⟨ia, nm_e ⟨ic, nm_e ?_⟩⟩
      rw [ca, cc, kn_nb1]
      have l133 : ∀ yr' yw' : Nat → Int32, kn_Tb kn_R (kn_ad N n (kd, a, b, c, d, v3, 0)) (n + 1) yr' → kn_Tb kn_W (kn_ad N n (kd, a, b, c, d, v3, 0)) (n + 1) yw' →
          wY_process_133 (fun r' v' => r' = nI n ∧ i_Rel (k + 4) (nI (n + 1), upd vk n (nI kd), upd va n (nI a), upd vb n b', upd vcc n (nI c), upd vd n d', upd vn n v3, vi, vm, l', dd') v') (nI kd) v3 (nI a) (nI b) (nI c) (nI d) (nI n) ct yk ya yb yc yd yp yq yr' yw' sz it mk := by
        intro yr' yw' tr' tw'
        exact kn_Y133 (by omega) Y k1 (fun Y' => ⟨rfl, n + 1, kn_ad N n (kd, a, b, c, d, v3, 0), T, by omega, rfl, rfl, U', X', Y', L', R', tr', tw'⟩)
      have l120 : ∀ yr' : Nat → Int32, kn_Tb kn_R (kn_ad N n (kd, a, b, c, d, v3, 0)) (n + 1) yr' →
          wY_process_120 (fun r' v' => r' = nI n ∧ i_Rel (k + 4) (nI (n + 1), upd vk n (nI kd), upd va n (nI a), upd vb n b', upd vcc n (nI c), upd vd n d', upd vn n v3, vi, vm, l', dd') v') (nI kd) v3 (nI a) (nI b) (nI c) (nI d) (nI n) ct yk ya yb yc yd yp yq yr' (upd yw c 1) sz it mk := by
        intro yr' tr'
        refine pk_eq kd 1 (fun e => ⟨id', nm_e ?_⟩) (fun e => ?_)
        · rw [cd, kn_nb1]
          refine l133 _ _ tr' (kn_Tb_ad tw (fun x hx q => ?_) (fun x hx q => ?_))
          · by_cases y : x = d
            · rw [y, pk_us]; exact one
            · rcases q with q | q
              · have q' : x = c := q
                rw [pk_un y, q', pk_us]; exact one
              · exact absurd q.2 y
          · rw [pk_un (fun y => q (Or.inr ⟨e, y⟩)), pk_un (fun y => q (Or.inl y))]
        · refine l133 _ _ tr' (kn_Tb_ad tw (fun x hx q => ?_) (fun x hx q => pk_un (fun y => q (Or.inl y))))
          rcases q with q | q
          · have q' : x = c := q
            rw [q', pk_us]; exact one
          · exact absurd q.1 e
      have k0 : kd ≠ 0 := by omega
      have two : (kd = 2 ∨ kd = 5) → wY_process_112 (fun r' v' => r' = nI n ∧ i_Rel (k + 4) (nI (n + 1), upd vk n (nI kd), upd va n (nI a), upd vb n b', upd vcc n (nI c), upd vd n d', upd vn n v3, vi, vm, l', dd') v') (nI kd) v3 (nI a) (nI b) (nI c) (nI d) (nI n) ct yk ya yb yc yd yp yq (upd yr a 1) (upd yw c 1) sz it mk := by
        intro t2
        refine ⟨ib, nm_e ?_⟩
        rw [cb, kn_nb1]
        refine l120 _ (kn_Tb_ad tr (fun x hx q => ?_) (fun x hx q => ?_))
        · by_cases y : x = b
          · rw [y, pk_us]; exact one
          · rcases q with q | q
            · have q' : x = a := q.2
              rw [pk_un y, q', pk_us]; exact one
            · exact absurd q.2 y
        · rw [pk_un (fun y => q (Or.inr ⟨t2, y⟩)), pk_un (fun y => q (Or.inl ⟨k0, y⟩))]
      refine pk_eq kd 2 (fun e => two (Or.inl e)) (fun e => pk_eq kd 5 (fun f => two (Or.inr f)) (fun f => ?_))
      refine l120 _ (kn_Tb_ad tr (fun x hx q => ?_) (fun x hx q => pk_un (fun y => q (Or.inl ⟨k0, y⟩))))
      rcases q with q | q
      · have q' : x = a := q.2
        rw [q', pk_us]; exact one
      · rcases q.1 with g | g
        · exact absurd g e
        · exact absurd g f
    · refine br_f n8 (br_f z1 (br_f z7 (br_f z0 (br_t z9 ⟨d1000, nm_r ea ⟨d100, d10, nm_r eb ⟨d10, d10, nm_r ec ⟨d10, nm_r ed ?_⟩⟩⟩⟩))))
      exact kn_YisT tr tw k7 ha hb hc hd (fun fr => absurd fr nf) (fun _ => br_f one ⟨rfl, n, N, S, hn, rfl, rfl, U, X, Y, L, R, tr, tw⟩)
  have l62 : ∀ b' : Int32, ((kd = 2 ∨ kd = 5) → b' = nI b) → (¬ (kd = 2 ∨ kd = 5) → b' = -1) →
      wX_process_62 (fun r u' => wpY_process (fun r' v' => r' = r ∧ i_Rel (k + 4) u' v') (nI n, ct, yk, ya, yb, yc, yd, yp, yq, yr, yw, sz, it, mk) (nI kd) (nI j) v3) (nI kd) (nI j) v3 (nI a) b' (nI n) vk va vb vcc vd vn vi vm l dd := by
    intro b' hb1 hb2
    refine ⟨d10, d10, nm_r ec ?_⟩
    refine kn_Xw2 k7 (fun e => br_f one ⟨d10, ?_⟩) (fun e => br_t rfl (main b' (-1) hb1 hb2 (fun q => absurd q e) (fun _ => rfl)))
    rw [ed]
    exact main b' (nI d) hb1 hb2 (fun _ => rfl) (fun q => absurd e q)
  refine br_f z1 (br_f z7 (br_f z0 (br_t z9 ⟨d1000, nm_r ea ?_⟩)))
  refine kn_Xr2 k7 (fun e => br_f one ⟨d100, d10, ?_⟩) (fun e => br_t rfl (l62 (-1) (fun q => absurd q e) (fun _ => rfl)))
  rw [eb]
  exact l62 (nI b) (fun _ => rfl) (fun q => absurd e q)
end
