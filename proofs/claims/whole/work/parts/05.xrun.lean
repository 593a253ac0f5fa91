section
variable {vc : Int32} {vk va vb vcc vd vn vi vm : Nat → Int32} {S : Nat → List Int32} {l dd : Nat → Int32}
theorem kn_Xtot4 {post : Int32 → Prop} (R : kn_Rp S l dd) (h : post (nI (kn_tot S 10))) : ∀ (m c : Nat), c + m = 10 → wX_total_4 post vc vk va vb vcc vd vn vi vm l dd (m + 1) (nI (kn_tot S c)) (nI c) := by
  intro m
  induction m with
  | zero =>
    intro c hc
    have e : c = 10 := by omega
    rw [e]
    exact br_t (by decide) h
  | succ m ih =>
    intro c hc
    refine br_f (nI_ge (b := 10) (by omega) (by decide)) ⟨vp_in_nI (by omega) (by omega), nm_r (e' := nI (kn_tot S (c + 1))) ?_ (nm_r (nI_1 c) (ih (c + 1) (by omega)))⟩
    rw [nI_clamp (by omega), (R c (by omega)).2.1, nI_add]
    rfl
theorem kn_Xtotal {post : Int32 → Prop} (R : kn_Rp S l dd) (h : post (nI (kn_tot S 10))) : wpX_total post (vc, vk, va, vb, vcc, vd, vn, vi, vm, l, dd) := ⟨11, kn_Xtot4 R h 10 0 rfl⟩
theorem kn_tot200 {N : Nat → kn_P} {n : Nat} (I : kn_In N n S) : kn_tot S 10 ≤ 200 := kn_tot_bd (fun c => kn_In_len I c) 10
theorem kn_Xrun16 {post : SX → Prop} {J : Int32 → Int32 → (Nat → Int32) → (Nat → Int32) → (Nat → Int32) → (Nat → Int32) → (Nat → Int32) → (Nat → Int32) → (Nat → Int32) → (Nat → Int32) → (Nat → Int32) → (Nat → Int32) → Prop}
    {N : Nat → kn_P} {n r : Nat} (hn : n ≤ 8) (hv : vc = nI n) (U : kn_Un N n) (X : ∀ i, i < n → kn_RX (N i) (vk i) (va i) (vb i) (vcc i) (vd i) (vn i) (vi i) (vm i))
    (hpost : ∀ T l d, kn_Ls N n T → kn_Rp T l d → post (vc, vk, va, vb, vcc, vd, vn, vi, vm, l, d))
    (hJ : ∀ T l d, kn_In N n T → kn_Rp T l d → kn_tot S 10 < kn_tot T 10 → J (nI (r + 1)) vc vk va vb vcc vd vn vi vm l d) :
    ∀ (m i : Nat) (T : Nat → List Int32) (l dd : Nat → Int32), i + m = n → kn_Rd N n S i T → kn_Rp T l dd → wX_run_16 post J (nI r) (nI (kn_tot S 10)) (m + 1) (nI i) vc vk va vb vcc vd vn vi vm l dd := by
  intro m
  induction m with
  | zero =>
    intro i T l dd hi D R
    have e : i = n := by omega
    subst e
    have b1 := kn_tot200 D.1
    have b2 := kn_tot200 D.2.1
    have b3 := kn_tot_le D.2.2.1 10
    refine br_t (by rw [hv]; exact nI_le (Nat.le_refl _) (by omega)) (kn_Xtotal R ?_)
    exact pk_eq (kn_tot T 10) (kn_tot S 10) (fun e => hpost T l dd (kn_Rd_e U D e) R) (fun ne => nm_r (nI_1 r) (hJ T l dd D.2.1 R (by omega)))
  | succ m ih =>
    intro i T l dd hi D R
    refine br_f (by rw [hv]; exact nI_ge (by omega) (by omega)) ?_
    exact kn_step (by omega) (U.1 i (by omega)) (X i (by omega)) R (D.2.1.1 i (by omega)) (fun S' l' d' hs R' => nm_r (nI_1 i) (ih (i + 1) S' l' d' (by omega) (kn_Rd_s U D (by omega) hs) R'))
theorem kn_Xrun2 {post : SX → Prop} {N : Nat → kn_P} {n : Nat} (hn : n ≤ 8) (hv : vc = nI n) (U : kn_Un N n) (X : ∀ i, i < n → kn_RX (N i) (vk i) (va i) (vb i) (vcc i) (vd i) (vn i) (vi i) (vm i))
    (hpost : ∀ T l d, kn_Ls N n T → kn_Rp T l d → post (vc, vk, va, vb, vcc, vd, vn, vi, vm, l, d)) :
    ∀ (m r : Nat) (T : Nat → List Int32) (l dd : Nat → Int32), r + m = 201 → kn_In N n T → kn_Rp T l dd → r ≤ kn_tot T 10 → wX_run_2 post (m + 1) (nI r) vc vk va vb vcc vd vn vi vm l dd := by
  intro m
  induction m with
  | zero =>
    intro r T l dd hr I R ht
    have := kn_tot200 I
    omega
  | succ m ih =>
    intro r T l dd hr I R ht
    refine br_f (nI_nlt (a := 200) (by omega) (by omega)) (kn_Xtotal R ⟨n + 1, ?_⟩)
    exact kn_Xrun16 (S := T) hn hv U X hpost (fun T' l' d' I' R' lt => ih (r + 1) T' l' d' (by omega) I' R' (by omega)) n 0 T l dd (by omega) (kn_Rd_0 I) R
theorem kn_Xrun {post : SX → Prop} {N : Nat → kn_P} {n : Nat} (hn : n ≤ 8) (hv : vc = nI n) (U : kn_Un N n) (X : ∀ i, i < n → kn_RX (N i) (vk i) (va i) (vb i) (vcc i) (vd i) (vn i) (vi i) (vm i))
    (I : kn_In N n S) (R : kn_Rp S l dd) (hpost : ∀ T l d, kn_Ls N n T → kn_Rp T l d → post (vc, vk, va, vb, vcc, vd, vn, vi, vm, l, d)) : wpX_run post (vc, vk, va, vb, vcc, vd, vn, vi, vm, l, dd) :=
  ⟨202, kn_Xrun2 hn hv U X hpost 201 0 S l dd rfl I R (Nat.zero_le _)⟩
end
