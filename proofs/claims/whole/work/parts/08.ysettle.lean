section
variable {fn ct : Int32} {yk ya yb yc yd yp yq yr yw sz it mk : Nat → Int32} {S T : Nat → List Int32}
-- the cells of channel c hold the first k of g, all others what they held
def kn_Wr (c : Nat) (g : List Int32) (it0 : Nat → Int32) (k : Nat) (it : Nat → Int32) : Prop :=
  (∀ j (h : j < g.length), j < k → it (20 * c + j) = g[j]) ∧ (∀ x, (x < 20 * c ∨ 20 * c + 20 ≤ x) → it x = it0 x)
theorem kn_Wr_e {c : Nat} {g : List Int32} {it0 it' : Nat → Int32} (R : kn_Rp S sz it0) (hg : g.length ≤ 20) (W : kn_Wr c g it0 g.length it') : kn_Rp (kn_up S c g) (upd sz c (nI g.length)) it' := by
  intro j hj
  by_cases z : j = c
  · subst z
    rw [kn_up_s]
    exact ⟨hg, pk_us, fun k h => W.1 k h h⟩
  · rw [kn_up_o z]
    obtain ⟨r1, r2, r3⟩ := R j hj
    refine ⟨r1, by rw [pk_un z]; exact r2, fun k h => ?_⟩
    rw [W.2 _ (by omega)]
    exact r3 k h
theorem kn_Y21 {post : Int32 → SY → Prop} {c : Nat} {x2 : Int32} {g : List Int32} {it0 : Nat → Int32} (hc : c < 10) (R : kn_Rp S sz it0) (M : kn_Mk g ct mk) (hx : narrow .boolean (.int x2) = .int x2)
    (h : ∀ sz' it', kn_Rp (kn_up S c g) sz' it' → post x2 (fn, ct, yk, ya, yb, yc, yd, yp, yq, yr, yw, sz', it', mk)) :
    ∀ (m k : Nat) (it : Nat → Int32), k + m = g.length → kn_Wr c g it0 k it → wY_store_21 post (nI c) x2 fn ct (m + 1) (nI k) yk ya yb yc yd yp yq yr yw sz it mk := by
  obtain ⟨m1, m2, m3⟩ := M
  intro m
  induction m with
  | zero =>
    intro k it hk W
    have e : k = g.length := by omega
    refine br_t (by rw [m2]; exact nI_le (by omega) (by omega)) ⟨vp_in_nI hc (by omega), nm_e ⟨hx, h _ _ ?_⟩⟩
    rw [nI_clamp (by omega), m2]
    rw [e] at W
    exact kn_Wr_e R m1 W
  | succ m ih =>
    intro k it hk W
    refine br_f (by rw [m2]; exact nI_ge (by omega) (by omega)) ⟨vp_in_nI (by omega) (by omega), by rw [kn_iy]; exact vp_in_nI (by omega) (by omega), nm_e (nm_r (nI_1 k) (ih (k + 1) _ (by omega) ?_))⟩
    rw [kn_iy, nI_clamp (by omega), nI_clamp (by omega), m3 k (by omega)]
    refine ⟨?_, ?_⟩
    · intro j hj hjk
      by_cases z : j = k
      · subst z; rw [pk_us]
      · rw [pk_un (by omega)]; exact W.1 j hj (by omega)
    · intro x hx
      rw [pk_un (by omega)]
      exact W.2 x hx
theorem kn_Ystore {post : Int32 → SY → Prop} {c : Nat} {g : List Int32} (hc : c < 10) (R : kn_Rp S sz it) (M : kn_Mk g ct mk)
    (h0 : g.length ≤ (S c).length → ∀ sz' it', kn_Rp (kn_up S c g) sz' it' → post 0 (fn, ct, yk, ya, yb, yc, yd, yp, yq, yr, yw, sz', it', mk))
    (h1 : (S c).length < g.length → ∀ sz' it', kn_Rp (kn_up S c g) sz' it' → post 1 (fn, ct, yk, ya, yb, yc, yd, yp, yq, yr, yw, sz', it', mk)) : wpY_store post (fn, ct, yk, ya, yb, yc, yd, yp, yq, yr, yw, sz, it, mk) (nI c) := by
  have W0 : kn_Wr c g it 0 it := ⟨fun j _ h => absurd h (Nat.not_lt_zero j), fun _ _ => rfl⟩
  have b1 := M.1
  have b2 := (R c hc).1
  refine ⟨vp_in_nI hc (by omega), pk_le g.length (S c).length (fun z => ?_) (fun z => ?_) M.2.1 (kn_lA R hc)⟩
  · exact ⟨g.length + 1, kn_Y21 hc R M rfl (h0 z) g.length 0 it (by omega) W0⟩
  · exact ⟨g.length + 1, kn_Y21 hc R M rfl (h1 z) g.length 0 it (by omega) W0⟩
-- grown says whether the round has written
def kn_Fl (g : Int32) (S T : Nat → List Int32) : Prop := (g = 0 → kn_tot T 10 = kn_tot S 10) ∧ (g ≠ 0 → kn_tot S 10 < kn_tot T 10)
theorem kn_Fl1 (h : kn_tot S 10 < kn_tot T 10) : kn_Fl 1 S T := ⟨fun e => absurd e (by decide), fun _ => h⟩
theorem kn_Y40 {post : SY → Prop} {J : Int32 → Int32 → Int32 → Int32 → (Nat → Int32) → (Nat → Int32) → (Nat → Int32) → (Nat → Int32) → (Nat → Int32) → (Nat → Int32) → (Nat → Int32) → (Nat → Int32) → (Nat → Int32) → (Nat → Int32) → (Nat → Int32) → (Nat → Int32) → Prop}
    {N : Nat → kn_P} {n r : Nat} (hn : n ≤ 8) (hv : fn = nI n) (U : kn_Un N n) (Y : ∀ i, i < n → kn_RY (N i) (yk i) (ya i) (yb i) (yc i) (yd i) (yp i) (yq i))
    (hJ : ∀ (g : Int32) (T : Nat → List Int32) (ct : Int32) (sz it mk : Nat → Int32), kn_Rd N n S n T → kn_Fl g S T → kn_Rp T sz it → J g (nI (r + 1)) fn ct yk ya yb yc yd yp yq yr yw sz it mk) :
    ∀ (m i : Nat) (g : Int32) (T : Nat → List Int32) (ct : Int32) (sz it mk : Nat → Int32), i + m = n → kn_Rd N n S i T → kn_Fl g S T → kn_Rp T sz it → wY_settle_40 post J (nI r) (m + 1) g (nI i) fn ct yk ya yb yc yd yp yq yr yw sz it mk := by
  intro m
  induction m with
  | zero =>
    intro i g T ct sz it mk hi D F R
    have e : i = n := by omega
    subst e
    exact br_t (by rw [hv]; exact nI_le (Nat.le_refl _) (by omega)) (nm_r (nI_1 r) (hJ g T ct sz it mk D F R))
  | succ m ih =>
    intro i g T ct sz it mk hi D F R
    have hin : vp_in (nI i) 8 := vp_in_nI (by omega) (by omega)
    have hcl : (nI i).toNatClampNeg = i := nI_clamp (by omega)
    have hi' : i < n := by omega
    have ok := U.1 i hi'
    have Yi := Y i hi'
    have tT := kn_tot_le D.2.2.1 10
    have hC : yc (nI i).toNatClampNeg = nI (N i).2.2.2.1 := by rw [hcl]; exact Yi.2.2.2.1
    have hD : yd (nI i).toNatClampNeg = nI (N i).2.2.2.2.1 := by rw [hcl]; exact Yi.2.2.2.2.1
    have hK : yk (nI i).toNatClampNeg = nI (N i).1 := by rw [hcl]; exact Yi.1
    have wC : T (N i).2.2.2.1 <+: kn_F N i T := D.2.1.1 i hi' _ (Or.inl rfl)
    refine br_f (by rw [hv]; exact nI_ge (by omega) (by omega)) (kn_Ywork (by omega) ok Yi R (fun ct1 mk1 M1 => ⟨hin, ?_⟩))
    rw [hC]
    -- the second store, or none; the first one left flag g1
    have snd : ∀ (g1 : Int32) (sz1 it1 : Nat → Int32), kn_Rp (kn_up T (N i).2.2.2.1 (kn_F N i T)) sz1 it1 → kn_Fl g1 S (kn_up T (N i).2.2.2.1 (kn_F N i T)) →
        wY_settle_68 post J (wY_settle_40 post J (nI r) (m + 1)) g1 (nI r) (nI i) fn ct1 yk ya yb yc yd yp yq yr yw sz1 it1 mk1 := by
      intro g1 sz1 it1 R1 F1
      refine ⟨hin, ?_⟩
      by_cases k1 : (N i).1 = 1
      · refine br_t (kn_ky hK (by rw [k1]; decide)) ⟨hin, ?_⟩
        rw [hD]
        have ne : (N i).2.2.2.1 ≠ (N i).2.2.2.2.1 := ok.2.2.2.2.2.2 k1
        have wD : T (N i).2.2.2.2.1 <+: kn_F N i T := D.2.1.1 i hi' _ (Or.inr ⟨k1, rfl⟩)
        have eD : kn_up T (N i).2.2.2.1 (kn_F N i T) (N i).2.2.2.2.1 = T (N i).2.2.2.2.1 := kn_up_o (fun e => ne e.symm)
        have st : kn_St N i T (kn_up (kn_up T (N i).2.2.2.1 (kn_F N i T)) (N i).2.2.2.2.1 (kn_F N i T)) := by
          have e : N i = (1, (N i).2.1, (N i).2.2.1, (N i).2.2.2.1, (N i).2.2.2.2.1, (N i).2.2.2.2.2.1, (N i).2.2.2.2.2.2) := by rw [← k1]
          exact kn_St2 e rfl
        have L1 : kn_le (kn_up T (N i).2.2.2.1 (kn_F N i T)) (kn_up (kn_up T (N i).2.2.2.1 (kn_F N i T)) (N i).2.2.2.2.1 (kn_F N i T)) := by
          intro c
          by_cases z : c = (N i).2.2.2.2.1
          · rw [z, kn_up_s, eD]; exact wD
          · rw [kn_up_o z]; exact List.prefix_rfl
        have t1 := kn_tot_le L1 10
        refine kn_Ystore ok.2.2.2.2.2.1 R1 M1 (fun z sz2 it2 R2 => ?_) (fun z sz2 it2 R2 => ?_)
        · refine br_t rfl (nm_r (nI_1 i) (ih (i + 1) g1 _ ct1 sz2 it2 mk1 (by omega) (kn_Rd_s U D hi' st) ?_ R2))
          have e : kn_up (kn_up T (N i).2.2.2.1 (kn_F N i T)) (N i).2.2.2.2.1 (kn_F N i T) = kn_up T (N i).2.2.2.1 (kn_F N i T) := by
            funext c
            by_cases y : c = (N i).2.2.2.2.1
            · rw [y, kn_up_s, eD]
              rw [eD] at z
              exact (wD.eq_of_length_le z).symm
            · rw [kn_up_o y]
          rw [e]
          exact F1
        · refine br_f (by decide) (nm_r (nI_1 i) (ih (i + 1) 1 _ ct1 sz2 it2 mk1 (by omega) (kn_Rd_s U D hi' st) (kn_Fl1 ?_) R2))
          have t2 : kn_tot S 10 ≤ kn_tot (kn_up T (N i).2.2.2.1 (kn_F N i T)) 10 := by
            by_cases y : g1 = 0
            · rw [F1.1 y]; omega
            · have := F1.2 y; omega
          have t3 := kn_tot_lt L1 (c := (N i).2.2.2.2.1) (by rw [kn_up_s]; exact z) 10 ok.2.2.2.2.2.1
          omega
      · refine br_f (kn_kn hK ?_) (nm_r (nI_1 i) (ih (i + 1) g1 _ ct1 sz1 it1 mk1 (by omega) (kn_Rd_s U D hi' ?_) F1 R1))
        · have o1 := ok.1
          intro e
          rw [show (1 : Int32) = nI 1 from rfl, nI_eq (by omega) (by omega)] at e
          exact k1 e
        · exact kn_St1 (A := (N i).2.1) (B := (N i).2.2.1) (D := (N i).2.2.2.2.1) (P := (N i).2.2.2.2.2.1) (Q := (N i).2.2.2.2.2.2) rfl k1 rfl
    have L0 : kn_le T (kn_up T (N i).2.2.2.1 (kn_F N i T)) := by
      intro c
      by_cases z : c = (N i).2.2.2.1
      · rw [z, kn_up_s]; exact wC
      · rw [kn_up_o z]; exact List.prefix_rfl
    refine kn_Ystore ok.2.2.2.2.1 R M1 (fun z sz1 it1 R1 => ?_) (fun z sz1 it1 R1 => ?_)
    · refine br_t rfl (snd g sz1 it1 R1 ?_)
      have e : kn_up T (N i).2.2.2.1 (kn_F N i T) = T := by
        funext c
        by_cases y : c = (N i).2.2.2.1
        · rw [y, kn_up_s]; exact (wC.eq_of_length_le z).symm
        · rw [kn_up_o y]
      rw [e]
      exact F
    · refine br_f (by decide) (snd 1 sz1 it1 R1 (kn_Fl1 ?_))
      have t3 := kn_tot_lt L0 (c := (N i).2.2.2.1) (by rw [kn_up_s]; exact z) 10 ok.2.2.2.2.1
      omega
theorem kn_Y25 {post : SY → Prop} {N : Nat → kn_P} {n : Nat} (hn : n ≤ 8) (hv : fn = nI n) (U : kn_Un N n) (Y : ∀ i, i < n → kn_RY (N i) (yk i) (ya i) (yb i) (yc i) (yd i) (yp i) (yq i))
    (hpost : ∀ (T : Nat → List Int32) (ct : Int32) (sz it mk : Nat → Int32), kn_Ls N n T → kn_Rp T sz it → post (fn, ct, yk, ya, yb, yc, yd, yp, yq, yr, yw, sz, it, mk)) :
    ∀ (m r : Nat) (g : Int32) (T : Nat → List Int32) (ct : Int32) (sz it mk : Nat → Int32), r + m = 201 → kn_In N n T → kn_Rp T sz it → (g = 0 → kn_Ls N n T) → (g ≠ 0 → r ≤ kn_tot T 10) → wY_settle_25 post (m + 1) g (nI r) fn ct yk ya yb yc yd yp yq yr yw sz it mk := by
  intro m
  induction m with
  | zero =>
    intro r g T ct sz it mk hr I R h0 h1
    have b := kn_tot200 I
    refine br_t (nI_le (a := 201) (by omega) (by omega)) (hpost T ct sz it mk ?_ R)
    by_cases z : g = 0
    · exact h0 z
    · have := h1 z; omega
  | succ m ih =>
    intro r g T ct sz it mk hr I R h0 h1
    refine br_f (nI_ge (b := 201) (by omega) (by decide)) (br_c (fun z => hpost T ct sz it mk (h0 z) R) (fun z => ⟨n + 1, ?_⟩))
    refine kn_Y40 (S := T) hn hv U Y (fun g' T' ct' sz' it' mk' D F R' => ih (r + 1) g' T' ct' sz' it' mk' (by omega) D.2.1 R' (fun e => kn_Rd_e U D (F.1 e)) (fun e => ?_)) n 0 0 T ct sz it mk (by omega) (kn_Rd_0 I) ⟨fun _ => rfl, fun e => absurd rfl e⟩ R
    have a1 := F.2 e
    have a2 := h1 z
    omega
theorem kn_Y2 {post : SY → Prop} {N : Nat → kn_P} {n : Nat} (hn : n ≤ 8) (hv : fn = nI n) (U : kn_Un N n) (Y : ∀ i, i < n → kn_RY (N i) (yk i) (ya i) (yb i) (yc i) (yd i) (yp i) (yq i))
    (hpost : ∀ (T : Nat → List Int32) (ct : Int32) (sz it mk : Nat → Int32), kn_Ls N n T → kn_Rp T sz it → post (fn, ct, yk, ya, yb, yc, yd, yp, yq, yr, yw, sz, it, mk)) :
    ∀ (m c : Nat) (sz : Nat → Int32), c + m = 10 → (∀ j, j < c → sz j = 0) → wY_settle_2 post fn ct (m + 1) (nI c) yk ya yb yc yd yp yq yr yw sz it mk := by
  intro m
  induction m with
  | zero =>
    intro c sz hc h
    refine br_t (nI_le (a := 10) (by omega) (by omega)) ⟨202, kn_Y25 hn hv U Y hpost 201 0 1 (fun _ => []) ct sz it mk rfl (kn_In_0 N n) ?_ (fun e => absurd e (by decide)) (fun _ => Nat.zero_le _)⟩
    intro j hj
    exact ⟨Nat.zero_le _, h j (by omega), fun k hk => absurd hk (Nat.not_lt_zero k)⟩
  | succ m ih =>
    intro c sz hc h
    refine br_f (nI_ge (b := 10) (by omega) (by decide)) ⟨vp_in_nI (by omega) (by omega), nm_e (nm_r (nI_1 c) (ih (c + 1) _ (by omega) ?_))⟩
    intro j hj
    rw [nI_clamp (by omega)]
    by_cases z : j = c
    · rw [z, pk_us]
    · rw [pk_un z]; exact h j (by omega)
theorem kn_Ysettle {post : SY → Prop} {N : Nat → kn_P} {n : Nat} (hn : n ≤ 8) (hv : fn = nI n) (U : kn_Un N n) (Y : ∀ i, i < n → kn_RY (N i) (yk i) (ya i) (yb i) (yc i) (yd i) (yp i) (yq i))
    (hpost : ∀ (T : Nat → List Int32) (ct : Int32) (sz it mk : Nat → Int32), kn_Ls N n T → kn_Rp T sz it → post (fn, ct, yk, ya, yb, yc, yd, yp, yq, yr, yw, sz, it, mk)) : wpY_settle post (fn, ct, yk, ya, yb, yc, yd, yp, yq, yr, yw, sz, it, mk) :=
  ⟨11, kn_Y2 hn hv U Y hpost 10 0 sz rfl (fun j h => absurd h (Nat.not_lt_zero j))⟩
end
