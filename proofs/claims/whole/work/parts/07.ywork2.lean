section
variable {fn ct : Int32} {yk ya yb yc yd yp yq yr yw sz it mk : Nat → Int32} {post : SY → Prop} {S : Nat → List Int32} {i A B : Nat} {o : List Int32}
theorem kn_Yjoin (hA : A < 10) (hB : B < 10) (R : kn_Rp S sz it) (h : ∀ ct' mk', kn_Mk (o.take 20) ct' mk' → post (fn, ct', yk, ya, yb, yc, yd, yp, yq, yr, yw, sz, it, mk')) :
    ∀ (m k i j : Nat) (e : List Int32) (ct : Int32) (mk : Nat → Int32), k + m = 20 → i + j = k → e.length = k → e ++ kn_jn m ((S A).drop i) ((S B).drop j) = o → kn_Mk (e.take 20) ct mk →
    wY_join_8 post (nI A) (nI B) (m + 1) (nI i) (nI j) (nI k) fn ct yk ya yb yc yd yp yq yr yw sz it mk := by
  have hAl := (R A hA).1
  have hBl := (R B hB).1
  have iA : vp_in (nI A) 10 := vp_in_nI hA (by omega)
  have iB : vp_in (nI B) 10 := vp_in_nI hB (by omega)
  intro m
  induction m with
  | zero =>
    intro k i j e ct mk hk hij hek ho M
    refine br_t (nI_le (a := 20) (by omega) (by omega)) (h ct mk ?_)
    rw [← ho, List.take_append_of_le_length (by omega)]
    exact M
  | succ m ih =>
    intro k i j e ct mk hk hij hek ho M
    refine br_f (nI_ge (b := 20) (by omega) (by decide)) ⟨iA, ?_⟩
    refine pk_le (S A).length i (fun hi => ?_) (fun hi => ⟨iB, ?_⟩) (kn_lA R hA)
    · rw [List.drop_eq_nil_of_le hi, kn_jn_nil_l, List.append_nil] at ho
      exact h ct mk (by rw [← ho]; exact M)
    refine pk_le (S B).length j (fun hj => ?_) (fun hj => ?_) (kn_lA R hB)
    · rw [List.drop_eq_nil_of_le hj, kn_jn_nil_r, List.append_nil] at ho
      exact h ct mk (by rw [← ho]; exact M)
    have da := List.drop_eq_getElem_cons hi
    have db := List.drop_eq_getElem_cons hj
    have ej : kn_jn (m + 1) ((S A).drop i) ((S B).drop j) = if (S B)[j] < (S A)[i] then (S B)[j] :: kn_jn m ((S A).drop i) ((S B).drop (j + 1)) else (S A)[i] :: kn_jn m ((S A).drop (i + 1)) ((S B).drop j) := by
      rw [da, db, kn_jn]
    rw [ej] at ho
    refine kn_gt hA (by omega) (kn_gt hB (by omega) ?_)
    rw [(R A hA).2.2 i hi, (R B hB).2.2 j hj]
    by_cases z : (S B)[j] < (S A)[i]
    · rw [if_pos z] at ho
      refine br_t z (kn_Yw M (fun ct' mk' M' => br_t z (nm_r (nI_1 j) (nm_r (nI_1 k) (ih (k + 1) i (j + 1) _ ct' mk' (by omega) (by omega) (kn_l1 hek) ((kn_app _ _ _).symm.trans ho) M')))))
    · rw [if_neg z] at ho
      refine br_f z (kn_Yw M (fun ct' mk' M' => br_f z (nm_r (nI_1 i) (nm_r (nI_1 k) (ih (k + 1) (i + 1) j _ ct' mk' (by omega) (by omega) (kn_l1 hek) ((kn_app _ _ _).symm.trans ho) M')))))
theorem kn_Ysource {p q x2 x3 : Int32} (hi : i < 8) (hb : yb (nI i).toNatClampNeg = nI B) (hB : B < 100) (hp : yp (nI i).toNatClampNeg = p) (hq : yq (nI i).toNatClampNeg = q)
    (h : ∀ ct' mk', kn_Mk (o.take 20) ct' mk' → wY_work_63 post (nI i) x2 x3 fn ct' yk ya yb yc yd yp yq yr yw sz it mk') :
    ∀ (m k : Nat) (e : List Int32) (ct : Int32) (mk : Nat → Int32), k + m = B → e ++ kn_sr p q m k = o → kn_Mk (e.take 20) ct mk → wY_work_26 post (nI i) x2 x3 (m + 1) (nI k) fn ct yk ya yb yc yd yp yq yr yw sz it mk := by
  have hin : vp_in (nI i) 8 := vp_in_nI hi (by omega)
  intro m
  induction m with
  | zero =>
    intro k e ct mk hk ho M
    refine ⟨hin, br_t (by rw [hb]; exact nI_le (by omega) (by omega)) (h ct mk ?_)⟩
    rw [kn_sr, List.append_nil] at ho
    rw [← ho]
    exact M
  | succ m ih =>
    intro k e ct mk hk ho M
    rw [kn_sr] at ho
    refine ⟨hin, br_f (by rw [hb]; exact nI_ge (by omega) (by omega)) ⟨hin, hin, ?_⟩⟩
    rw [hp, hq]
    exact kn_Yw M (fun ct' mk' M' => nm_r (nI_1 k) (ih (k + 1) _ ct' mk' (by omega) ((kn_app _ _ _).symm.trans ho) M'))
-- process p as the reference holds it
def kn_RY (p : kn_P) (k a b c d n q : Int32) : Prop :=
  k = nI p.1 ∧ a = nI p.2.1 ∧ b = nI p.2.2.1 ∧ c = nI p.2.2.2.1 ∧ d = nI p.2.2.2.2.1 ∧ n = p.2.2.2.2.2.1 ∧ (p.1 = 0 → q = p.2.2.2.2.2.2)
theorem kn_Mk0 (mk : Nat → Int32) : kn_Mk (([] : List Int32).take 20) 0 mk := ⟨by decide, rfl, fun k h => absurd h (Nat.not_lt_zero k)⟩
theorem kn_Ywork {N : Nat → kn_P} (hi : i < 8) (ok : kn_ok (N i)) (Y : kn_RY (N i) (yk i) (ya i) (yb i) (yc i) (yd i) (yp i) (yq i)) (R : kn_Rp S sz it)
    (h : ∀ ct' mk', kn_Mk (kn_F N i S) ct' mk' → post (fn, ct', yk, ya, yb, yc, yd, yp, yq, yr, yw, sz, it, mk')) : wpY_work post (fn, ct, yk, ya, yb, yc, yd, yp, yq, yr, yw, sz, it, mk) (nI i) := by
  have hcl : (nI i).toNatClampNeg = i := nI_clamp (by omega)
  have hin : vp_in (nI i) 8 := vp_in_nI hi (by omega)
  have Y' : kn_RY (N i) (yk (nI i).toNatClampNeg) (ya (nI i).toNatClampNeg) (yb (nI i).toNatClampNeg) (yc (nI i).toNatClampNeg) (yd (nI i).toNatClampNeg) (yp (nI i).toNatClampNeg) (yq (nI i).toNatClampNeg) := by
    rw [hcl]; exact Y
  clear Y
  generalize hN : N i = pp at ok Y'
  obtain ⟨kd, A, B, C, D, P, Q⟩ := pp
  obtain ⟨o1, o2, o3, o4, o5, o6, o7⟩ := ok
  obtain ⟨y1, y2, y3, y4, y5, y6, y7⟩ := Y'
  dsimp only at o1 o2 o3 o4 o5 o6 o7 y1 y2 y3 y4 y5 y6 y7
  refine ⟨hin, nm_r y2 ⟨hin, ?_⟩⟩
  have cs : kd = 0 ∨ kd = 1 ∨ kd = 2 ∨ kd = 3 ∨ kd = 4 ∨ kd = 5 ∨ kd = 6 ∨ kd = 7 := by omega
  rcases cs with rfl | rfl | rfl | rfl | rfl | rfl | rfl | rfl
  · have eF : kn_F N i S = (kn_sr P Q B 0).take 20 := by unfold kn_F; rw [hN]; rfl
    rw [eF] at h
    refine br_t (kn_ky y1 (by decide)) ⟨B + 1, kn_Ysource hi y3 (by omega) y6 (y7 rfl) (fun ct' mk' M' => ?_) B 0 [] 0 mk (by omega) rfl (kn_Mk0 mk)⟩
    exact ⟨hin, br_f (kn_kn y1 (by decide)) ⟨hin, br_f (kn_kn y1 (by decide)) ⟨1, ⟨hin, br_t (kn_ky y1 (by decide)) (h ct' mk' M')⟩⟩⟩⟩
  · have eF : kn_F N i S = (S A).take 20 := by unfold kn_F; rw [hN]; rfl
    rw [eF] at h
    refine br_f (kn_kn y1 (by decide)) ⟨hin, br_f (kn_kn y1 (by decide)) ⟨hin, br_f (kn_kn y1 (by decide)) ⟨(S A).length + 1, ?_⟩⟩⟩
    exact kn_Y107 (kd := 1) hi (Or.inl rfl) y1 o2 y3 (o4 (by decide)) y6 R h (S A).length 0 [] 0 0 mk (by omega) rfl (kn_Mk0 mk)
  · have eF : kn_F N i S = (kn_pl (S A) (S B)).take 20 := by unfold kn_F; rw [hN]; rfl
    rw [eF] at h
    refine br_f (kn_kn y1 (by decide)) ⟨hin, br_f (kn_kn y1 (by decide)) ⟨hin, br_f (kn_kn y1 (by decide)) ⟨(S A).length + 1, ?_⟩⟩⟩
    exact kn_Y107 (kd := 2) hi (Or.inr (Or.inl rfl)) y1 o2 y3 (o4 (by decide)) y6 R h (S A).length 0 [] 0 0 mk (by omega) rfl (kn_Mk0 mk)
  · have eF : kn_F N i S = (P :: S A).take 20 := by unfold kn_F; rw [hN]; rfl
    rw [eF] at h
    refine br_f (kn_kn y1 (by decide)) ⟨hin, br_t (kn_ky y1 (by decide)) ⟨hin, kn_Yw (e := []) (kn_Mk0 mk) (fun ct' mk' M' => ⟨hin, br_f (kn_kn y1 (by decide)) ⟨(S A).length + 1, ?_⟩⟩)⟩⟩
    exact kn_Y107 (kd := 3) hi (Or.inr (Or.inr (Or.inl rfl))) y1 o2 y3 (o4 (by decide)) y6 R h (S A).length 0 [P] 0 ct' mk' (by omega) rfl (by rw [y6] at M'; exact M')
  · have eF : kn_F N i S = (kn_pk P (S A)).take 20 := by unfold kn_F; rw [hN]; rfl
    rw [eF] at h
    refine br_f (kn_kn y1 (by decide)) ⟨hin, br_f (kn_kn y1 (by decide)) ⟨hin, br_f (kn_kn y1 (by decide)) ⟨(S A).length + 1, ?_⟩⟩⟩
    exact kn_Y107 (kd := 4) hi (Or.inr (Or.inr (Or.inr (Or.inl rfl)))) y1 o2 y3 (o4 (by decide)) y6 R h (S A).length 0 [] 0 0 mk (by omega) rfl (kn_Mk0 mk)
  · have eF : kn_F N i S = (kn_jn 20 (S A) (S B)).take 20 := by unfold kn_F; rw [hN]; rfl
    rw [eF] at h
    refine br_f (kn_kn y1 (by decide)) ⟨hin, br_f (kn_kn y1 (by decide)) ⟨hin, br_t (kn_ky y1 (by decide)) ⟨hin, ?_⟩⟩⟩
    rw [y3]
    exact ⟨21, kn_Yjoin o2 (o4 (by decide)) R (fun ct' mk' M' => ⟨1, ⟨hin, br_f (kn_kn y1 (by decide)) ⟨hin, br_t (kn_ky y1 (by decide)) (h ct' mk' M')⟩⟩⟩) 20 0 0 0 [] 0 mk rfl rfl rfl rfl (kn_Mk0 mk)⟩
  · have eF : kn_F N i S = (kn_sm 0 (S A)).take 20 := by unfold kn_F; rw [hN]; rfl
    rw [eF] at h
    refine br_f (kn_kn y1 (by decide)) ⟨hin, br_f (kn_kn y1 (by decide)) ⟨hin, br_f (kn_kn y1 (by decide)) ⟨(S A).length + 1, ?_⟩⟩⟩
    exact kn_Y107 (kd := 6) hi (Or.inr (Or.inr (Or.inr (Or.inr (Or.inl rfl))))) y1 o2 y3 (o4 (by decide)) y6 R h (S A).length 0 [] 0 0 mk (by omega) rfl (kn_Mk0 mk)
  · have eF : kn_F N i S = (kn_pr (S A)).take 20 := by unfold kn_F; rw [hN]; rfl
    rw [eF] at h
    refine br_f (kn_kn y1 (by decide)) ⟨hin, br_f (kn_kn y1 (by decide)) ⟨hin, br_f (kn_kn y1 (by decide)) ⟨(S A).length + 1, ?_⟩⟩⟩
    exact kn_Y107 (kd := 7) hi (Or.inr (Or.inr (Or.inr (Or.inr (Or.inr rfl))))) y1 o2 y3 (o4 (by decide)) y6 R h (S A).length 0 [] 0 0 mk (by omega) rfl (kn_Mk0 mk)
end
