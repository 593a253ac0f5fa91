theorem kn_ky {x y : Int32} {k : Nat} (h : x = nI k) (d : nI k = y) : x = y := h.trans d
theorem kn_kn {x y : Int32} {k : Nat} (h : x = nI k) (d : ¬ nI k = y) : ¬ x = y := fun e => d (h.symm.trans e)
-- the list g lies in made, count its length
def kn_Mk (g : List Int32) (ct : Int32) (mk : Nat → Int32) : Prop := g.length ≤ 20 ∧ ct = nI g.length ∧ ∀ k (h : k < g.length), mk k = g[k]
theorem kn_t20s {e : List Int32} {x : Int32} (h : e.length < 20) : (e ++ [x]).take 20 = e ++ [x] := List.take_of_length_le (by rw [kn_l1 rfl]; omega)
theorem kn_t20b {e : List Int32} {x : Int32} (h : 20 ≤ e.length) : (e ++ [x]).take 20 = e.take 20 := by
  rw [List.take_append_of_le_length h]
section
variable {fn ct : Int32} {yk ya yb yc yd yp yq yr yw sz it mk : Nat → Int32} {post : SY → Prop} {S : Nat → List Int32} {i A B : Nat} {o : List Int32}
theorem kn_Yw {e : List Int32} {x : Int32} (M : kn_Mk (e.take 20) ct mk) (h : ∀ ct' mk', kn_Mk ((e ++ [x]).take 20) ct' mk' → post (fn, ct', yk, ya, yb, yc, yd, yp, yq, yr, yw, sz, it, mk')) : wpY_write post (fn, ct, yk, ya, yb, yc, yd, yp, yq, yr, yw, sz, it, mk) x := by
  obtain ⟨m1, m2, m3⟩ := M
  by_cases z : e.length < 20
  · have e0 : e.take 20 = e := List.take_of_length_le (by omega)
    rw [e0] at m1 m2
    have n20 : ¬ (20 : Int32) ≤ ct := by rw [m2]; exact nI_ge (b := 20) z (by decide)
    refine br_f n20 ⟨by rw [m2]; exact vp_in_nI z (by omega), nm_e (nm_e (h _ _ ?_))⟩
    rw [kn_t20s z, m2, nI_clamp (by omega)]
    refine ⟨by rw [kn_l1 rfl]; omega, kn_len1 e x, ?_⟩
    intro k hk
    rw [kn_l1 rfl] at hk
    by_cases y : k = e.length
    · subst y
      rw [pk_us]
      simp
    · have hk' : k < e.length := by omega
      rw [pk_un y, List.getElem_append_left hk', m3 k (by rw [e0]; exact hk')]
      congr 1
  · have le : (e.take 20).length = 20 := by rw [List.length_take]; omega
    have y20 : (20 : Int32) ≤ ct := by rw [m2, le]; decide
    exact br_t y20 (h _ _ (by rw [kn_t20b (by omega)]; exact ⟨m1, m2, m3⟩))
-- what the reference's loop writes at k, and what is left to write
def kn_em (kd : Nat) (p s : Int32) (k lb : Nat) (v r z : Int32) : List Int32 :=
  if kd = 1 ∨ kd = 3 then [v] else if kd = 4 then (if v &&& p = 0 then [v] else []) else if kd = 6 then [s + v]
  else if kd = 2 then (if k < lb then [v + r] else []) else (if k % 2 = 1 then [z - v] else [])
def kn_rs (kd : Nat) (p s : Int32) (k : Nat) (al bl : List Int32) : List Int32 :=
  if kd = 1 ∨ kd = 3 then al.drop k else if kd = 4 then kn_pk p (al.drop k) else if kd = 6 then kn_sm s (al.drop k)
  else if kd = 2 then kn_pl (al.drop k) (bl.drop k) else kn_pr (al.drop (k - k % 2))
theorem kn_rs_e (kd : Nat) (p s : Int32) (k : Nat) (al bl : List Int32) (h : al.length ≤ k) (hk : k ≤ al.length) : kn_rs kd p s k al bl = [] := by
  have d := List.drop_eq_nil_of_le h
  unfold kn_rs
  split
  · exact d
  split
  · rw [d]; rfl
  split
  · rw [d]; rfl
  split
  · rw [d, kn_pl_nil_l]
  · exact kn_pr_le (by rw [List.length_drop]; omega)
theorem kn_rs_s (kd : Nat) (p s : Int32) (k : Nat) (al bl : List Int32) (r z : Int32) (h : k < al.length) (hr : ∀ g : k < bl.length, r = bl[k]) (hz : ∀ g : 0 < k, z = al[k - 1]) :
    kn_rs kd p s k al bl = kn_em kd p s k bl.length al[k] r z ++ kn_rs kd p (s + al[k]) (k + 1) al bl := by
  have d := List.drop_eq_getElem_cons h
  unfold kn_rs kn_em
  by_cases c1 : kd = 1 ∨ kd = 3
  · rw [if_pos c1, if_pos c1, if_pos c1, d]; rfl
  rw [if_neg c1, if_neg c1, if_neg c1]
  by_cases c4 : kd = 4
  · rw [if_pos c4, if_pos c4, if_pos c4, d, kn_pk]
    by_cases y : al[k] &&& p = 0
    · rw [if_pos y, if_pos y]; rfl
    · rw [if_neg y, if_neg y]; rfl
  rw [if_neg c4, if_neg c4, if_neg c4]
  by_cases c6 : kd = 6
  · rw [if_pos c6, if_pos c6, if_pos c6, d, kn_sm]; rfl
  rw [if_neg c6, if_neg c6, if_neg c6]
  by_cases c2 : kd = 2
  · rw [if_pos c2, if_pos c2, if_pos c2, d]
    by_cases y : k < bl.length
    · rw [if_pos y, List.drop_eq_getElem_cons y, kn_pl, hr y]; rfl
    · rw [if_neg y, List.drop_eq_nil_of_le (as := bl) (i := k) (by omega), List.drop_eq_nil_of_le (as := bl) (i := k + 1) (by omega), kn_pl_nil_r, kn_pl_nil_r]; rfl
  rw [if_neg c2, if_neg c2, if_neg c2]
  by_cases y : k % 2 = 1
  · obtain ⟨j, rfl⟩ : ∃ j, k = j + 1 := ⟨k - 1, by omega⟩
    have hj : j < al.length := by omega
    rw [if_pos y, show j + 1 - (j + 1) % 2 = j by omega, show j + 1 + 1 - (j + 1 + 1) % 2 = j + 1 + 1 by omega, List.drop_eq_getElem_cons hj, List.drop_eq_getElem_cons h, kn_pr, hz (by omega)]
    rfl
  · rw [if_neg y, show k - k % 2 = k by omega, show k + 1 - (k + 1) % 2 = k by omega]
    rfl
theorem kn_gt {post : Int32 → Prop} {a k : Nat} (ha : a < 10) (hk : k < 20) (h : post (it (20 * a + k))) : wpY_get post (fn, ct, yk, ya, yb, yc, yd, yp, yq, yr, yw, sz, it, mk) (nI a) (nI k) := by
  refine ⟨by rw [kn_iy]; exact vp_in_nI (by omega) (by omega), ?_⟩
  rw [kn_iy, nI_clamp (by omega)]
  exact h
theorem kn_Y178 {J : Int32 → Int32 → Int32 → Int32 → (Nat → Int32) → (Nat → Int32) → (Nat → Int32) → (Nat → Int32) → (Nat → Int32) → (Nat → Int32) → (Nat → Int32) → (Nat → Int32) → (Nat → Int32) → (Nat → Int32) → (Nat → Int32) → (Nat → Int32) → Prop}
    {kd k : Nat} {e : List Int32} {p s v r z x2 : Int32} (hi : i < 8) (h7 : kd = 1 ∨ kd = 2 ∨ kd = 3 ∨ kd = 4 ∨ kd = 6 ∨ kd = 7) (hk : yk (nI i).toNatClampNeg = nI kd)
    (hb : yb (nI i).toNatClampNeg = nI B) (hB : B < 10) (hp : yp (nI i).toNatClampNeg = p) (R : kn_Rp S sz it) (hk20 : k < 20) (M : kn_Mk (e.take 20) ct mk)
    (h : ∀ ct' mk', kn_Mk ((e ++ kn_em kd p s k (S B).length v r z).take 20) ct' mk' → J (s + v) (nI (k + 1)) fn ct' yk ya yb yc yd yp yq yr yw sz it mk') :
    wY_work_178 post J (nI i) x2 s (nI k) v r z fn ct yk ya yb yc yd yp yq yr yw sz it mk := by
  have hin : vp_in (nI i) 8 := vp_in_nI hi (by omega)
  have hBl := (R B hB).1
  rcases h7 with rfl | rfl | rfl | rfl | rfl | rfl
  · refine nm_e ⟨hin, br_t (kn_ky hk (by decide)) (kn_Yw M (fun ct' mk' M' => ?_))⟩
    exact ⟨hin, br_f (kn_kn hk (by decide)) ⟨hin, br_f (kn_kn hk (by decide)) ⟨hin, br_f (kn_kn hk (by decide)) (nm_r (nI_1 k) (h ct' mk' M'))⟩⟩⟩
  · refine nm_e ⟨hin, br_f (kn_kn hk (by decide)) ⟨hin, br_f (kn_kn hk (by decide)) ⟨hin, br_f (kn_kn hk (by decide)) ?_⟩⟩⟩
    refine ⟨hin, br_f (kn_kn hk (by decide)) ⟨hin, br_t (kn_ky hk (by decide)) ⟨hin, by rw [hb]; exact vp_in_nI hB (by omega), ?_⟩⟩⟩
    refine pk_le (S B).length k (fun y => ?_) (fun y => ?_) (by rw [hb]; exact kn_lA R hB)
    · refine ⟨hin, br_f (kn_kn hk (by decide)) (nm_r (nI_1 k) (h ct mk ?_))⟩
      have : kn_em 2 p s k (S B).length v r z = [] := if_neg (show ¬ k < (S B).length by omega)
      rw [this, List.append_nil]
      exact M
    · refine kn_Yw M (fun ct' mk' M' => ⟨hin, br_f (kn_kn hk (by decide)) (nm_r (nI_1 k) (h ct' mk' ?_))⟩)
      have : kn_em 2 p s k (S B).length v r z = [v + r] := if_pos y
      rw [this]
      exact M'
  · refine nm_e ⟨hin, br_f (kn_kn hk (by decide)) ⟨hin, br_t (kn_ky hk (by decide)) (kn_Yw M (fun ct' mk' M' => ?_))⟩⟩
    exact ⟨hin, br_f (kn_kn hk (by decide)) ⟨hin, br_f (kn_kn hk (by decide)) ⟨hin, br_f (kn_kn hk (by decide)) (nm_r (nI_1 k) (h ct' mk' M'))⟩⟩⟩
  · refine nm_e ⟨hin, br_f (kn_kn hk (by decide)) ⟨hin, br_f (kn_kn hk (by decide)) ⟨hin, br_t (kn_ky hk (by decide)) ⟨hin, ?_⟩⟩⟩⟩
    rw [hp]
    by_cases y : v &&& p = 0
    · refine br_t y (kn_Yw M (fun ct' mk' M' => ?_))
      have : kn_em 4 p s k (S B).length v r z = [v] := if_pos y
      rw [this] at h
      exact ⟨hin, br_f (kn_kn hk (by decide)) ⟨hin, br_f (kn_kn hk (by decide)) ⟨hin, br_f (kn_kn hk (by decide)) (nm_r (nI_1 k) (h ct' mk' M'))⟩⟩⟩
    · have : kn_em 4 p s k (S B).length v r z = [] := if_neg y
      rw [this, List.append_nil] at h
      exact br_f y ⟨hin, br_f (kn_kn hk (by decide)) ⟨hin, br_f (kn_kn hk (by decide)) ⟨hin, br_f (kn_kn hk (by decide)) (nm_r (nI_1 k) (h ct mk M))⟩⟩⟩
  · refine nm_e ⟨hin, br_f (kn_kn hk (by decide)) ⟨hin, br_f (kn_kn hk (by decide)) ⟨hin, br_f (kn_kn hk (by decide)) ?_⟩⟩⟩
    refine ⟨hin, br_t (kn_ky hk (by decide)) (kn_Yw M (fun ct' mk' M' => ?_))⟩
    exact ⟨hin, br_f (kn_kn hk (by decide)) ⟨hin, br_f (kn_kn hk (by decide)) (nm_r (nI_1 k) (h ct' mk' M'))⟩⟩
  · refine nm_e ⟨hin, br_f (kn_kn hk (by decide)) ⟨hin, br_f (kn_kn hk (by decide)) ⟨hin, br_f (kn_kn hk (by decide)) ?_⟩⟩⟩
    refine ⟨hin, br_f (kn_kn hk (by decide)) ⟨hin, br_f (kn_kn hk (by decide)) ⟨hin, br_t (kn_ky hk (by decide)) ⟨by decide, ?_⟩⟩⟩⟩
    refine pk_eq (k % 2) 1 (fun y => ?_) (fun y => ?_) (by rw [show (2 : Int32) = nI 2 from rfl]; exact pk_rem (by omega) (by omega) (by omega))
    · refine kn_Yw M (fun ct' mk' M' => nm_r (nI_1 k) (h ct' mk' ?_))
      have : kn_em 7 p s k (S B).length v r z = [z - v] := if_pos y
      rw [this]
      exact M'
    · refine nm_r (nI_1 k) (h ct mk ?_)
      have : kn_em 7 p s k (S B).length v r z = [] := if_neg y
      rw [this, List.append_nil]
      exact M
theorem kn_Y107 {kd : Nat} {p : Int32} (hi : i < 8) (h7 : kd = 1 ∨ kd = 2 ∨ kd = 3 ∨ kd = 4 ∨ kd = 6 ∨ kd = 7) (hk : yk (nI i).toNatClampNeg = nI kd) (hA : A < 10)
    (hb : yb (nI i).toNatClampNeg = nI B) (hB : B < 10) (hp : yp (nI i).toNatClampNeg = p) (R : kn_Rp S sz it) (h : ∀ ct' mk', kn_Mk (o.take 20) ct' mk' → post (fn, ct', yk, ya, yb, yc, yd, yp, yq, yr, yw, sz, it, mk')) :
    ∀ (m k : Nat) (e : List Int32) (s ct : Int32) (mk : Nat → Int32), k + m = (S A).length → e ++ kn_rs kd p s k (S A) (S B) = o → kn_Mk (e.take 20) ct mk →
    wY_work_107 post (nI i) (nI A) (m + 1) s (nI k) fn ct yk ya yb yc yd yp yq yr yw sz it mk := by
  have hin : vp_in (nI i) 8 := vp_in_nI hi (by omega)
  have hAl := (R A hA).1
  have k0 : ¬ yk (nI i).toNatClampNeg = 0 := by rcases h7 with rfl | rfl | rfl | rfl | rfl | rfl <;> exact kn_kn hk (by decide)
  have k5 : ¬ yk (nI i).toNatClampNeg = 5 := by rcases h7 with rfl | rfl | rfl | rfl | rfl | rfl <;> exact kn_kn hk (by decide)
  intro m
  induction m with
  | zero =>
    intro k e s ct mk hkm ho M
    rw [kn_rs_e kd p s k _ _ (by omega) (by omega), List.append_nil] at ho
    refine ⟨hin, br_f k0 ⟨hin, br_f k5 ⟨vp_in_nI hA (by omega), br_t ?_ (h ct mk (by rw [← ho]; exact M))⟩⟩⟩
    rw [kn_lA R hA]
    exact nI_le (by omega) (by omega)
  | succ m ih =>
    intro k e s ct mk hkm ho M
    have hlt : k < (S A).length := by omega
    refine ⟨hin, br_f k0 ⟨hin, br_f k5 ⟨vp_in_nI hA (by omega), br_f ?_ (kn_gt hA (by omega) ⟨hin, ?_⟩)⟩⟩⟩
    · rw [kn_lA R hA]
      exact nI_ge (by omega) (by omega)
    rw [hb]
    refine kn_gt hB (by omega) ?_
    have go : ∀ z : Int32, (∀ g : 0 < k, z = (S A)[k - 1]) → wY_work_178 post (wY_work_107 post (nI i) (nI A) (m + 1)) (nI i) (nI A) s (nI k) (it (20 * A + k)) (it (20 * B + k)) z fn ct yk ya yb yc yd yp yq yr yw sz it mk := by
      intro z hz
      refine kn_Y178 hi h7 hk hb hB hp R (by omega) M (fun ct' mk' M' => ih (k + 1) _ _ ct' mk' (by omega) ?_ M')
      rw [← ho, kn_rs_s kd p s k (S A) (S B) (it (20 * B + k)) z hlt (fun g => (R B hB).2.2 k g) hz, (R A hA).2.2 k hlt, List.append_assoc]
    by_cases z : k = 0
    · subst z
      exact br_t (by decide) (go 0 (fun g => absurd g (by decide)))
    · refine br_f (nI_nle (by omega) (by omega)) ?_
      obtain ⟨j, rfl⟩ : ∃ j, k = j + 1 := ⟨k - 1, by omega⟩
      rw [nI_pred j]
      exact kn_gt hA (by omega) (go _ (fun _ => (R A hA).2.2 j (by omega)))
end
