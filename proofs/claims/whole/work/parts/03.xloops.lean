section
variable {vc : Int32} {vk va vb vcc vd vn vi vm : Nat → Int32} {post : SX → Prop} {S : Nat → List Int32} {a b c d : Nat} {o : List Int32}
theorem kn_fin {e r : List Int32} {l dd : Nat → Int32} (ho : e ++ r = o) (hr : r = [] ∨ 20 ≤ e.length) (R : kn_Rp (kn_xs S c e r) l dd) : kn_Rp (kn_up S c (o.take 20)) l dd := by
  rw [kn_xs_e hr, ho] at R; exact R
theorem kn_po {e r : List Int32} (hp : S c <+: o.take 20) (ho : e ++ r = o) : S c <+: (e ++ r).take 20 := by rw [ho]; exact hp
theorem kn_l1 {e : List Int32} {x : Int32} {k : Nat} (h : e.length = k) : (e ++ [x]).length = k + 1 := by rw [List.length_append, h]; rfl
theorem kn_Lsource {p q : Int32} {nb : Nat} (hn : nb < 100) (hc : c < 10) (hp : S c <+: o.take 20) (h : ∀ l' d', kn_Rp (kn_up S c (o.take 20)) l' d' → post (vc, vk, va, vb, vcc, vd, vn, vi, vm, l', d')) :
    ∀ (m k : Nat) (e : List Int32) (l dd : Nat → Int32), k + m = nb → e.length = k → e ++ kn_sr p q m k = o → kn_Rp (kn_xs S c e (kn_sr p q m k)) l dd →
    wX_writeSource_3 post (nI c) p q (nI nb) (m + 1) (nI k) vc vk va vb vcc vd vn vi vm l dd := by
  intro m
  induction m with
  | zero =>
    intro k e l dd hk hek ho R
    exact br_t (nI_le (by omega) (by omega)) (h l dd (kn_fin ho (Or.inl rfl) R))
  | succ m ih =>
    intro k e l dd hk hek ho R
    rw [kn_sr] at ho R
    refine br_f (nI_ge (by omega) (by omega)) ?_
    exact kn_put (by rw [hek]) rfl hc (by omega) (kn_po hp ho) R (fun l' d' R' => nm_r (nI_1 k) (ih (k + 1) _ l' d' (by omega) (kn_l1 hek) ((kn_app _ _ _).symm.trans ho) R'))
theorem kn_Lsums (ha : a < 10) (hc : c < 10) (hl : (S a).length ≤ 20) (hp : S c <+: o.take 20) (h : ∀ l' d', kn_Rp (kn_up S c (o.take 20)) l' d' → post (vc, vk, va, vb, vcc, vd, vn, vi, vm, l', d')) :
    ∀ (m k : Nat) (e : List Int32) (s : Int32) (l dd : Nat → Int32), k + m = (S a).length → e.length = k → e ++ kn_sm s ((S a).drop k) = o → kn_Rp (kn_xs S c e (kn_sm s ((S a).drop k))) l dd →
    wX_writeSums_13 post (nI a) (nI c) (nI (S a).length) (m + 1) s (nI k) vc vk va vb vcc vd vn vi vm l dd := by
  intro m
  induction m with
  | zero =>
    intro k e s l dd hk hek ho R
    rw [List.drop_eq_nil_of_le (by omega)] at ho R
    exact br_t (nI_le (by omega) (by omega)) (h l dd (kn_fin ho (Or.inl rfl) R))
  | succ m ih =>
    intro k e s l dd hk hek ho R
    have hlt : k < (S a).length := by omega
    rw [List.drop_eq_getElem_cons hlt, kn_sm] at ho R
    obtain ⟨hin, hv⟩ := kn_rd R (kn_xs_pre (kn_po hp ho)) ha hlt
    refine br_f (nI_ge (by omega) (by omega)) ⟨hin, nm_r (e' := s + (S a)[k]) (by rw [hv]) ?_⟩
    exact kn_put (by rw [hek]) rfl hc (by omega) (kn_po hp ho) R (fun l' d' R' => nm_r (nI_1 k) (ih (k + 1) _ _ l' d' (by omega) (kn_l1 hek) ((kn_app _ _ _).symm.trans ho) R'))
theorem kn_Lfirst (ha : a < 10) (hc : c < 10) (hl : (S a).length ≤ 20) (hp : S c <+: o.take 20) (h : ∀ l' d', kn_Rp (kn_up S c (o.take 20)) l' d' → post (vc, vk, va, vb, vcc, vd, vn, vi, vm, l', d')) :
    ∀ (m k : Nat) (e : List Int32) (l dd : Nat → Int32), k + m = (S a).length → e.length = k + 1 → e ++ (S a).drop k = o → kn_Rp (kn_xs S c e ((S a).drop k)) l dd →
    wX_writeFirst_18 post (nI a) (nI c) (nI (S a).length) (m + 1) (nI k) vc vk va vb vcc vd vn vi vm l dd := by
  intro m
  induction m with
  | zero =>
    intro k e l dd hk hek ho R
    rw [List.drop_eq_nil_of_le (by omega)] at ho R
    exact br_t (nI_le (by omega) (by omega)) (h l dd (kn_fin ho (Or.inl rfl) R))
  | succ m ih =>
    intro k e l dd hk hek ho R
    have hlt : k < (S a).length := by omega
    rw [List.drop_eq_getElem_cons hlt] at ho R
    obtain ⟨hin, hv⟩ := kn_rd R (kn_xs_pre (kn_po hp ho)) ha hlt
    refine br_f (nI_ge (by omega) (by omega)) ⟨hin, ?_⟩
    exact kn_put (by rw [hek, nI_1]) hv hc (by omega) (kn_po hp ho) R (fun l' d' R' => nm_r (nI_1 k) (ih (k + 1) _ l' d' (by omega) (kn_l1 hek) ((kn_app _ _ _).symm.trans ho) R'))
theorem kn_Lpick {mk : Int32} (ha : a < 10) (hc : c < 10) (hl : (S a).length ≤ 20) (hp : S c <+: o.take 20) (h : ∀ l' d', kn_Rp (kn_up S c (o.take 20)) l' d' → post (vc, vk, va, vb, vcc, vd, vn, vi, vm, l', d')) :
    ∀ (m k : Nat) (e : List Int32) (l dd : Nat → Int32), k + m = (S a).length → e.length ≤ k → e ++ kn_pk mk ((S a).drop k) = o → kn_Rp (kn_xs S c e (kn_pk mk ((S a).drop k))) l dd →
    wX_writePick_14 post (nI a) (nI c) mk (nI (S a).length) (m + 1) (nI e.length) (nI k) vc vk va vb vcc vd vn vi vm l dd := by
  intro m
  induction m with
  | zero =>
    intro k e l dd hk hek ho R
    rw [List.drop_eq_nil_of_le (by omega)] at ho R
    exact br_t (nI_le (by omega) (by omega)) (h l dd (kn_fin ho (Or.inl rfl) R))
  | succ m ih =>
    intro k e l dd hk hek ho R
    have hlt : k < (S a).length := by omega
    rw [List.drop_eq_getElem_cons hlt, kn_pk] at ho R
    obtain ⟨hin, hv⟩ := kn_rd R (kn_xs_pre (kn_po hp ho)) ha hlt
    refine br_f (nI_ge (by omega) (by omega)) ⟨hin, nm_r (e' := (S a)[k]) hv ?_⟩
    by_cases z : (S a)[k] &&& mk = 0
    · rw [if_pos z] at ho R
      refine br_t z ?_
      exact kn_put rfl rfl hc (by omega) (kn_po hp ho) R (fun l' d' R' => nm_r (kn_len1 e _) (nm_r (nI_1 k) (ih (k + 1) _ l' d' (by omega) (by rw [kn_l1 rfl]; omega) ((kn_app _ _ _).symm.trans ho) R')))
    · rw [if_neg z] at ho R
      exact br_f z (nm_r (nI_1 k) (ih (k + 1) e l dd (by omega) (by omega) ho R))
theorem kn_pl_nil_l (x : List Int32) : kn_pl [] x = [] := by cases x <;> rfl
theorem kn_pl_nil_r (x : List Int32) : kn_pl x [] = [] := by cases x <;> rfl
theorem kn_Lplus {t : Nat} (ht : t = min (S a).length (S b).length) (ha : a < 10) (hb : b < 10) (hc : c < 10) (hl : (S a).length ≤ 20) (hp : S c <+: o.take 20) (h : ∀ l' d', kn_Rp (kn_up S c (o.take 20)) l' d' → post (vc, vk, va, vb, vcc, vd, vn, vi, vm, l', d')) :
    ∀ (m k : Nat) (e : List Int32) (l dd : Nat → Int32), k + m = t → e.length = k → e ++ kn_pl ((S a).drop k) ((S b).drop k) = o → kn_Rp (kn_xs S c e (kn_pl ((S a).drop k) ((S b).drop k))) l dd →
    wX_writePlus_35 post (nI a) (nI b) (nI c) (nI t) (m + 1) (nI k) vc vk va vb vcc vd vn vi vm l dd := by
  intro m
  induction m with
  | zero =>
    intro k e l dd hk hek ho R
    have z : kn_pl ((S a).drop k) ((S b).drop k) = [] := by
      by_cases y : (S a).length ≤ k
      · rw [List.drop_eq_nil_of_le y, kn_pl_nil_l]
      · rw [List.drop_eq_nil_of_le (as := S b) (by omega), kn_pl_nil_r]
    exact br_t (nI_le (by omega) (by omega)) (h l dd (kn_fin ho (Or.inl z) R))
  | succ m ih =>
    intro k e l dd hk hek ho R
    have hla : k < (S a).length := by omega
    have hlb : k < (S b).length := by omega
    rw [List.drop_eq_getElem_cons hla, List.drop_eq_getElem_cons hlb, kn_pl] at ho R
    obtain ⟨hia, hva⟩ := kn_rd R (kn_xs_pre (kn_po hp ho)) ha hla
    obtain ⟨hib, hvb⟩ := kn_rd R (kn_xs_pre (kn_po hp ho)) hb hlb
    refine br_f (nI_ge (by omega) (by omega)) ⟨hia, hib, ?_⟩
    exact kn_put (by rw [hek]) (by rw [hva, hvb]) hc (by omega) (kn_po hp ho) R (fun l' d' R' => nm_r (nI_1 k) (ih (k + 1) _ l' d' (by omega) (kn_l1 hek) ((kn_app _ _ _).symm.trans ho) R'))
theorem kn_Ljoin (ha : a < 10) (hb : b < 10) (hc : c < 10) (hl : (S a).length ≤ 20) (hlb : (S b).length ≤ 20) (hp : S c <+: o.take 20) (h : ∀ l' d', kn_Rp (kn_up S c (o.take 20)) l' d' → post (vc, vk, va, vb, vcc, vd, vn, vi, vm, l', d')) :
    ∀ (m k i j : Nat) (e : List Int32) (l dd : Nat → Int32), k + m = 20 → i + j = k → e.length = k → e ++ kn_jn m ((S a).drop i) ((S b).drop j) = o → kn_Rp (kn_xs S c e (kn_jn m ((S a).drop i) ((S b).drop j))) l dd →
    wX_writeJoin_25 post (nI a) (nI b) (nI c) (nI (S a).length) (nI (S b).length) (m + 1) (nI i) (nI j) (nI k) vc vk va vb vcc vd vn vi vm l dd := by
  intro m
  induction m with
  | zero =>
    intro k i j e l dd hk hij hek ho R
    exact br_t (nI_le (a := 20) (by omega) (by omega)) (h l dd (kn_fin ho (Or.inr (by omega)) R))
  | succ m ih =>
    intro k i j e l dd hk hij hek ho R
    refine br_f (nI_ge (b := 20) (by omega) (by decide)) ?_
    by_cases hi : (S a).length ≤ i
    · rw [List.drop_eq_nil_of_le hi, kn_jn_nil_l] at ho R
      exact br_t (nI_le hi (by omega)) (h l dd (kn_fin ho (Or.inl rfl) R))
    refine br_f (nI_ge (by omega) (by omega)) ?_
    by_cases hj : (S b).length ≤ j
    · rw [List.drop_eq_nil_of_le hj, kn_jn_nil_r] at ho R
      exact br_t (nI_le hj (by omega)) (h l dd (kn_fin ho (Or.inl rfl) R))
    refine br_f (nI_ge (by omega) (by omega)) ?_
    have hi' : i < (S a).length := by omega
    have hj' : j < (S b).length := by omega
    have da := List.drop_eq_getElem_cons hi'
    have db := List.drop_eq_getElem_cons hj'
    have ej : kn_jn (m + 1) ((S a).drop i) ((S b).drop j) = if (S b)[j] < (S a)[i] then (S b)[j] :: kn_jn m ((S a).drop i) ((S b).drop (j + 1)) else (S a)[i] :: kn_jn m ((S a).drop (i + 1)) ((S b).drop j) := by
      rw [da, db, kn_jn]
    rw [ej] at ho R
    obtain ⟨hia, hva⟩ := kn_rd R (kn_xs_pre (kn_po hp ho)) ha hi'
    obtain ⟨hib, hvb⟩ := kn_rd R (kn_xs_pre (kn_po hp ho)) hb hj'
    refine ⟨hia, nm_r hva ⟨hib, nm_r hvb ?_⟩⟩
    by_cases z : (S b)[j] < (S a)[i]
    · rw [if_pos z] at ho R
      refine br_t z ?_
      exact kn_put (by rw [hek]) rfl hc (by omega) (kn_po hp ho) R (fun l' d' R' => nm_r (nI_1 j) (nm_r (nI_1 k) (ih (k + 1) i (j + 1) _ l' d' (by omega) (by omega) (kn_l1 hek) ((kn_app _ _ _).symm.trans ho) R')))
    · rw [if_neg z] at ho R
      refine br_f z ?_
      exact kn_put (by rw [hek]) rfl hc (by omega) (kn_po hp ho) R (fun l' d' R' => nm_r (nI_1 i) (nm_r (nI_1 k) (ih (k + 1) (i + 1) j _ l' d' (by omega) (by omega) (kn_l1 hek) ((kn_app _ _ _).symm.trans ho) R')))
theorem kn_pr_le {x : List Int32} (h : x.length ≤ 1) : kn_pr x = [] := by
  match x, h with
  | [], _ => rfl
  | [_], _ => rfl
  | _ :: _ :: _, h => simp at h
theorem kn_Lpairs (ha : a < 10) (hc : c < 10) (hl : (S a).length ≤ 20) (hp : S c <+: o.take 20) (h : ∀ l' d', kn_Rp (kn_up S c (o.take 20)) l' d' → post (vc, vk, va, vb, vcc, vd, vn, vi, vm, l', d')) :
    ∀ (m k : Nat) (e : List Int32) (l dd : Nat → Int32), k + m = (S a).length / 2 → e.length = k → e ++ kn_pr ((S a).drop (2 * k)) = o → kn_Rp (kn_xs S c e (kn_pr ((S a).drop (2 * k)))) l dd →
    wX_writePairs_12 post (nI a) (nI c) (nI ((S a).length / 2)) (m + 1) (nI k) vc vk va vb vcc vd vn vi vm l dd := by
  intro m
  induction m with
  | zero =>
    intro k e l dd hk hek ho R
    have z : kn_pr ((S a).drop (2 * k)) = [] := kn_pr_le (by rw [List.length_drop]; omega)
    exact br_t (nI_le (by omega) (by omega)) (h l dd (kn_fin ho (Or.inl z) R))
  | succ m ih =>
    intro k e l dd hk hek ho R
    have h0 : 2 * k < (S a).length := by omega
    have h1 : 2 * k + 1 < (S a).length := by omega
    rw [List.drop_eq_getElem_cons h0, List.drop_eq_getElem_cons h1, kn_pr] at ho R
    obtain ⟨hi0, hv0⟩ := kn_rd R (kn_xs_pre (kn_po hp ho)) ha h0
    obtain ⟨hi1, hv1⟩ := kn_rd R (kn_xs_pre (kn_po hp ho)) ha h1
    have e0 : nI a * 20 + 2 * nI k = nI a * 20 + nI (2 * k) := by rw [show (2 : Int32) = nI 2 from rfl, pk_mul]
    have e1 : nI a * 20 + nI (2 * k) + 1 = nI a * 20 + nI (2 * k + 1) := by rw [Int32.add_assoc, nI_1]
    refine br_f (nI_ge (by omega) (by omega)) (nm_r e0 ⟨hi0, by rw [e1]; exact hi1, ?_⟩)
    exact kn_put (by rw [hek]) (by rw [e1, hv0, hv1]) hc (by omega) (kn_po hp ho) R (fun l' d' R' => nm_r (nI_1 k) (ih (k + 1) _ l' d' (by omega) (kn_l1 hek) ((kn_app _ _ _).symm.trans ho) R'))
end
