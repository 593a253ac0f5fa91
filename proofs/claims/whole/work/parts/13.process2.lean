section
variable {vc : Int32} {vk va vb vcc vd vn vi vm l dd : Nat → Int32} {kd : Nat}
theorem kn_Xr2 {post : Int32 → Prop} (hk : kd ≤ 7) (h1 : (kd = 2 ∨ kd = 5) → post 1) (h0 : ¬ (kd = 2 ∨ kd = 5) → post 0) : wpX_readsTwo post (vc, vk, va, vb, vcc, vd, vn, vi, vm, l, dd) (nI kd) :=
  pk_eq kd 2 (fun e => h1 (Or.inl e)) (fun e => pk_eq kd 5 (fun f => h1 (Or.inr f)) (fun f => h0 (by omega)))
theorem kn_Xw2 {post : Int32 → Prop} (hk : kd ≤ 7) (h1 : kd = 1 → post 1) (h0 : kd ≠ 1 → post 0) : wpX_writesTwo post (vc, vk, va, vb, vcc, vd, vn, vi, vm, l, dd) (nI kd) :=
  pk_eq kd 1 h1 h0
end
theorem i_vc_process {k : Nat} {u : SX} {v : SY} (I : i_Rel k u v) (hk : k + 4 ≤ 2049) (v1 : Int32) (v2 : Int32) (v3 : Int32) : wpX_process (fun r u' => wpY_process (fun r' v' => r' = r ∧ i_Rel (k + 4) u' v') v v1 v2 v3) u v1 v2 v3 := by
  obtain ⟨vc, vk, va, vb, vcc, vd, vn, vi, vm, l, dd⟩ := u
  obtain ⟨fn, ct, yk, ya, yb, yc, yd, yp, yq, yr, yw, sz, it, mk⟩ := v
  obtain ⟨n, N, S, hn, hv, hf, U, X, Y, L, R, tr, tw⟩ := I
  subst hv hf
  by_cases z8 : n = 8
  · subst z8
    exact br_f (by decide) (br_t (by decide) ⟨rfl, 8, N, S, hn, rfl, rfl, U, X, Y, L, R, tr, tw⟩)
  have n8 : ¬ nI n = 8 := fun e => z8 ((nI_eq (b := 8) (by omega) (by decide)).mp e)
  refine br_t (nI_lt (b := 8) (by omega) (by decide)) ?_
  by_cases z1 : v1 < 1
  · exact br_t z1 (br_f n8 (br_t z1 ⟨rfl, n, N, S, hn, rfl, rfl, U, X, Y, L, R, tr, tw⟩))
  by_cases z7 : 7 < v1
  · exact br_f z1 (br_t z7 (br_f n8 (br_f z1 (br_t z7 ⟨rfl, n, N, S, hn, rfl, rfl, U, X, Y, L, R, tr, tw⟩))))
  by_cases z0 : v2 < 0
  · exact br_f z1 (br_f z7 (br_t z0 (br_f n8 (br_f z1 (br_f z7 (br_t z0 ⟨rfl, n, N, S, hn, rfl, rfl, U, X, Y, L, R, tr, tw⟩))))))
  by_cases z9 : v2 ≤ 9999
  rotate_left
  · exact br_f z1 (br_f z7 (br_f z0 (br_f z9 (br_f n8 (br_f z1 (br_f z7 (br_f z0 (br_f z9 ⟨rfl, n, N, S, hn, rfl, rfl, U, X, Y, L, R, tr, tw⟩))))))))
  have kk : ∃ kd : Nat, 1 ≤ kd ∧ kd ≤ 7 ∧ v1 = nI kd := by
    have q0 : ¬ v1 < 0 := fun e => z1 (Int32.lt_trans e (by decide))
    obtain ⟨kd, h7, rfl⟩ := nI_of2 (M := 7) (n := 7) (by decide) q0 (Int32.not_lt.mp z7)
    refine ⟨kd, ?_, h7, rfl⟩
    have q1 := mt (nI_ltI (a := kd) (b := 1) (by omega) (by decide)).mpr z1
    omega
  obtain ⟨kd, k1, k7, rfl⟩ := kk
  obtain ⟨j, hj, rfl⟩ := nI_of2 (M := 9999) (n := 9999) (by decide) z0 z9
  have d10 : ¬ (10 : Int32) = 0 := by decide
  have d100 : ¬ (100 : Int32) = 0 := by decide
  have d1000 : ¬ (1000 : Int32) = 0 := by decide
  have ea : nI j / 1000 = nI (j / 1000) := (kn_ld (d := 1000) (by omega) (by omega) (by omega) rfl).1
  have eb : nI j / 100 - nI j / 100 / 10 * 10 = nI (j / 100 % 10) := by
    rw [(kn_ld (j := j) (d := 100) (x := 100) (by omega) (by omega) (by omega) rfl).1]
    exact (kn_ld (d := 10) (by omega) (by omega) (by omega) rfl).2
  have ec : nI j / 10 - nI j / 10 / 10 * 10 = nI (j / 10 % 10) := by
    rw [(kn_ld (j := j) (d := 10) (x := 10) (by omega) (by omega) (by omega) rfl).1]
    exact (kn_ld (d := 10) (by omega) (by omega) (by omega) rfl).2
  have ed : nI j - nI j / 10 * 10 = nI (j % 10) := (kn_ld (d := 10) (by omega) (by omega) (by omega) rfl).2
  have ha : j / 1000 < 10 := by omega
  have hb : j / 100 % 10 < 10 := by omega
  have hc : j / 10 % 10 < 10 := by omega
  have hd : j % 10 < 10 := by omega
  generalize j / 1000 = a at ea ha
  generalize j / 100 % 10 = b at eb hb
  generalize j / 10 % 10 = c at ec hc
  generalize j % 10 = d at ed hd
  have ia : vp_in (nI a) 10 := vp_in_nI ha (by omega)
  have ib : vp_in (nI b) 10 := vp_in_nI hb (by omega)
  have ic : vp_in (nI c) 10 := vp_in_nI hc (by omega)
  have id' : vp_in (nI d) 10 := vp_in_nI hd (by omega)
  have ca : (nI a).toNatClampNeg = a := nI_clamp (by omega)
  have cb : (nI b).toNatClampNeg = b := nI_clamp (by omega)
  have cc : (nI c).toNatClampNeg = c := nI_clamp (by omega)
  have cd : (nI d).toNatClampNeg = d := nI_clamp (by omega)
  have one : ¬ (1 : Int32) = 0 := by decide
  -- X from the checks on
  have main : ∀ b' d' : Int32, ((kd = 2 ∨ kd = 5) → b' = nI b) → (¬ (kd = 2 ∨ kd = 5) → b' = -1) → (kd = 1 → d' = nI d) → (kd ≠ 1 → d' = -1) →
      wX_process_89 (fun r u' => wpY_process (fun r' v' => r' = r ∧ i_Rel (k + 4) u' v') (nI n, ct, yk, ya, yb, yc, yd, yp, yq, yr, yw, sz, it, mk) (nI kd) (nI j) v3) (nI kd) v3 (nI a) b' (nI c) d' (nI n) vk va vb vcc vd vn vi vm l dd := by
    intro b' d' hb1 hb2 hd1 hd2
    refine kn_X89 hn rfl U X hb1 hb2 hd1 hd2 ha hb hc hd (fun fr => ?_) (fun nf => ?_)
    · refine kn_X159 (by omega) U X L R k1 k7 hb1 hb2 hd1 hd2 ha hb hc hd fr (fun T l' dd' U' L' R' X' => ?_)
      refine br_f n8 (br_f z1 (br_f z7 (br_f z0 (br_t z9 ⟨d1000, nm_r ea ⟨d100, d10, nm_r eb ⟨d10, d10, nm_r ec ⟨d10, nm_r ed ?_⟩⟩⟩⟩))))
      refine kn_YisT tr tw k7 ha hb hc hd (fun _ => br_t rfl ?_) (fun nf => absurd fr nf)
      refine ⟨ia, nm_e ⟨ic, nm_e ?_⟩⟩
      rw [ca, cc, kn_nb1]
      have l133 : ∀ yr' yw' : Nat → Int32, kn_Tb kn_R (kn_ad N n (kd, a, b, c, d, v3, 0)) (n + 1) yr' → kn_Tb kn_W (kn_ad N n (kd, a, b, c, d, v3, 0)) (n + 1) yw' →
          wY_process_133 (fun r' v' => r' = nI n ∧ i_Rel (k + 4) (nI (n + 1), upd vk n (nI kd), upd va n (nI a), upd vb n b', upd vcc n (nI c), upd vd n d', upd vn n v3, vi, vm, l', dd') v') (nI kd) v3 (nI a) (nI b) (nI c) (nI d) (nI n) ct yk ya yb yc yd yp yq yr' yw' sz it mk := by
        intro yr' yw' tr' tw'
        exact kn_Y133 (by omega) Y k1 (fun Y' => ⟨rfl, n + 1, kn_ad N n (kd, a, b, c, d, v3, 0), T, by omega, rfl, rfl, U', X', Y', L', R', tr', tw'⟩)
      have l120 : ∀ yr' : Nat → Int32, kn_Tb kn_R (kn_ad N n (kd, a, b, c, d, v3, 0)) (n + 1) yr' →
          wY_process_120 (fun r' v' => r' = nI n ∧ i_Rel (k + 4) (nI (n + 1), upd vk n (nI kd), upd va n (nI a), upd vb n b', upd vcc n (nI c), upd vd n d', upd vn n v3, vi, vm, l', dd') v') (nI kd) v3 (nI a) (nI b) (nI c) (nI d) (nI n) ct yk ya yb yc yd yp yq yr' (upd yw c 1) sz it mk := by
        intro yr' tr'
        refine pk_eq kd 1 (fun e => ⟨id', nm_e ?_⟩) (fun e => ?_)
        · rw [cd, kn_nb1]
          refine l133 _ _ tr' (kn_Tb_ad tw (fun x hx q => ?_) (fun x hx q => ?_))
          · by_cases y : x = d
            · rw [y, pk_us]; exact one
            · rcases q with q | q
              · have q' : x = c := q
                rw [pk_un y, q', pk_us]; exact one
              · exact absurd q.2 y
          · rw [pk_un (fun y => q (Or.inr ⟨e, y⟩)), pk_un (fun y => q (Or.inl y))]
        · refine l133 _ _ tr' (kn_Tb_ad tw (fun x hx q => ?_) (fun x hx q => pk_un (fun y => q (Or.inl y))))
          rcases q with q | q
          · have q' : x = c := q
            rw [q', pk_us]; exact one
          · exact absurd q.1 e
      have k0 : kd ≠ 0 := by omega
      have two : (kd = 2 ∨ kd = 5) → wY_process_112 (fun r' v' => r' = nI n ∧ i_Rel (k + 4) (nI (n + 1), upd vk n (nI kd), upd va n (nI a), upd vb n b', upd vcc n (nI c), upd vd n d', upd vn n v3, vi, vm, l', dd') v') (nI kd) v3 (nI a) (nI b) (nI c) (nI d) (nI n) ct yk ya yb yc yd yp yq (upd yr a 1) (upd yw c 1) sz it mk := by
        intro t2
        refine ⟨ib, nm_e ?_⟩
        rw [cb, kn_nb1]
        refine l120 _ (kn_Tb_ad tr (fun x hx q => ?_) (fun x hx q => ?_))
        · by_cases y : x = b
          · rw [y, pk_us]; exact one
          · rcases q with q | q
            · have q' : x = a := q.2
              rw [pk_un y, q', pk_us]; exact one
            · exact absurd q.2 y
        · rw [pk_un (fun y => q (Or.inr ⟨t2, y⟩)), pk_un (fun y => q (Or.inl ⟨k0, y⟩))]
      refine pk_eq kd 2 (fun e => two (Or.inl e)) (fun e => pk_eq kd 5 (fun f => two (Or.inr f)) (fun f => ?_))
      refine l120 _ (kn_Tb_ad tr (fun x hx q => ?_) (fun x hx q => pk_un (fun y => q (Or.inl ⟨k0, y⟩))))
      rcases q with q | q
      · have q' : x = a := q.2
        rw [q', pk_us]; exact one
      · rcases q.1 with g | g
        · exact absurd g e
        · exact absurd g f
    · refine br_f n8 (br_f z1 (br_f z7 (br_f z0 (br_t z9 ⟨d1000, nm_r ea ⟨d100, d10, nm_r eb ⟨d10, d10, nm_r ec ⟨d10, nm_r ed ?_⟩⟩⟩⟩))))
      exact kn_YisT tr tw k7 ha hb hc hd (fun fr => absurd fr nf) (fun _ => br_f one ⟨rfl, n, N, S, hn, rfl, rfl, U, X, Y, L, R, tr, tw⟩)
  have l62 : ∀ b' : Int32, ((kd = 2 ∨ kd = 5) → b' = nI b) → (¬ (kd = 2 ∨ kd = 5) → b' = -1) →
      wX_process_62 (fun r u' => wpY_process (fun r' v' => r' = r ∧ i_Rel (k + 4) u' v') (nI n, ct, yk, ya, yb, yc, yd, yp, yq, yr, yw, sz, it, mk) (nI kd) (nI j) v3) (nI kd) (nI j) v3 (nI a) b' (nI n) vk va vb vcc vd vn vi vm l dd := by
    intro b' hb1 hb2
    refine ⟨d10, d10, nm_r ec ?_⟩
    refine kn_Xw2 k7 (fun e => br_f one ⟨d10, ?_⟩) (fun e => br_t rfl (main b' (-1) hb1 hb2 (fun q => absurd q e) (fun _ => rfl)))
    rw [ed]
    exact main b' (nI d) hb1 hb2 (fun _ => rfl) (fun q => absurd e q)
  refine br_f z1 (br_f z7 (br_f z0 (br_t z9 ⟨d1000, nm_r ea ?_⟩)))
  refine kn_Xr2 k7 (fun e => br_f one ⟨d100, d10, ?_⟩) (fun e => br_t rfl (l62 (-1) (fun q => absurd q e) (fun _ => rfl)))
  rw [eb]
  exact l62 (nI b) (fun _ => rfl) (fun q => absurd e q)
