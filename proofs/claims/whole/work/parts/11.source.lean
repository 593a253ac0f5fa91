theorem kn_ld {j d : Nat} {x : Int32} (hj : j < 2 ^ 31) (h0 : 0 < d) (hd : d < 2 ^ 31) (hx : x = nI d) : nI j / x = nI (j / d) ∧ nI j - nI j / x * x = nI (j % d) := by
  subst hx
  exact ⟨pk_div hj h0 hd, pk_rem hj h0 hd⟩
theorem i_vc_source {k : Nat} {u : SX} {v : SY} (I : i_Rel k u v) (hk : k + 4 ≤ 2049) (v1 : Int32) (v2 : Int32) (v3 : Int32) : wpX_source (fun r u' => wpY_source (fun r' v' => r' = r ∧ i_Rel (k + 4) u' v') v v1 v2 v3) u v1 v2 v3 := by
  obtain ⟨vc, vk, va, vb, vcc, vd, vn, vi, vm, l, dd⟩ := u
  obtain ⟨fn, ct, yk, ya, yb, yc, yd, yp, yq, yr, yw, sz, it, mk⟩ := v
  obtain ⟨n, N, S, hn, hv, hf, U, X, Y, L, R, tr, tw⟩ := I
  subst hv hf
  have cl : (nI n).toNatClampNeg = n := nI_clamp (by omega)
  by_cases z8 : n = 8
  · subst z8
    exact br_f (by decide) (br_t (by decide) ⟨rfl, 8, N, S, hn, rfl, rfl, U, X, Y, L, R, tr, tw⟩)
  have n8 : ¬ nI n = 8 := fun e => z8 ((nI_eq (b := 8) (by omega) (by decide)).mp e)
  have i8 : vp_in (nI n) 8 := vp_in_nI (by omega) (by omega)
  refine br_t (nI_lt (b := 8) (by omega) (by decide)) ?_
  by_cases z0 : v1 < 0
  · exact br_f (Int32.not_le.mpr z0) (br_f n8 (br_t z0 ⟨rfl, n, N, S, hn, rfl, rfl, U, X, Y, L, R, tr, tw⟩))
  obtain ⟨j, hj, rfl⟩ := nI_of z0
  obtain ⟨e1, e2⟩ := kn_ld (x := 16) hj (d := 16) (by omega) (by omega) rfl
  have n16 : ¬ (16 : Int32) = 0 := by decide
  refine br_t (Int32.not_lt.mp z0) ⟨n16, nm_r e1 ⟨n16, nm_r e2 ?_⟩⟩
  have hd : j / 16 < 2 ^ 31 := by omega
  by_cases zc : 10 ≤ j / 16
  · refine br_t (nI_le (a := 10) zc hd) (br_f n8 (br_f z0 ⟨n16, br_t ?_ ⟨rfl, n, N, S, hn, rfl, rfl, U, X, Y, L, R, tr, tw⟩⟩))
    rw [e1]
    exact nI_lt (a := 9) (by omega) hd
  have g9 : ¬ (9 : Int32) < nI j / 16 := by rw [e1]; exact nI_nlt (a := 9) (by omega) (by decide)
  refine br_f (nI_ge (b := 10) (by omega) (by decide)) ?_
  by_cases zn : 12 < j % 16
  · have g : ¬ nI (j % 16) ≤ 12 := nI_ge (a := 12) zn (by omega)
    exact br_f g (br_f n8 (br_f z0 ⟨n16, br_f g9 ⟨n16, br_f (by rw [e2]; exact g) ⟨rfl, n, N, S, hn, rfl, rfl, U, X, Y, L, R, tr, tw⟩⟩⟩))
  have g12 : nI (j % 16) ≤ 12 := nI_le (b := 12) (by omega) (by decide)
  have hc : j / 16 < 10 := by omega
  have clc : (nI (j / 16)).toNatClampNeg = j / 16 := nI_clamp hd
  refine br_t g12 (kn_XisW hn rfl U X hc (fun free => ?_) (fun bad => ?_))
  · have i16 : vp_in (nI j / 16) 10 := by rw [e1]; exact vp_in_nI hc (by omega)
    have okp : kn_ok (0, 0, j % 16, j / 16, 0, v2, v3) := ⟨by omega, by show (0 : Nat) < 10; decide, by show j % 16 < 13; omega, fun e => absurd rfl e, hc, by show (0 : Nat) < 10; decide, fun e => absurd (show (0 : Nat) = 1 from e) (by decide)⟩
    have wp : ∀ c, kn_W (0, 0, j % 16, j / 16, 0, v2, v3) c → c = j / 16 := by
      rintro c (e | e)
      · exact e
      · exact absurd (show (0 : Nat) = 1 from e.1) (by decide)
    have rp : ∀ c, ¬ kn_R (0, 0, j % 16, j / 16, 0, v2, v3) c := by
      rintro c (e | e)
      · exact absurd rfl e.1
      · rcases e.1 with e | e
        · exact absurd (show (0 : Nat) = 2 from e) (by decide)
        · exact absurd (show (0 : Nat) = 5 from e) (by decide)
    have fre : ∀ c, kn_W (0, 0, j % 16, j / 16, 0, v2, v3) c → ∀ i, i < n → ¬ kn_W (N i) c := fun c w => by rw [wp c w]; exact free
    refine br_t rfl ⟨i8, nm_e ⟨i8, nm_e ⟨i8, nm_e ⟨i8, nm_e ⟨i8, nm_e ⟨i8, nm_e (nm_r (nI_1 n) ⟨i8, nm_e ⟨i8, nm_e ?_⟩⟩)⟩⟩⟩⟩⟩⟩
    rw [cl]
    have X' := kn_RX_ad (p := (0, 0, j % 16, j / 16, 0, v2, v3)) (vk' := upd vk n 0) (va' := upd va n (-1)) (vb' := upd vb n (-1)) (vcc' := upd vcc n (nI (j / 16))) (vd' := upd vd n (-1)) (vn' := upd vn n v2) (vi' := upd vi n v3) (vm' := upd vm n (nI (j % 16))) X
      (by
        rw [pk_us, pk_us, pk_us, pk_us, pk_us, pk_us, pk_us, pk_us]
        exact ⟨rfl, fun e => absurd rfl e, fun _ => rfl, fun e => absurd (show (0 : Nat) = 2 ∨ (0 : Nat) = 5 from e) (by decide), fun _ => rfl, rfl, fun e => absurd (show (0 : Nat) = 1 from e) (by decide), fun _ => rfl, rfl, fun _ => ⟨rfl, rfl⟩⟩)
      (fun i hi => ⟨kn_uo hi, kn_uo hi, kn_uo hi, kn_uo hi, kn_uo hi, kn_uo hi, kn_uo hi, kn_uo hi⟩)
    refine kn_Xrun (n := n + 1) (by omega) rfl (kn_Un_ad U okp fre) X' (kn_In_ad L fre) R (fun T l' d' L' R' => ?_)
    refine br_f n8 (br_f z0 ⟨n16, br_f g9 ⟨n16, br_t (by rw [e2]; exact g12) ⟨n16, i16, br_t ?_ ⟨n16, i16, nm_e ⟨i8, nm_e ⟨i8, nm_e ⟨n16, n16, ?_⟩⟩⟩⟩⟩⟩⟩)
    · rw [e1, clc]
      exact (tw (j / 16) hc).mpr free
    refine ⟨i8, nm_e ⟨i8, nm_e ⟨i8, nm_e ⟨i8, nm_e ⟨i8, nm_e (nm_r (nI_1 n) ⟨nI_pred n, n + 1, kn_ad N n (0, 0, j % 16, j / 16, 0, v2, v3), T, by omega, rfl, rfl, kn_Un_ad U okp fre, X', ?_, L', R', ?_, ?_⟩)⟩⟩⟩⟩⟩
    · rw [cl, e2, e1]
      refine kn_RY_ad Y ?_ (fun i hi => ⟨kn_uo hi, kn_uo hi, kn_uo hi, kn_uo hi, kn_uo hi, kn_uo hi, kn_uo hi⟩)
      rw [pk_us, pk_us, pk_us, pk_us, pk_us, pk_us, pk_us]
      exact ⟨rfl, rfl, rfl, rfl, rfl, rfl, fun _ => rfl⟩
    · exact kn_Tb_ad tr (fun c hc q => absurd q (rp c)) (fun c hc q => rfl)
    · rw [e1, clc, kn_nb1]
      refine kn_Tb_ad tw (fun c hc q => ?_) (fun c hc q => pk_un (fun e => q (Or.inl e)))
      rw [wp c q, pk_us]
      decide
  · refine br_f (by decide) (br_f n8 (br_f z0 ⟨n16, br_f g9 ⟨n16, br_t (by rw [e2]; exact g12) ⟨n16, by rw [e1]; exact vp_in_nI hc (by omega), br_f ?_ ⟨rfl, n, N, S, hn, rfl, rfl, U, X, Y, L, R, tr, tw⟩⟩⟩⟩))
    rw [e1, clc, tw (j / 16) hc]
    obtain ⟨i, hi, q⟩ := bad
    exact fun f => f i hi q
