-- nothing that the new process wants is taken
def kn_fr (N : Nat → kn_P) (n kd a b c d : Nat) : Prop :=
  (∀ i, i < n → ¬ kn_R (N i) a) ∧ (∀ i, i < n → ¬ kn_W (N i) c) ∧ ((kd = 2 ∨ kd = 5) → a ≠ b ∧ ∀ i, i < n → ¬ kn_R (N i) b) ∧ (kd = 1 → c ≠ d ∧ ∀ i, i < n → ¬ kn_W (N i) d)
section
variable {vc fn ct : Int32} {vk va vb vcc vd vn vi vm l dd yk ya yb yc yd yp yq yr yw sz it mk : Nat → Int32} {n kd a b c d : Nat} {N : Nat → kn_P} {S : Nat → List Int32}
theorem kn_X141 {post : Int32 → SX → Prop} {x1 x3 x4 x5 x6 d' : Int32} (hn : n ≤ 8) (hv : vc = nI n) (U : kn_Un N n) (X : ∀ i, i < n → kn_RX (N i) (vk i) (va i) (vb i) (vcc i) (vd i) (vn i) (vi i) (vm i))
    (hd1 : kd = 1 → d' = nI d) (hd2 : kd ≠ 1 → d' = -1) (hd : d < 10) (h0 : (kd = 1 → ∀ i, i < n → ¬ kn_W (N i) d) → wX_process_159 post x1 x3 x4 x5 x6 d' vc vk va vb vcc vd vn vi vm l dd)
    (h1 : kd = 1 → (∃ i, i < n ∧ kn_W (N i) d) → post (-3) (vc, vk, va, vb, vcc, vd, vn, vi, vm, l, dd)) : wX_process_141 post x1 x3 x4 x5 x6 d' vc vk va vb vcc vd vn vi vm l dd := by
  by_cases z : kd = 1
  · have e := hd1 z
    subst e
    refine br_f (kn_m1' (by omega)) (kn_XisW hn hv U X hd (fun f => br_t rfl (h0 (fun _ => f))) (fun f => br_f (by decide) (h1 z f)))
  · exact br_t (hd2 z) (h0 (fun e => absurd e z))
theorem kn_X89 {post : Int32 → SX → Prop} {x1 x3 b' d' : Int32} (hn : n ≤ 8) (hv : vc = nI n) (U : kn_Un N n) (X : ∀ i, i < n → kn_RX (N i) (vk i) (va i) (vb i) (vcc i) (vd i) (vn i) (vi i) (vm i))
    (hb1 : (kd = 2 ∨ kd = 5) → b' = nI b) (hb2 : ¬ (kd = 2 ∨ kd = 5) → b' = -1) (hd1 : kd = 1 → d' = nI d) (hd2 : kd ≠ 1 → d' = -1) (ha : a < 10) (hb : b < 10) (hc : c < 10) (hd : d < 10)
    (h0 : kn_fr N n kd a b c d → wX_process_159 post x1 x3 (nI a) b' (nI c) d' vc vk va vb vcc vd vn vi vm l dd) (h1 : ¬ kn_fr N n kd a b c d → post (-3) (vc, vk, va, vb, vcc, vd, vn, vi, vm, l, dd)) : wX_process_89 post x1 x3 (nI a) b' (nI c) d' vc vk va vb vcc vd vn vi vm l dd := by
  refine br_c (fun e => h1 ?_) (fun e => br_c (fun g => h1 ?_) (fun g => kn_XisR hn hv U X ha (fun ra => br_t rfl (kn_XisW hn hv U X hc (fun wc => br_t rfl ?_) (fun f => br_f (by decide) (h1 ?_)))) (fun f => br_f (by decide) (h1 ?_))))
  · intro fr
    by_cases z : kd = 2 ∨ kd = 5
    · rw [hb1 z, nI_eq (by omega) (by omega)] at e
      exact (fr.2.2.1 z).1 e
    · rw [hb2 z] at e
      exact kn_m1' (by omega) e
  · intro fr
    by_cases z : kd = 1
    · rw [hd1 z, nI_eq (by omega) (by omega)] at g
      exact (fr.2.2.2 z).1 g
    · rw [hd2 z] at g
      exact kn_m1' (by omega) g
  · have cd : kd = 1 → c ≠ d := fun z q => g (by rw [hd1 z, q])
    by_cases z : kd = 2 ∨ kd = 5
    · have ab : a ≠ b := fun q => e (by rw [hb1 z, q])
      have eb := hb1 z
      subst eb
      refine br_f (kn_m1' (by omega)) (kn_XisR hn hv U X hb (fun rb => br_t rfl ?_) (fun f => br_f (by decide) (h1 ?_)))
      · exact kn_X141 hn hv U X hd1 hd2 hd (fun wd => h0 ⟨ra, wc, fun _ => ⟨ab, rb⟩, fun q => ⟨cd q, wd q⟩⟩) (fun q ⟨i, hi, f⟩ => h1 (fun fr => (fr.2.2.2 q).2 i hi f))
      · intro fr
        obtain ⟨i, hi, q⟩ := f
        exact (fr.2.2.1 z).2 i hi q
    · exact br_t (hb2 z) (kn_X141 hn hv U X hd1 hd2 hd (fun wd => h0 ⟨ra, wc, fun q => absurd q z, fun q => ⟨cd q, wd q⟩⟩) (fun q ⟨i, hi, f⟩ => h1 (fun fr => (fr.2.2.2 q).2 i hi f)))
  · intro fr
    obtain ⟨i, hi, q⟩ := f
    exact fr.2.1 i hi q
  · intro fr
    obtain ⟨i, hi, q⟩ := f
    exact fr.1 i hi q
theorem kn_Y27 {post : Int32 → Prop} {t s : Int32} (tr : kn_Tb kn_R N n yr) (tw : kn_Tb kn_W N n yw) (ht1 : (kd = 2 ∨ kd = 5) → t = 1) (ht2 : ¬ (kd = 2 ∨ kd = 5) → t = 0) (hs1 : kd = 1 → s = 1) (hs2 : kd ≠ 1 → s = 0)
    (ha : a < 10) (hb : b < 10) (hc : c < 10) (hd : d < 10) (h0 : kn_fr N n kd a b c d → post 0) (h1 : ¬ kn_fr N n kd a b c d → post 1) : wY_isTaken_27 post (nI a) (nI b) (nI c) (nI d) t s fn ct yk ya yb yc yd yp yq yr yw sz it mk := by
  have ia : vp_in (nI a) 10 := vp_in_nI ha (by omega)
  have ib : vp_in (nI b) 10 := vp_in_nI hb (by omega)
  have ic : vp_in (nI c) 10 := vp_in_nI hc (by omega)
  have id' : vp_in (nI d) 10 := vp_in_nI hd (by omega)
  have ta : yr (nI a).toNatClampNeg = 0 ↔ ∀ i, i < n → ¬ kn_R (N i) a := by rw [nI_clamp (by omega)]; exact tr a ha
  have tb : yr (nI b).toNatClampNeg = 0 ↔ ∀ i, i < n → ¬ kn_R (N i) b := by rw [nI_clamp (by omega)]; exact tr b hb
  have tc : yw (nI c).toNatClampNeg = 0 ↔ ∀ i, i < n → ¬ kn_W (N i) c := by rw [nI_clamp (by omega)]; exact tw c hc
  have td : yw (nI d).toNatClampNeg = 0 ↔ ∀ i, i < n → ¬ kn_W (N i) d := by rw [nI_clamp (by omega)]; exact tw d hd
  have n01 : ¬ (1 : Int32) = 0 := by decide
  -- the last two steps: a = b, c = d
  have last : (∀ i, i < n → ¬ kn_R (N i) a) → ((kd = 2 ∨ kd = 5) → ∀ i, i < n → ¬ kn_R (N i) b) → (∀ i, i < n → ¬ kn_W (N i) c) → (kd = 1 → ∀ i, i < n → ¬ kn_W (N i) d) →
      wY_isTaken_79 post (nI a) (nI b) (nI c) (nI d) t s fn ct yk ya yb yc yd yp yq yr yw sz it mk := by
    intro qa qb qc qd
    have l89 : ((kd = 2 ∨ kd = 5) → a ≠ b) → wY_isTaken_89 post (nI c) (nI d) s fn ct yk ya yb yc yd yp yq yr yw sz it mk := by
      intro ab
      by_cases y : kd = 1
      · rw [hs1 y]
        exact br_f n01 (pk_eq c d (fun e => h1 (fun fr => (fr.2.2.2 y).1 e)) (fun e => h0 ⟨qa, qc, fun z => ⟨ab z, qb z⟩, fun z => ⟨e, qd z⟩⟩))
      · rw [hs2 y]
        exact br_t rfl (h0 ⟨qa, qc, fun z => ⟨ab z, qb z⟩, fun z => absurd z y⟩)
    by_cases z : kd = 2 ∨ kd = 5
    · have e := ht1 z
      refine br_f (by rw [e]; exact n01) (pk_eq a b (fun e => h1 (fun fr => (fr.2.2.1 z).1 e)) (fun e => l89 (fun _ => e)))
    · exact br_t (ht2 z) (l89 (fun q => absurd q z))
  have mid : (∀ i, i < n → ¬ kn_R (N i) a) → ((kd = 2 ∨ kd = 5) → ∀ i, i < n → ¬ kn_R (N i) b) → wY_isTaken_52 post (nI a) (nI b) (nI c) (nI d) t s fn ct yk ya yb yc yd yp yq yr yw sz it mk := by
    intro qa qb
    refine ⟨ic, br_c (fun e => ?_) (fun e => h1 (fun fr => e (tc.mpr fr.2.1)))⟩
    by_cases y : kd = 1
    · refine br_f (by rw [hs1 y]; exact n01) ⟨id', br_c (fun f => last qa qb (tc.mp e) (fun _ => td.mp f)) (fun f => h1 (fun fr => f (td.mpr (fr.2.2.2 y).2)))⟩
    · exact br_t (hs2 y) (last qa qb (tc.mp e) (fun q => absurd q y))
  refine ⟨ia, br_c (fun e => ?_) (fun e => h1 (fun fr => e (ta.mpr fr.1)))⟩
  by_cases z : kd = 2 ∨ kd = 5
  · refine br_f (by rw [ht1 z]; exact n01) ⟨ib, br_c (fun f => mid (ta.mp e) (fun _ => tb.mp f)) (fun f => h1 (fun fr => f (tb.mpr (fr.2.2.1 z).2)))⟩
  · exact br_t (ht2 z) (mid (ta.mp e) (fun q => absurd q z))
theorem kn_YisT {post : Int32 → Prop} (tr : kn_Tb kn_R N n yr) (tw : kn_Tb kn_W N n yw) (hkd : kd ≤ 7)
    (ha : a < 10) (hb : b < 10) (hc : c < 10) (hd : d < 10) (h0 : kn_fr N n kd a b c d → post 0) (h1 : ¬ kn_fr N n kd a b c d → post 1) : wpY_isTaken post (fn, ct, yk, ya, yb, yc, yd, yp, yq, yr, yw, sz, it, mk) (nI kd) (nI a) (nI b) (nI c) (nI d) := by
  have l15 : ∀ t : Int32, ((kd = 2 ∨ kd = 5) → t = 1) → (¬ (kd = 2 ∨ kd = 5) → t = 0) → wY_isTaken_15 post (nI kd) (nI a) (nI b) (nI c) (nI d) t fn ct yk ya yb yc yd yp yq yr yw sz it mk := by
    intro t t1 t2
    exact pk_eq kd 1 (fun e => kn_Y27 (kd := kd) tr tw t1 t2 (fun _ => rfl) (fun q => absurd e q) ha hb hc hd h0 h1) (fun e => kn_Y27 (kd := kd) tr tw t1 t2 (fun q => absurd q e) (fun _ => rfl) ha hb hc hd h0 h1)
  exact pk_eq kd 2 (fun e => l15 1 (fun _ => rfl) (fun q => absurd (Or.inl e) q)) (fun e => pk_eq kd 5 (fun f => l15 1 (fun _ => rfl) (fun q => absurd (Or.inr f) q)) (fun f => l15 0 (fun q => absurd q (by omega)) (fun _ => rfl)))
-- X adds the process and runs
theorem kn_X159 {post : Int32 → SX → Prop} {b' d' x3 : Int32} (hn : n < 8) (U : kn_Un N n) (X : ∀ i, i < n → kn_RX (N i) (vk i) (va i) (vb i) (vcc i) (vd i) (vn i) (vi i) (vm i)) (L : kn_Ls N n S) (R : kn_Rp S l dd)
    (hk1 : 1 ≤ kd) (hk7 : kd ≤ 7)
    (hb1 : (kd = 2 ∨ kd = 5) → b' = nI b) (hb2 : ¬ (kd = 2 ∨ kd = 5) → b' = -1) (hd1 : kd = 1 → d' = nI d) (hd2 : kd ≠ 1 → d' = -1) (ha : a < 10) (hb : b < 10) (hc : c < 10) (hd : d < 10) (fr : kn_fr N n kd a b c d)
    (h : ∀ T l' dd', kn_Un (kn_ad N n (kd, a, b, c, d, x3, 0)) (n + 1) → kn_Ls (kn_ad N n (kd, a, b, c, d, x3, 0)) (n + 1) T → kn_Rp T l' dd' →
      (∀ i, i < n + 1 → kn_RX (kn_ad N n (kd, a, b, c, d, x3, 0) i) (upd vk n (nI kd) i) (upd va n (nI a) i) (upd vb n b' i) (upd vcc n (nI c) i) (upd vd n d' i) (upd vn n x3 i) (vi i) (vm i)) →
      post (nI n) (nI (n + 1), upd vk n (nI kd), upd va n (nI a), upd vb n b', upd vcc n (nI c), upd vd n d', upd vn n x3, vi, vm, l', dd')) :
    wX_process_159 post (nI kd) x3 (nI a) b' (nI c) d' (nI n) vk va vb vcc vd vn vi vm l dd := by
  have cl : (nI n).toNatClampNeg = n := nI_clamp (by omega)
  have i8 : vp_in (nI n) 8 := vp_in_nI (by omega) (by omega)
  have okp : kn_ok (kd, a, b, c, d, x3, 0) := ⟨hk7, ha, by show b < 13; omega, fun _ => hb, hc, hd, fun e => (fr.2.2.2 e).1⟩
  have fre : ∀ x, kn_W (kd, a, b, c, d, x3, 0) x → ∀ i, i < n → ¬ kn_W (N i) x := by
    rintro x (e | e)
    · have e' : x = c := e
      rw [e']; exact fr.2.1
    · have e' : x = d := e.2
      rw [e']; exact (fr.2.2.2 e.1).2
  have X' := kn_RX_ad (p := (kd, a, b, c, d, x3, 0)) (vk' := upd vk n (nI kd)) (va' := upd va n (nI a)) (vb' := upd vb n b') (vcc' := upd vcc n (nI c)) (vd' := upd vd n d') (vn' := upd vn n x3) (vi' := vi) (vm' := vm) X
    (by
      rw [pk_us, pk_us, pk_us, pk_us, pk_us, pk_us]
      exact ⟨rfl, fun _ => rfl, fun e => absurd (show kd = 0 from e) (by omega), hb1, hb2, rfl, hd1, hd2, rfl, fun e => absurd (show kd = 0 from e) (by omega)⟩)
    (fun i hi => ⟨kn_uo hi, kn_uo hi, kn_uo hi, kn_uo hi, kn_uo hi, kn_uo hi, rfl, rfl⟩)
  refine ⟨i8, nm_e ⟨i8, nm_e ⟨i8, nm_e ⟨i8, nm_e ⟨i8, nm_e ⟨i8, nm_e (nm_r (nI_1 n) ?_)⟩⟩⟩⟩⟩⟩
  rw [cl]
  exact kn_Xrun (n := n + 1) (by omega) rfl (kn_Un_ad U okp fre) X' (kn_In_ad L fre) R (fun T l' d' L' R' => h T l' d' (kn_Un_ad U okp fre) L' R' X')
-- the reference adds the process
theorem kn_Y133 {post : Int32 → SY → Prop} {x3 : Int32} (hn : n < 8) (Y : ∀ i, i < n → kn_RY (N i) (yk i) (ya i) (yb i) (yc i) (yd i) (yp i) (yq i)) (hk1 : 1 ≤ kd)
    (h : (∀ i, i < n + 1 → kn_RY (kn_ad N n (kd, a, b, c, d, x3, 0) i) (upd yk n (nI kd) i) (upd ya n (nI a) i) (upd yb n (nI b) i) (upd yc n (nI c) i) (upd yd n (nI d) i) (upd yp n x3 i) (yq i)) →
      post (nI n) (nI (n + 1), ct, upd yk n (nI kd), upd ya n (nI a), upd yb n (nI b), upd yc n (nI c), upd yd n (nI d), upd yp n x3, yq, yr, yw, sz, it, mk)) :
    wY_process_133 post (nI kd) x3 (nI a) (nI b) (nI c) (nI d) (nI n) ct yk ya yb yc yd yp yq yr yw sz it mk := by
  have cl : (nI n).toNatClampNeg = n := nI_clamp (by omega)
  have i8 : vp_in (nI n) 8 := vp_in_nI (by omega) (by omega)
  refine ⟨i8, nm_e ⟨i8, nm_e ⟨i8, nm_e ⟨i8, nm_e ⟨i8, nm_e ⟨i8, nm_e (nm_r (nI_1 n) ?_)⟩⟩⟩⟩⟩⟩
  rw [cl, nI_pred n]
  refine h (kn_RY_ad Y ?_ (fun i hi => ⟨kn_uo hi, kn_uo hi, kn_uo hi, kn_uo hi, kn_uo hi, kn_uo hi, rfl⟩))
  rw [pk_us, pk_us, pk_us, pk_us, pk_us, pk_us]
  exact ⟨rfl, rfl, rfl, rfl, rfl, rfl, fun e => absurd (show kd = 0 from e) (by omega)⟩
end
