section
variable {vc : Int32} {vk va vb vcc vd vn vi vm : Nat → Int32} {post : SX → Prop} {S : Nat → List Int32} {a b c d : Nat} {o : List Int32} {l dd : Nat → Int32}
theorem kn_xs_comm {e r e' r' : List Int32} (h : c ≠ d) : kn_xs (kn_xs S c e r) d e' r' = kn_xs (kn_xs S d e' r') c e r := by
  funext j
  by_cases z : j = d
  · subst z
    have y : j ≠ c := fun e => h e.symm
    rw [kn_xs_s (kn_xs S c e r), kn_xs_o (S := S) y, kn_xs_o (S := kn_xs S j e' r') y, kn_xs_s]
  · by_cases y : j = c
    · subst y
      rw [kn_xs_o (S := kn_xs S j e r) z, kn_xs_s, kn_xs_s (kn_xs S d e' r'), kn_xs_o (S := S) z]
    · rw [kn_xs_o (S := kn_xs S c e r) z, kn_xs_o (S := S) y, kn_xs_o (S := kn_xs S d e' r') y, kn_xs_o (S := S) z]
theorem kn_Lcopy (ha : a < 10) (hc : c < 10) (hd : d < 10) (hcd : c ≠ d) (hl : (S a).length ≤ 20) (hp : S c <+: o.take 20) (hq : S d <+: o.take 20) (h : ∀ l' d', kn_Rp (kn_up (kn_up S c (o.take 20)) d (o.take 20)) l' d' → post (vc, vk, va, vb, vcc, vd, vn, vi, vm, l', d')) :
    ∀ (m k : Nat) (e : List Int32) (l dd : Nat → Int32), k + m = (S a).length → e.length = k → e ++ (S a).drop k = o → kn_Rp (kn_xs (kn_xs S c e ((S a).drop k)) d e ((S a).drop k)) l dd →
    wX_writeCopy_11 post (nI a) (nI c) (nI d) (nI (S a).length) (m + 1) (nI k) vc vk va vb vcc vd vn vi vm l dd := by
  have hdc : d ≠ c := fun e => hcd e.symm
  intro m
  induction m with
  | zero =>
    intro k e l dd hk hek ho R
    rw [List.drop_eq_nil_of_le (by omega)] at ho R
    rw [kn_xs_e (Or.inl rfl), kn_xs_e (Or.inl rfl), ho] at R
    exact br_t (nI_le (by omega) (by omega)) (h l dd R)
  | succ m ih =>
    intro k e l dd hk hek ho R
    have hlt : k < (S a).length := by omega
    rw [List.drop_eq_getElem_cons hlt] at ho R
    have L1 : kn_le S (kn_xs S c e ((S a)[k] :: (S a).drop (k + 1))) := kn_xs_pre (kn_po hp ho)
    have p2 : kn_xs S c e ((S a)[k] :: (S a).drop (k + 1)) d <+: (e ++ (S a)[k] :: (S a).drop (k + 1)).take 20 := by
      rw [kn_xs_o hdc]; exact kn_po hq ho
    obtain ⟨hin, hv⟩ := kn_rd R (kn_le_trans L1 (kn_xs_pre p2)) ha hlt
    refine br_f (nI_ge (by omega) (by omega)) ⟨hin, nm_r hv ?_⟩
    rw [kn_xs_comm hcd] at R
    refine kn_put (by rw [hek]) rfl hc (by omega) ?_ R (fun l' d' R' => ?_)
    · rw [kn_xs_o hcd]; exact kn_po hp ho
    rw [kn_xs_comm hdc] at R'
    refine kn_put (S := kn_xs S c (e ++ [(S a)[k]]) ((S a).drop (k + 1))) (by rw [hek]) rfl hd (by omega) ?_ R' (fun l' d' R2 => nm_r (nI_1 k) (ih (k + 1) _ l' d' (by omega) (kn_l1 hek) ((kn_app _ _ _).symm.trans ho) R2))
    rw [kn_xs_o hdc]; exact kn_po hq ho
theorem kn_st0 {r : List Int32} (hp : S c <+: r.take 20) (R : kn_Rp S l dd) : kn_Rp (kn_xs S c [] r) l dd := by rw [kn_xs_0 hp]; exact R
theorem kn_lA (R : kn_Rp S l dd) (ha : a < 10) : l (nI a).toNatClampNeg = nI (S a).length := by
  rw [nI_clamp (by omega)]; exact (R a ha).2.1
theorem kn_wSource {p q : Int32} {nb : Nat} (R : kn_Rp S l dd) (hn : nb < 100) (hc : c < 10) (hp : S c <+: (kn_sr p q nb 0).take 20) (h : ∀ l' d', kn_Rp (kn_up S c ((kn_sr p q nb 0).take 20)) l' d' → post (vc, vk, va, vb, vcc, vd, vn, vi, vm, l', d')) : wpX_writeSource post (vc, vk, va, vb, vcc, vd, vn, vi, vm, l, dd) (nI c) p q (nI nb) :=
  ⟨nb + 1, kn_Lsource hn hc hp h nb 0 [] l dd (by omega) rfl rfl (kn_st0 hp R)⟩
theorem kn_wSums (R : kn_Rp S l dd) (ha : a < 10) (hc : c < 10) (hp : S c <+: (kn_sm 0 (S a)).take 20) (h : ∀ l' d', kn_Rp (kn_up S c ((kn_sm 0 (S a)).take 20)) l' d' → post (vc, vk, va, vb, vcc, vd, vn, vi, vm, l', d')) : wpX_writeSums post (vc, vk, va, vb, vcc, vd, vn, vi, vm, l, dd) (nI a) (nI c) :=
  ⟨vp_in_nI ha (by omega), nm_r (kn_lA R ha) ⟨(S a).length + 1, kn_Lsums ha hc (R a ha).1 hp h (S a).length 0 [] 0 l dd (by omega) rfl rfl (kn_st0 hp R)⟩⟩
theorem kn_wPick {mk : Int32} (R : kn_Rp S l dd) (ha : a < 10) (hc : c < 10) (hp : S c <+: (kn_pk mk (S a)).take 20) (h : ∀ l' d', kn_Rp (kn_up S c ((kn_pk mk (S a)).take 20)) l' d' → post (vc, vk, va, vb, vcc, vd, vn, vi, vm, l', d')) : wpX_writePick post (vc, vk, va, vb, vcc, vd, vn, vi, vm, l, dd) (nI a) (nI c) mk :=
  ⟨vp_in_nI ha (by omega), nm_r (kn_lA R ha) ⟨(S a).length + 1, kn_Lpick ha hc (R a ha).1 hp h (S a).length 0 [] l dd (by omega) (Nat.le_refl _) rfl (kn_st0 hp R)⟩⟩
theorem kn_wFirst {p : Int32} (R : kn_Rp S l dd) (ha : a < 10) (hc : c < 10) (hp : S c <+: (p :: S a).take 20) (h : ∀ l' d', kn_Rp (kn_up S c ((p :: S a).take 20)) l' d' → post (vc, vk, va, vb, vcc, vd, vn, vi, vm, l', d')) : wpX_writeFirst post (vc, vk, va, vb, vcc, vd, vn, vi, vm, l, dd) (nI a) (nI c) p :=
  ⟨vp_in_nI ha (by omega), nm_r (kn_lA R ha) (kn_put (e := []) rfl rfl hc (by decide) hp (kn_st0 hp R) (fun l' d' R' =>
    ⟨(S a).length + 1, kn_Lfirst ha hc (R a ha).1 hp h (S a).length 0 [p] l' d' (by omega) rfl rfl R'⟩))⟩
theorem kn_wJoin (R : kn_Rp S l dd) (ha : a < 10) (hb : b < 10) (hc : c < 10) (hp : S c <+: (kn_jn 20 (S a) (S b)).take 20) (h : ∀ l' d', kn_Rp (kn_up S c ((kn_jn 20 (S a) (S b)).take 20)) l' d' → post (vc, vk, va, vb, vcc, vd, vn, vi, vm, l', d')) : wpX_writeJoin post (vc, vk, va, vb, vcc, vd, vn, vi, vm, l, dd) (nI a) (nI b) (nI c) :=
  ⟨vp_in_nI ha (by omega), nm_r (kn_lA R ha) ⟨vp_in_nI hb (by omega), nm_r (kn_lA R hb) ⟨21, kn_Ljoin ha hb hc (R a ha).1 (R b hb).1 hp h 20 0 0 0 [] l dd (by omega) rfl rfl rfl (kn_st0 hp R)⟩⟩⟩
theorem kn_wPlus (R : kn_Rp S l dd) (ha : a < 10) (hb : b < 10) (hc : c < 10) (hp : S c <+: (kn_pl (S a) (S b)).take 20) (h : ∀ l' d', kn_Rp (kn_up S c ((kn_pl (S a) (S b)).take 20)) l' d' → post (vc, vk, va, vb, vcc, vd, vn, vi, vm, l', d')) : wpX_writePlus post (vc, vk, va, vb, vcc, vd, vn, vi, vm, l, dd) (nI a) (nI b) (nI c) := by
  have la := (R a ha).1
  have lb := (R b hb).1
  refine ⟨vp_in_nI ha (by omega), vp_in_nI hb (by omega), pk_le (S b).length (S a).length (fun z => ?_) (fun z => ?_) (kn_lA R hb) (kn_lA R ha)⟩
  · exact ⟨vp_in_nI hb (by omega), nm_r (kn_lA R hb) ⟨(S b).length + 1, kn_Lplus (by omega) ha hb hc la hp h (S b).length 0 [] l dd (by omega) rfl rfl (kn_st0 hp R)⟩⟩
  · exact ⟨vp_in_nI ha (by omega), nm_r (kn_lA R ha) ⟨(S a).length + 1, kn_Lplus (by omega) ha hb hc la hp h (S a).length 0 [] l dd (by omega) rfl rfl (kn_st0 hp R)⟩⟩
theorem kn_wPairs (R : kn_Rp S l dd) (ha : a < 10) (hc : c < 10) (hp : S c <+: (kn_pr (S a)).take 20) (h : ∀ l' d', kn_Rp (kn_up S c ((kn_pr (S a)).take 20)) l' d' → post (vc, vk, va, vb, vcc, vd, vn, vi, vm, l', d')) : wpX_writePairs post (vc, vk, va, vb, vcc, vd, vn, vi, vm, l, dd) (nI a) (nI c) := by
  have la := (R a ha).1
  refine ⟨vp_in_nI ha (by omega), by decide, nm_r (e' := nI ((S a).length / 2)) ?_ ⟨(S a).length / 2 + 1, kn_Lpairs ha hc la hp h ((S a).length / 2) 0 [] l dd (by omega) rfl rfl (kn_st0 hp R)⟩⟩
  rw [kn_lA R ha, show (2 : Int32) = nI 2 from rfl, pk_div (by omega) (by omega) (by omega)]
theorem kn_wCopy (R : kn_Rp S l dd) (ha : a < 10) (hc : c < 10) (hd : d < 10) (hcd : c ≠ d) (hp : S c <+: (S a).take 20) (hq : S d <+: (S a).take 20)
    (h : ∀ l' d', kn_Rp (kn_up (kn_up S c ((S a).take 20)) d ((S a).take 20)) l' d' → post (vc, vk, va, vb, vcc, vd, vn, vi, vm, l', d')) : wpX_writeCopy post (vc, vk, va, vb, vcc, vd, vn, vi, vm, l, dd) (nI a) (nI c) (nI d) := by
  refine ⟨vp_in_nI ha (by omega), nm_r (kn_lA R ha) ⟨(S a).length + 1, kn_Lcopy ha hc hd hcd (R a ha).1 hp hq h (S a).length 0 [] l dd (by omega) rfl rfl ?_⟩⟩
  show kn_Rp (kn_xs (kn_xs S c [] (S a)) d [] (S a)) l dd
  rw [kn_xs_0 hp]
  exact kn_st0 hq R
end
theorem kn_St1 {N : Nat → kn_P} {i kd A B C D : Nat} {P Q : Int32} {S : Nat → List Int32} {o : List Int32} (hN : N i = (kd, A, B, C, D, P, Q)) (hk : kd ≠ 1) (hF : kn_F N i S = o) : kn_St N i S (kn_up S C o) := by
  refine ⟨?_, ?_⟩
  · intro c w
    rw [hN] at w
    rcases w with w | w
    · have e : c = C := w
      rw [e, kn_up_s, hF]
    · exact absurd w.1 hk
  · intro c w
    rw [hN] at w
    exact kn_up_o (fun e => w (Or.inl e))
theorem kn_St2 {N : Nat → kn_P} {i A B C D : Nat} {P Q : Int32} {S : Nat → List Int32} {o : List Int32} (hN : N i = (1, A, B, C, D, P, Q)) (hF : kn_F N i S = o) : kn_St N i S (kn_up (kn_up S C o) D o) := by
  refine ⟨?_, ?_⟩
  · intro c w
    rw [hN] at w
    rw [hF]
    by_cases z : c = D
    · rw [z, kn_up_s]
    · rcases w with w | w
      · have e : c = C := w
        rw [kn_up_o z, e, kn_up_s]
      · exact absurd w.2 z
  · intro c w
    rw [hN] at w
    rw [kn_up_o (fun e => w (Or.inr ⟨rfl, e⟩)), kn_up_o (fun e => w (Or.inl e))]
-- process p as X holds it
def kn_RX (p : kn_P) (k a b c d n i m : Int32) : Prop :=
  k = nI p.1 ∧ (p.1 ≠ 0 → a = nI p.2.1) ∧ (p.1 = 0 → a = -1) ∧ ((p.1 = 2 ∨ p.1 = 5) → b = nI p.2.2.1) ∧ (¬ (p.1 = 2 ∨ p.1 = 5) → b = -1) ∧
  c = nI p.2.2.2.1 ∧ (p.1 = 1 → d = nI p.2.2.2.2.1) ∧ (p.1 ≠ 1 → d = -1) ∧ n = p.2.2.2.2.2.1 ∧ (p.1 = 0 → i = p.2.2.2.2.2.2 ∧ m = nI p.2.2.1)
section
variable {vc : Int32} {vk va vb vcc vd vn vi vm : Nat → Int32} {post : SX → Prop} {S : Nat → List Int32} {l dd : Nat → Int32}
theorem kn_step {N : Nat → kn_P} {i : Nat} (hi : i < 8) (ok : kn_ok (N i)) (X : kn_RX (N i) (vk i) (va i) (vb i) (vcc i) (vd i) (vn i) (vi i) (vm i)) (R : kn_Rp S l dd)
    (hw : ∀ c, kn_W (N i) c → S c <+: kn_F N i S) (h : ∀ S' l' d', kn_St N i S S' → kn_Rp S' l' d' → post (vc, vk, va, vb, vcc, vd, vn, vi, vm, l', d')) : wpX_step post (vc, vk, va, vb, vcc, vd, vn, vi, vm, l, dd) (nI i) := by
  have hcl : (nI i).toNatClampNeg = i := nI_clamp (by omega)
  have hin : vp_in (nI i) 8 := vp_in_nI hi (by omega)
  have X' : kn_RX (N i) (vk (nI i).toNatClampNeg) (va (nI i).toNatClampNeg) (vb (nI i).toNatClampNeg) (vcc (nI i).toNatClampNeg) (vd (nI i).toNatClampNeg) (vn (nI i).toNatClampNeg) (vi (nI i).toNatClampNeg) (vm (nI i).toNatClampNeg) := by
    rw [hcl]; exact X
  clear X
  generalize hN : N i = p at ok X' hw
  obtain ⟨kd, A, B, C, D, P, Q⟩ := p
  obtain ⟨o1, o2, o3, o4, o5, o6, o7⟩ := ok
  obtain ⟨x1, x2, x3, x4, x5, x6, x7, x8, x9, x10⟩ := X'
  dsimp only at o1 o2 o3 o4 o5 o6 o7 x1 x2 x3 x4 x5 x6 x7 x8 x9 x10
  have wC : S C <+: kn_F N i S := hw C (Or.inl rfl)
  refine ⟨hin, nm_r x1 (br_f (nI_pos (by omega)) (br_f (nI_nlt (a := 7) o1 (by decide)) ?_))⟩
  have cs : kd = 0 ∨ kd = 1 ∨ kd = 2 ∨ kd = 3 ∨ kd = 4 ∨ kd = 5 ∨ kd = 6 ∨ kd = 7 := by omega
  rcases cs with rfl | rfl | rfl | rfl | rfl | rfl | rfl | rfl
  · have eF : kn_F N i S = (kn_sr P Q B 0).take 20 := by unfold kn_F; rw [hN]; rfl
    have z0 := wC
    rw [eF] at z0
    refine br_t (by decide) ⟨hin, hin, hin, hin, ?_⟩
    rw [x6, x9, (x10 rfl).1, (x10 rfl).2]
    exact kn_wSource R (by omega) o5 z0 (fun l' d' R' => h _ l' d' (kn_St1 hN (by decide) eF) R')
  · have eF : kn_F N i S = (S A).take 20 := by unfold kn_F; rw [hN]; rfl
    have z0 := wC
    rw [eF] at z0
    refine br_f (by decide) (br_t (by decide) ⟨hin, hin, hin, ?_⟩)
    rw [x2 (by decide), x6, x7 rfl]
    have z1 : S D <+: (S A).take 20 := by rw [← eF]; exact hw D (Or.inr ⟨rfl, rfl⟩)
    exact kn_wCopy R o2 o5 o6 (o7 rfl) z0 z1 (fun l' d' R' => h _ l' d' (kn_St2 hN eF) R')
  · have eF : kn_F N i S = (kn_pl (S A) (S B)).take 20 := by unfold kn_F; rw [hN]; rfl
    have z0 := wC
    rw [eF] at z0
    refine br_f (by decide) (br_f (by decide) (br_t (by decide) ⟨hin, hin, hin, ?_⟩))
    rw [x2 (by decide), x4 (Or.inl rfl), x6]
    exact kn_wPlus R o2 (o4 (by decide)) o5 z0 (fun l' d' R' => h _ l' d' (kn_St1 hN (by decide) eF) R')
  · have eF : kn_F N i S = (P :: S A).take 20 := by unfold kn_F; rw [hN]; rfl
    have z0 := wC
    rw [eF] at z0
    refine br_f (by decide) (br_f (by decide) (br_f (by decide) (br_t (by decide) ⟨hin, hin, hin, ?_⟩)))
    rw [x2 (by decide), x6, x9]
    exact kn_wFirst R o2 o5 z0 (fun l' d' R' => h _ l' d' (kn_St1 hN (by decide) eF) R')
  · have eF : kn_F N i S = (kn_pk P (S A)).take 20 := by unfold kn_F; rw [hN]; rfl
    have z0 := wC
    rw [eF] at z0
    refine br_f (by decide) (br_f (by decide) (br_f (by decide) (br_f (by decide) (br_t (by decide) ⟨hin, hin, hin, ?_⟩))))
    rw [x2 (by decide), x6, x9]
    exact kn_wPick R o2 o5 z0 (fun l' d' R' => h _ l' d' (kn_St1 hN (by decide) eF) R')
  · have eF : kn_F N i S = (kn_jn 20 (S A) (S B)).take 20 := by unfold kn_F; rw [hN]; rfl
    have z0 := wC
    rw [eF] at z0
    refine br_f (by decide) (br_f (by decide) (br_f (by decide) (br_f (by decide) (br_f (by decide) (br_t (by decide) ⟨hin, hin, hin, ?_⟩)))))
    rw [x2 (by decide), x4 (Or.inr rfl), x6]
    exact kn_wJoin R o2 (o4 (by decide)) o5 z0 (fun l' d' R' => h _ l' d' (kn_St1 hN (by decide) eF) R')
  · have eF : kn_F N i S = (kn_sm 0 (S A)).take 20 := by unfold kn_F; rw [hN]; rfl
    have z0 := wC
    rw [eF] at z0
    refine br_f (by decide) (br_f (by decide) (br_f (by decide) (br_f (by decide) (br_f (by decide) (br_f (by decide) (br_t (by decide) ⟨hin, hin, ?_⟩))))))
    rw [x2 (by decide), x6]
    exact kn_wSums R o2 o5 z0 (fun l' d' R' => h _ l' d' (kn_St1 hN (by decide) eF) R')
  · have eF : kn_F N i S = (kn_pr (S A)).take 20 := by unfold kn_F; rw [hN]; rfl
    have z0 := wC
    rw [eF] at z0
    refine br_f (by decide) (br_f (by decide) (br_f (by decide) (br_f (by decide) (br_f (by decide) (br_f (by decide) (br_f (by decide) (br_t (by decide) ⟨hin, hin, ?_⟩)))))))
    rw [x2 (by decide), x6]
    exact kn_wPairs R o2 o5 z0 (fun l' d' R' => h _ l' d' (kn_St1 hN (by decide) eF) R')
end
