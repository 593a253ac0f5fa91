-- an array of lengths and an array of cells hold the streams S
def kn_Rp (S : Nat → List Int32) (l d : Nat → Int32) : Prop :=
  ∀ c, c < 10 → (S c).length ≤ 20 ∧ l c = nI (S c).length ∧ ∀ k (h : k < (S c).length), d (20 * c + k) = (S c)[k]
def kn_up (S : Nat → List Int32) (c : Nat) (o : List Int32) : Nat → List Int32 := fun j => if j = c then o else S j
theorem kn_up_s (S : Nat → List Int32) (c : Nat) (o : List Int32) : kn_up S c o c = o := if_pos rfl
theorem kn_up_o {S : Nat → List Int32} {c j : Nat} {o : List Int32} (h : j ≠ c) : kn_up S c o j = S j := if_neg h
-- channel c after the ints e of e ++ r have been put
def kn_xs (S : Nat → List Int32) (c : Nat) (e r : List Int32) : Nat → List Int32 :=
  kn_up S c (((e ++ r).take 20).take (max (S c).length e.length))
theorem kn_app (e : List Int32) (x : Int32) (r : List Int32) : e ++ x :: r = (e ++ [x]) ++ r := by simp
theorem kn_xs_0 {S : Nat → List Int32} {c : Nat} {r : List Int32} (h : S c <+: r.take 20) : kn_xs S c [] r = S := by
  funext j
  by_cases z : j = c
  · subst z
    unfold kn_xs
    rw [kn_up_s]
    show List.take (max (S j).length 0) (List.take 20 r) = S j
    rw [Nat.max_eq_left (Nat.zero_le _)]
    exact (List.prefix_iff_eq_take.mp h).symm
  · exact kn_up_o z
theorem kn_xs_e {S : Nat → List Int32} {c : Nat} {e r : List Int32} (h : r = [] ∨ 20 ≤ e.length) : kn_xs S c e r = kn_up S c ((e ++ r).take 20) := by
  unfold kn_xs
  rw [List.take_of_length_le]
  rw [List.length_take, List.length_append]
  rcases h with h | h
  · subst h
    simp only [List.length_nil]
    omega
  · omega
theorem kn_xs_pre {S : Nat → List Int32} {c : Nat} {e r : List Int32} (h : S c <+: (e ++ r).take 20) : kn_le S (kn_xs S c e r) := by
  intro j
  by_cases z : j = c
  · subst z
    unfold kn_xs
    rw [kn_up_s, List.prefix_take_iff]
    exact ⟨h, by omega⟩
  · unfold kn_xs
    rw [kn_up_o z]
    exact List.prefix_rfl
theorem kn_xs_o {S : Nat → List Int32} {c j : Nat} {e r : List Int32} (h : j ≠ c) : kn_xs S c e r j = S j := kn_up_o h
theorem kn_xs_s (S : Nat → List Int32) (c : Nat) (e r : List Int32) : kn_xs S c e r c = ((e ++ r).take 20).take (max (S c).length e.length) := kn_up_s _ _ _
theorem kn_pt_y {S : Nat → List Int32} {c : Nat} {e r : List Int32} {x : Int32} (h : (S c).length ≤ e.length) (h2 : e.length < 20) :
    (kn_xs S c e (x :: r) c).length = e.length ∧ kn_xs S c (e ++ [x]) r c = kn_xs S c e (x :: r) c ++ [x] := by
  have lo : (e ++ x :: r).length = e.length + (r.length + 1) := by rw [List.length_append]; rfl
  have l2 : e.length < ((e ++ x :: r).take 20).length := by rw [List.length_take, lo]; omega
  rw [kn_xs_s, kn_xs_s, ← kn_app, Nat.max_eq_right h]
  have e1 : (e ++ [x]).length = e.length + 1 := by rw [List.length_append]; rfl
  rw [e1, Nat.max_eq_right (by omega)]
  refine ⟨by rw [List.length_take]; omega, ?_⟩
  rw [List.take_succ_eq_append_getElem l2]
  congr 2
  rw [List.getElem_take]
  simp
theorem kn_pt_n {S : Nat → List Int32} {c : Nat} {e r : List Int32} {x : Int32} (hp : S c <+: (e ++ x :: r).take 20) (h : e.length < (S c).length ∨ 20 ≤ e.length) :
    kn_xs S c (e ++ [x]) r = kn_xs S c e (x :: r) ∧ ((kn_xs S c e (x :: r) c).length ≠ e.length ∨ 20 ≤ e.length) := by
  have e1 : (e ++ [x]).length = e.length + 1 := by rw [List.length_append]; rfl
  have hl := hp.length_le
  rcases h with h | h
  · refine ⟨?_, Or.inl ?_⟩
    · unfold kn_xs
      rw [← kn_app, e1, Nat.max_eq_left (by omega), Nat.max_eq_left (by omega)]
    · rw [kn_xs_s, List.length_take]
      omega
  · refine ⟨?_, Or.inr h⟩
    rw [kn_xs_e (Or.inr (by omega)), kn_xs_e (Or.inr h), ← kn_app]
theorem kn_Rp_app {S S' : Nat → List Int32} {l d : Nat → Int32} {c : Nat} {x : Int32} (R : kn_Rp S l d) (hc : c < 10) (h20 : (S c).length < 20)
    (hs : S' c = S c ++ [x]) (ho : ∀ j, j ≠ c → S' j = S j) : kn_Rp S' (upd l c (nI (S c).length + 1)) (upd d (20 * c + (S c).length) x) := by
  intro j hj
  by_cases z : j = c
  · subst z
    rw [hs]
    have e1 : (S j ++ [x]).length = (S j).length + 1 := by rw [List.length_append]; rfl
    refine ⟨by omega, by rw [pk_us, e1, nI_1], ?_⟩
    intro k hk
    by_cases y : k = (S j).length
    · subst y
      rw [pk_us]
      simp
    · have hk' : k < (S j).length := by omega
      rw [pk_un (by omega), List.getElem_append_left hk']
      exact (R j hj).2.2 k hk'
  · have e := ho j z
    obtain ⟨a, b, f⟩ := R j hj
    refine ⟨by rw [e]; exact a, by rw [pk_un z, e]; exact b, ?_⟩
    intro k hk
    have hk' : k < (S j).length := by rw [← e]; exact hk
    have ne : 20 * j + k ≠ 20 * c + (S c).length := by omega
    rw [pk_un ne, f k hk']
    congr 1
    exact e.symm
theorem kn_ix (a k : Nat) : nI a * 20 + nI k = nI (20 * a + k) := by
  rw [show (20 : Int32) = nI 20 from rfl, pk_mul, nI_add, Nat.mul_comm]
theorem kn_iy (a k : Nat) : 20 * nI a + nI k = nI (20 * a + k) := by
  rw [show (20 : Int32) = nI 20 from rfl, pk_mul, nI_add]
theorem kn_len1 (e : List Int32) (x : Int32) : nI e.length + 1 = nI (e ++ [x]).length := by
  rw [nI_1, List.length_append]; rfl

section
variable {vc : Int32} {vk va vb vcc vd vn vi vm : Nat → Int32}
theorem kn_put {post : SX → Prop} {S : Nat → List Int32} {c : Nat} {e r : List Int32} {x q x' : Int32} {l d : Nat → Int32} (hq : q = nI e.length) (hx : x' = x) (hc : c < 10) (he : e.length < 1000)
    (hp : S c <+: (e ++ x :: r).take 20) (R : kn_Rp (kn_xs S c e (x :: r)) l d)
    (h : ∀ l' d', kn_Rp (kn_xs S c (e ++ [x]) r) l' d' → post (vc, vk, va, vb, vcc, vd, vn, vi, vm, l', d')) :
    wpX_put post (vc, vk, va, vb, vcc, vd, vn, vi, vm, l, d) (nI c) q x' := by
  rw [hq, hx]
  have hin : vp_in (nI c) 10 := vp_in_nI hc (by omega)
  have cl : (nI c).toNatClampNeg = c := nI_clamp (by omega)
  have lc : l (nI c).toNatClampNeg = nI (kn_xs S c e (x :: r) c).length := by rw [cl]; exact (R c hc).2.1
  have l20 := (R c hc).1
  by_cases y : (S c).length ≤ e.length ∧ e.length < 20
  · obtain ⟨h1, h2⟩ := kn_pt_y (S := S) (c := c) (x := x) (r := r) y.1 y.2
    have eq : nI e.length = l (nI c).toNatClampNeg := by rw [lc, h1]
    have n20 : ¬ (20 : Int32) ≤ nI e.length := nI_ge (b := 20) y.2 (by decide)
    refine ⟨hin, br_t eq (br_f n20 ⟨?_, nm_e ⟨hin, nm_e (h _ _ ?_)⟩⟩)⟩
    · rw [kn_ix]; exact vp_in_nI (by omega) (by omega)
    · have R' := kn_Rp_app R hc (by omega) h2 (fun j hj => by rw [kn_xs_o hj, kn_xs_o hj])
      rw [h1] at R'
      rw [cl, kn_ix, nI_clamp (by omega)]
      exact R'
  · obtain ⟨h1, h2⟩ := kn_pt_n hp (show e.length < (S c).length ∨ 20 ≤ e.length by omega)
    have P : post (vc, vk, va, vb, vcc, vd, vn, vi, vm, l, d) := h l d (by rw [h1]; exact R)
    refine ⟨hin, ?_⟩
    by_cases eq : nI e.length = l (nI c).toNatClampNeg
    · rw [lc, nI_eq (by omega) (by omega)] at eq
      have h20 : (20 : Int32) ≤ nI e.length := nI_le (a := 20) (by omega) (by omega)
      exact br_t (by rw [lc, eq]) (br_t h20 P)
    · exact br_f eq P
end
theorem kn_rd {S T : Nat → List Int32} {l d : Nat → Int32} {a k : Nat} (R : kn_Rp T l d) (L : kn_le S T) (ha : a < 10) (hk : k < (S a).length) :
    vp_in (nI a * 20 + nI k) 200 ∧ d (nI a * 20 + nI k).toNatClampNeg = (S a)[k] := by
  obtain ⟨r1, r2, r3⟩ := R a ha
  have l1 := (L a).length_le
  have hk' : k < (T a).length := by omega
  rw [kn_ix, nI_clamp (by omega)]
  refine ⟨vp_in_nI (by omega) (by omega), ?_⟩
  rw [r3 k hk', (L a).getElem hk]
