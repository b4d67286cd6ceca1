/-! CLASS: the worker works a line out -/
theorem mI_l (d : Nat) (h : d < 8) : (lN d).toInt32 = nI d := l2i_s d (by omega)
theorem cBt_l {v : Nat} (h : v < 8192) : ((nI v).toInt64).toInt32 = nI v := by
  exact Int32.toInt32_toInt64 _
def IML (h : PH) (tx : Nat → Nat) (L : Nat) (f0 : Nat → Int32) (l0 : Nat → Int64) (u : Nat → Nat) (n a b : Nat) : Prop := ∀ i, a < i → i < b → cR tx L i = 7 → tkk tx L i = 4 → cNF tx L f0 i (cIX tx L l0 i) ≠ nI n → IMS h (imF u) n
theorem c_Worker_atomAt {P : PSem} (S : SysOK P) {h : PH} (hw : WS h) {s : Nat} (hs : SCL s) {tx : Nat → Nat} {L : Nat} {l0 : Nat → Int64} {f0 s0 m0 : Nat → Int32} (sc : SCT h s tx L l0 f0 s0 m0) (tt : TXT tx L l0 f0) {u : Nat → Nat} (hu : MDS u) (hF : CF h u) {t : Nat} (ht : t < pT (tkk tx L)) (h7 : cR tx L t = 7) (h11 : tkk tx L t ≠ 11) {nv : Nat → Nat} (hnv : ∀ w, w < cnm tx L t → hI h 80 w = nI (nv w) ∧ nv w < 2 ^ rNF tx L t w) (him : tkk tx L t = 4 → cNF tx L f0 t (cIX tx L l0 t) ≠ nI (clf tx L t) → IMS h (imF u) (clf tx L t)) {K : PK}
    (hK : K (.int (nI (avF tx L l0 u nv t))) h) : P.1 n_Worker_atomAt [.ref 79, .ref s, .ref 8, .int (nI (clf tx L t)), .int (nI t)] h K := by
  obtain ⟨hM, eo, hf⟩ := tt
  have t4 := (pT_ok (tkk tx L)).1
  have tab := rtab ht
  have kk : tkk tx L t = 3 ∨ tkk tx L t = 5 ∨ tkk tx L t = 4 := by omega
  have c8 := (cnm_le (tx := tx) (L := L) (t := t) (by omega)).1
  have n12 := (atm_ok ht (fun i hi => hf i (by omega)) h7).1
  obtain ⟨e1, e2, e3, e4⟩ := sc.2.2.1 t ht
  have hm := (hu _ n12.1 n12.2).1
  have hFn := hF _ n12.1 n12.2
  have p2 : 2 ^ (clf tx L t + 1) ≤ 2 ^ 13 := Nat.pow_le_pow_right (by decide) (by omega)
  have c2 : 2 ^ 13 = 8192 := by decide
  have ul : u (clf tx L t) < 8192 := by have := hm.2.2; omega
  have u0 : u (clf tx L t) ≠ 0 := by have := hm.2.1; have := Nat.two_pow_pos (clf tx L t); omega
  unfold cW at e4
  unfold avF at hK
  refine S.go 80 rfl rfl rfl ?_
  conv => whnf
  refine ⟨sc_t hw hs, ?_⟩
  conv => whnf
  rw [sc_r4 hw hs]
  refine ⟨inB_of (sc_t4 hw hs) (sc_n4 hw hs) (show t < 400 by omega) (by decide), ?_⟩
  conv => whnf
  rw [nI_clamp (by omega), e4]
  refine ⟨sc_t hw hs, ?_⟩
  conv => whnf
  rw [sc_r1 hw hs]
  refine ⟨inB_of (sc_t1 hw hs) (sc_n1 hw hs) (show t < 400 by omega) (by decide), ?_⟩
  conv => whnf
  rw [nI_clamp (by omega), e1]
  rcases kk with k3 | k5 | k4
  · rw [if_pos k3] at hK
    rw [k3]
    repeat refine bk_f (by decide) ?_
    refine bk_t (by decide) ?_
    conv => whnf
    refine ⟨wt_8 hw, ?_⟩
    conv => whnf
    rw [wr_8_0 hw]
    refine ⟨Or.inl (wi_in9 hw n12.1 n12.2), ?_⟩
    conv => whnf
    rw [nI_clamp (by omega), wi_fld hw n12.1 n12.2]
    refine ⟨hFn.1, ?_⟩
    refine c_Field_x S hFn n12.2 hm ?_
    rw [← xof_rem n12.2 hm]
    exact hK
  · obtain ⟨v, v1, v2⟩ := (atm_ok ht (fun i hi => hf i (by omega)) h7).2.1 k5
    rw [if_neg (by omega), if_pos k5, v2, nI_clamp (by omega)] at hK
    rw [k5, if_pos ⟨h7, rfl⟩, v2]
    repeat refine bk_f (by decide) ?_
    refine bk_t (by decide) ?_
    conv => whnf
    refine ⟨wt_8 hw, ?_⟩
    conv => whnf
    rw [wr_8_0 hw]
    refine ⟨Or.inl (wi_in9 hw n12.1 n12.2), ?_⟩
    conv => whnf
    rw [nI_clamp (by omega), wi_fld hw n12.1 n12.2]
    refine ⟨hFn.1, ?_⟩
    conv => whnf
    rw [hFn.2.2.2]
    rw [cBt_l v1]
    refine c_Poly_remainder S v1 u0 ul ?_
    conv => whnf
    exact hK
  · have n3 : ¬ tkk tx L t = 3 := by omega
    have n5 : ¬ tkk tx L t = 5 := by omega
    have nn : ¬ (cR tx L t = 7 ∧ tkk tx L t = 5) := fun y => n5 y.2
    have rc := RC_ok l0 f0 t (by omega) (fun i hi => hf i (by omega))
    have at4 := (atm_ok ht (fun i hi => hf i (by omega)) h7).2.2 k4
    have z1 := at4.1
    have ix8 : cIX tx L l0 t < 8 := by
      clear at4
      omega
    have nfT : cNF tx L f0 (pT (tkk tx L)) (cIX tx L l0 t) = nI (rNF tx L t (cIX tx L l0 t)) := by
      have := (RC_ok l0 f0 (pT (tkk tx L)) (Nat.le_refl _) hf).2.1 (cIX tx L l0 t) (by
        have := (inl_ok (tx := tx) (L := L) (pT (tkk tx L)) (Nat.le_refl _)).2 t ht
        clear at4
        omega)
      rw [this.1, rNF_pT (by clear at4; omega) z1]
    obtain ⟨-, z2, z3, z4⟩ := at4
    obtain ⟨v1, v2⟩ := hnv _ z1
    have nft : cNF tx L f0 t (cIX tx L l0 t) = nI (rNF tx L t (cIX tx L l0 t)) := (rc.2.1 _ z1).1
    have vl : nv (cIX tx L l0 t) < 8192 := by
      have p : 2 ^ rNF tx L t (cIX tx L l0 t) ≤ 2 ^ 13 := Nat.pow_le_pow_right (by decide) (Nat.le_trans z3 (by decide))
      exact Nat.lt_of_lt_of_le v2 (Nat.le_trans p (Nat.le_of_eq c2))
    have im := (IMG_root hu (img_ex hu) _ _ n12.1 n12.2 z2 z4).1
    have imd : ∀ (y : IMS h (imF u) (clf tx L t)), hI h (16 + clf tx L t) (rNF tx L t (cIX tx L l0 t)) = nI (imF u (rNF tx L t (cIX tx L l0 t)) (clf tx L t)) := fun y => y _ z2 z4
    have slf : rNF tx L t (cIX tx L l0 t) = clf tx L t → pvl (clf tx L t) (u (clf tx L t)) (imF u (rNF tx L t (cIX tx L l0 t)) (clf tx L t)) (nv (cIX tx L l0 t)) = nv (cIX tx L l0 t) := fun y => by
      rw [(img_ex hu _ _ n12.1 n12.2 z2 z4).1 y]
      exact xof_id hm (by rw [← y]; exact v2)
    clear z4
    rw [if_neg n3, if_neg n5] at hK
    rw [if_neg nn, if_pos ⟨h7, k4⟩, k4]
    repeat refine bk_f (by decide) ?_
    conv => whnf
    rw [mI_l _ ix8]
    refine bk_f (fun c => absurd ((zn_lt (b := 0) (by omega) (by omega)).mp c) (by omega)) ?_
    conv => whnf
    refine bk_t ((zn_lt (b := 8) (by omega) (by omega)).mpr (by omega)) ?_
    conv => whnf
    refine ⟨sc_t hw hs, ?_⟩
    conv => whnf
    rw [sc_r8 hw hs]
    refine ⟨inB_of (sc_t7 hw hs) (sc_n7 hw hs) ix8 (by decide), ?_⟩
    conv => whnf
    rw [nI_clamp (by omega), (sc.2.2.2 _).1, nfT]
    refine bk_ne (by omega) (by omega) (fun y => ?_) (fun y => ?_)
    · conv => whnf
      refine ⟨wt_79 hw, ?_⟩
      conv => whnf
      rw [wr_79_0 hw]
      refine ⟨inB_of (wt_80 hw) (wn_80 hw) ix8 (by decide), ?_⟩
      conv => whnf
      rw [nI_clamp (by omega), v1]
      refine ⟨wt_8 hw, ?_⟩
      refine c_Tower_raised S hw n12.1 n12.2 z3 hFn hm (imd (him k4 (by rw [nft]; exact fun q => y ((zn_eq (by omega) (by omega)).mp q)))) im vl ?_
      exact hK
    · rw [slf y] at hK
      conv => whnf
      refine ⟨wt_79 hw, ?_⟩
      conv => whnf
      rw [wr_79_0 hw]
      refine ⟨inB_of (wt_80 hw) (wn_80 hw) ix8 (by decide), ?_⟩
      conv => whnf
      rw [nI_clamp (by omega), v1]
      exact hK
