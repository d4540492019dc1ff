/-! the plain lines -/
theorem iy30 {t i : Nat} : 3 * nI t + nI i = nI (3 * t + i) := by
  rw [show (3 : Int32) = nI 3 from rfl, pk_mul, nI_add]
theorem yq_0 {Q : Int32 → SY → Prop} {v : SY} {g j at' : Nat} {a b c : Int32} (hg : g < 12) (j4 : j < 4) (hd : ya_depth v g = nI (j + 1)) (h60 : at' < 60) (hk : ya_kind v at' = 0) (h : Q 1 v) : wpY_plain Q v (nI g) (nI at') a b c := by
  have ca : (nI at').toNatClampNeg = at' := nI_clamp (by omega)
  have va : vp_in (nI at') 60 := vp_in_nI h60 (by decide)
  have ct : (nI (4 * g + j)).toNatClampNeg = 4 * g + j := nI_clamp (by omega)
  have vt : vp_in (nI (4 * g + j)) 48 := vp_in_nI (by omega) (by decide)
  rw [uy_plain]
  refine yg_topOf (d := j + 1) hg (by omega) hd ?_
  rw [show 4 * g + (j + 1) - 1 = 4 * g + j from rfl, ca, ct]
  refine ⟨va, nm_r hk ?_⟩
  exact br_t (by decide) h
theorem yq_16 {Q : Int32 → SY → Prop} {v : SY} {g j at' : Nat} {a b c : Int32} (hg : g < 12) (j4 : j < 4) (hd : ya_depth v g = nI (j + 1)) (h60 : at' < 60) (hk : ya_kind v at' = 16) {q f : Nat} (hq : ya_noted v (4 * g + j) = nI q) (q3 : q ≤ 3) (hf : ya_opA v at' = nI f) (f30 : f < 30) (h3 : q = 3 → wpY_panic (fun u63 => Q 0 u63) v (nI g) (-5)) (h : q < 3 → Q 1 (ys_noteC (ys_noteB (ys_noteOf (ys_noted v (upd (ya_noted v) (4 * g + j) (nI (q + 1)))) (upd (ya_noteOf v) (3 * (4 * g + j) + q) (nI f))) (upd (ya_noteB v) (3 * (4 * g + j) + q) b)) (upd (ya_noteC v) (3 * (4 * g + j) + q) c))) : wpY_plain Q v (nI g) (nI at') a b c := by
  have ca : (nI at').toNatClampNeg = at' := nI_clamp (by omega)
  have va : vp_in (nI at') 60 := vp_in_nI h60 (by decide)
  have ct : (nI (4 * g + j)).toNatClampNeg = 4 * g + j := nI_clamp (by omega)
  have vt : vp_in (nI (4 * g + j)) 48 := vp_in_nI (by omega) (by decide)
  rw [uy_plain]
  refine yg_topOf (d := j + 1) hg (by omega) hd ?_
  rw [show 4 * g + (j + 1) - 1 = 4 * g + j from rfl, ca, ct]
  refine ⟨va, nm_r hk ?_⟩
  rw [hq, hf, nb_64 f (by omega), nI_1, nb_64 (q + 1) (by omega), iy30, nI_clamp (show 3 * (4 * g + j) + q < 2 ^ 31 by omega)]
  refine br_f (by decide) (br_f (by decide) (br_t rfl ⟨vt, br_c (fun z => h3 ((nI_eq (b := 3) (by omega) (by decide)).mp z)) (fun z => ?_)⟩))
  have lt : q < 3 := by
    rcases Nat.lt_or_ge q 3 with w | w
    · exact w
    · exact absurd (show nI q = 3 by rw [show q = 3 by omega]; rfl) z
  have vq : vp_in (nI (3 * (4 * g + j) + q)) 144 := vp_in_nI (by omega) (by decide)
  exact ⟨vt, va, vq, nm_e ⟨vt, vq, nm_e ⟨vt, vt, nm_e ⟨vq, nm_e (h lt)⟩⟩⟩⟩
theorem yq_20 {Q : Int32 → SY → Prop} {v : SY} {g j at' : Nat} {a b c : Int32} (hg : g < 12) (j4 : j < 4) (hd : ya_depth v g = nI (j + 1)) (h60 : at' < 60) (hk : ya_kind v at' = 20) (h : Q 1 (ys_out (ys_printed v (ya_printed v + 1)) (upd (ya_out v) (ya_printed v &&& 31).toNatClampNeg a))) : wpY_plain Q v (nI g) (nI at') a b c := by
  have ca : (nI at').toNatClampNeg = at' := nI_clamp (by omega)
  have va : vp_in (nI at') 60 := vp_in_nI h60 (by decide)
  have ct : (nI (4 * g + j)).toNatClampNeg = 4 * g + j := nI_clamp (by omega)
  have vt : vp_in (nI (4 * g + j)) 48 := vp_in_nI (by omega) (by decide)
  rw [uy_plain]
  refine yg_topOf (d := j + 1) hg (by omega) hd ?_
  rw [show 4 * g + (j + 1) - 1 = 4 * g + j from rfl, ca, ct]
  refine ⟨va, nm_r hk ?_⟩
  exact br_f (by decide) (br_f (by decide) (br_f (by decide) (br_f (by decide) (br_f (by decide) (br_f (by decide) (br_t rfl (nm_e ⟨pk_andIn (m := 31) _ 5 rfl (by decide), nm_e h⟩)))))))
theorem yq_21 {Q : Int32 → SY → Prop} {v : SY} {g j at' : Nat} {a b c : Int32} (hg : g < 12) (j4 : j < 4) (hd : ya_depth v g = nI (j + 1)) (h60 : at' < 60) (hk : ya_kind v at' = 21) {p : Nat} (ea : ya_opA v at' = nI p) (p6 : p < 6) (h : Q 1 (ys_vars v (upd (ya_vars v) (6 * (4 * g + j) + p) b))) : wpY_plain Q v (nI g) (nI at') a b c := by
  have ca : (nI at').toNatClampNeg = at' := nI_clamp (by omega)
  have va : vp_in (nI at') 60 := vp_in_nI h60 (by decide)
  have ct : (nI (4 * g + j)).toNatClampNeg = 4 * g + j := nI_clamp (by omega)
  have vt : vp_in (nI (4 * g + j)) 48 := vp_in_nI (by omega) (by decide)
  rw [uy_plain]
  refine yg_topOf (d := j + 1) hg (by omega) hd ?_
  rw [show 4 * g + (j + 1) - 1 = 4 * g + j from rfl, ca, ct]
  refine ⟨va, nm_r hk ?_⟩
  rw [ea]
  exact br_f (by decide) (br_f (by decide) (br_f (by decide) (br_f (by decide) (br_f (by decide) (br_f (by decide) (br_f (by decide) (br_t rfl ⟨va, ys_set hg j4 hd p6 h⟩)))))))
theorem yq_22 {Q : Int32 → SY → Prop} {v : SY} {g j at' : Nat} {a b c : Int32} (hg : g < 12) (j4 : j < 4) (hd : ya_depth v g = nI (j + 1)) (h60 : at' < 60) (hk : ya_kind v at' = 22) {p : Nat} (ea : ya_opA v at' = nI p) (p6 : p < 6) (h : Q 1 (ys_vars v (upd (ya_vars v) (6 * (4 * g + j) + p) (b + c)))) : wpY_plain Q v (nI g) (nI at') a b c := by
  have ca : (nI at').toNatClampNeg = at' := nI_clamp (by omega)
  have va : vp_in (nI at') 60 := vp_in_nI h60 (by decide)
  have ct : (nI (4 * g + j)).toNatClampNeg = 4 * g + j := nI_clamp (by omega)
  have vt : vp_in (nI (4 * g + j)) 48 := vp_in_nI (by omega) (by decide)
  rw [uy_plain]
  refine yg_topOf (d := j + 1) hg (by omega) hd ?_
  rw [show 4 * g + (j + 1) - 1 = 4 * g + j from rfl, ca, ct]
  refine ⟨va, nm_r hk ?_⟩
  rw [ea]
  exact br_f (by decide) (br_f (by decide) (br_f (by decide) (br_f (by decide) (br_f (by decide) (br_f (by decide) (br_f (by decide) (br_f (by decide) (br_t rfl ⟨va, ys_set hg j4 hd p6 h⟩))))))))
theorem yq_23 {Q : Int32 → SY → Prop} {v : SY} {g j at' : Nat} {a b c : Int32} (hg : g < 12) (j4 : j < 4) (hd : ya_depth v g = nI (j + 1)) (h60 : at' < 60) (hk : ya_kind v at' = 23) {p : Nat} (ea : ya_opA v at' = nI p) (p6 : p < 6) (h : Q 1 (ys_vars v (upd (ya_vars v) (6 * (4 * g + j) + p) (b - c)))) : wpY_plain Q v (nI g) (nI at') a b c := by
  have ca : (nI at').toNatClampNeg = at' := nI_clamp (by omega)
  have va : vp_in (nI at') 60 := vp_in_nI h60 (by decide)
  have ct : (nI (4 * g + j)).toNatClampNeg = 4 * g + j := nI_clamp (by omega)
  have vt : vp_in (nI (4 * g + j)) 48 := vp_in_nI (by omega) (by decide)
  rw [uy_plain]
  refine yg_topOf (d := j + 1) hg (by omega) hd ?_
  rw [show 4 * g + (j + 1) - 1 = 4 * g + j from rfl, ca, ct]
  refine ⟨va, nm_r hk ?_⟩
  rw [ea]
  exact br_f (by decide) (br_f (by decide) (br_f (by decide) (br_f (by decide) (br_f (by decide) (br_f (by decide) (br_f (by decide) (br_f (by decide) (br_f (by decide) (br_t rfl ⟨va, ys_set hg j4 hd p6 h⟩)))))))))
theorem yq_24 {Q : Int32 → SY → Prop} {v : SY} {g j at' : Nat} {a b c : Int32} (hg : g < 12) (j4 : j < 4) (hd : ya_depth v g = nI (j + 1)) (h60 : at' < 60) (hk : ya_kind v at' = 24) {p : Nat} (ea : ya_opA v at' = nI p) (p6 : p < 6) (h : Q 1 (ys_vars v (upd (ya_vars v) (6 * (4 * g + j) + p) (b * c)))) : wpY_plain Q v (nI g) (nI at') a b c := by
  have ca : (nI at').toNatClampNeg = at' := nI_clamp (by omega)
  have va : vp_in (nI at') 60 := vp_in_nI h60 (by decide)
  have ct : (nI (4 * g + j)).toNatClampNeg = 4 * g + j := nI_clamp (by omega)
  have vt : vp_in (nI (4 * g + j)) 48 := vp_in_nI (by omega) (by decide)
  rw [uy_plain]
  refine yg_topOf (d := j + 1) hg (by omega) hd ?_
  rw [show 4 * g + (j + 1) - 1 = 4 * g + j from rfl, ca, ct]
  refine ⟨va, nm_r hk ?_⟩
  rw [ea]
  exact br_f (by decide) (br_f (by decide) (br_f (by decide) (br_f (by decide) (br_f (by decide) (br_f (by decide) (br_f (by decide) (br_f (by decide) (br_f (by decide) (br_f (by decide) (br_t rfl ⟨va, ys_set hg j4 hd p6 h⟩))))))))))
theorem yq_25 {Q : Int32 → SY → Prop} {v : SY} {g j at' : Nat} {a b c : Int32} (hg : g < 12) (j4 : j < 4) (hd : ya_depth v g = nI (j + 1)) (h60 : at' < 60) (hk : ya_kind v at' = 25) {p : Nat} (ea : ya_opA v at' = nI p) (p6 : p < 6) (h0 : c = 0 → wpY_panic (fun u386 => Q 0 u386) v (nI g) (-3)) (h : ¬ c = 0 → Q 1 (ys_vars v (upd (ya_vars v) (6 * (4 * g + j) + p) (b / c)))) : wpY_plain Q v (nI g) (nI at') a b c := by
  have ca : (nI at').toNatClampNeg = at' := nI_clamp (by omega)
  have va : vp_in (nI at') 60 := vp_in_nI h60 (by decide)
  have ct : (nI (4 * g + j)).toNatClampNeg = 4 * g + j := nI_clamp (by omega)
  have vt : vp_in (nI (4 * g + j)) 48 := vp_in_nI (by omega) (by decide)
  rw [uy_plain]
  refine yg_topOf (d := j + 1) hg (by omega) hd ?_
  rw [show 4 * g + (j + 1) - 1 = 4 * g + j from rfl, ca, ct]
  refine ⟨va, nm_r hk ?_⟩
  rw [ea]
  exact br_f (by decide) (br_f (by decide) (br_f (by decide) (br_f (by decide) (br_f (by decide) (br_f (by decide) (br_f (by decide) (br_f (by decide) (br_f (by decide) (br_f (by decide) (br_f (by decide) (br_t rfl (br_c h0 (fun z => ⟨va, z, ys_set hg j4 hd p6 (h z)⟩)))))))))))))
theorem yq_26 {Q : Int32 → SY → Prop} {v : SY} {g j at' : Nat} {a b c : Int32} (hg : g < 12) (j4 : j < 4) (hd : ya_depth v g = nI (j + 1)) (h60 : at' < 60) (hk : ya_kind v at' = 26) {p : Nat} (ea : ya_opA v at' = nI p) (p6 : p < 6) (h0 : c ≤ b → Q 1 (ys_vars v (upd (ya_vars v) (6 * (4 * g + j) + p) 0))) (h1 : ¬ c ≤ b → Q 1 (ys_vars v (upd (ya_vars v) (6 * (4 * g + j) + p) 1))) : wpY_plain Q v (nI g) (nI at') a b c := by
  have ca : (nI at').toNatClampNeg = at' := nI_clamp (by omega)
  have va : vp_in (nI at') 60 := vp_in_nI h60 (by decide)
  have ct : (nI (4 * g + j)).toNatClampNeg = 4 * g + j := nI_clamp (by omega)
  have vt : vp_in (nI (4 * g + j)) 48 := vp_in_nI (by omega) (by decide)
  rw [uy_plain]
  refine yg_topOf (d := j + 1) hg (by omega) hd ?_
  rw [show 4 * g + (j + 1) - 1 = 4 * g + j from rfl, ca, ct]
  refine ⟨va, nm_r hk ?_⟩
  rw [ea]
  refine br_f (by decide) (br_f (by decide) (br_f (by decide) (br_f (by decide) (br_f (by decide) (br_f (by decide) (br_f (by decide) (br_f (by decide) (br_f (by decide) (br_f (by decide) (br_f (by decide) (br_f (by decide) (br_t rfl ⟨va, br_c (fun z => ?_) (fun z => ?_)⟩))))))))))))
  · rw [uy_plain_384]; exact ys_set hg j4 hd p6 (h0 z)
  · rw [uy_plain_384]; exact ys_set hg j4 hd p6 (h1 z)
theorem yq_27 {Q : Int32 → SY → Prop} {v : SY} {g j at' : Nat} {a b c : Int32} (hg : g < 12) (j4 : j < 4) (hd : ya_depth v g = nI (j + 1)) (h60 : at' < 60) (hk : ya_kind v at' = 27) {p : Nat} (ea : ya_opA v at' = nI p) (p6 : p < 6) (h1 : b = c → Q 1 (ys_vars v (upd (ya_vars v) (6 * (4 * g + j) + p) 1))) (h0 : ¬ b = c → Q 1 (ys_vars v (upd (ya_vars v) (6 * (4 * g + j) + p) 0))) : wpY_plain Q v (nI g) (nI at') a b c := by
  have ca : (nI at').toNatClampNeg = at' := nI_clamp (by omega)
  have va : vp_in (nI at') 60 := vp_in_nI h60 (by decide)
  have ct : (nI (4 * g + j)).toNatClampNeg = 4 * g + j := nI_clamp (by omega)
  have vt : vp_in (nI (4 * g + j)) 48 := vp_in_nI (by omega) (by decide)
  rw [uy_plain]
  refine yg_topOf (d := j + 1) hg (by omega) hd ?_
  rw [show 4 * g + (j + 1) - 1 = 4 * g + j from rfl, ca, ct]
  refine ⟨va, nm_r hk ?_⟩
  rw [ea]
  refine br_f (by decide) (br_f (by decide) (br_f (by decide) (br_f (by decide) (br_f (by decide) (br_f (by decide) (br_f (by decide) (br_f (by decide) (br_f (by decide) (br_f (by decide) (br_f (by decide) (br_f (by decide) (br_f (by decide) (br_t rfl ⟨va, br_c (fun z => ?_) (fun z => ?_)⟩)))))))))))))
  · rw [uy_plain_409]; exact ys_set hg j4 hd p6 (h1 z)
  · rw [uy_plain_409]; exact ys_set hg j4 hd p6 (h0 z)
theorem yq_19 {Q : Int32 → SY → Prop} {v : SY} {g j at' : Nat} {a b c : Int32} (hg : g < 12) (j4 : j < 4) (hd : ya_depth v g = nI (j + 1)) (h60 : at' < 60) (hk : ya_kind v at' = 19) {p : Nat} (ea : ya_opA v at' = nI p) (p6 : p < 6) (h0 : (ya_asNote v (4 * g + j) = 0 ∨ (0 < j ∧ ya_panics v (4 * g + j - 1) = 0)) → Q 1 (ys_vars v (upd (ya_vars v) (6 * (4 * g + j) + p) 0))) (hj : ¬ ya_asNote v (4 * g + j) = 0 → 0 < j) (h1 : ¬ ya_asNote v (4 * g + j) = 0 → ¬ ya_panics v (4 * g + j - 1) = 0 → Q 1 (ys_panics (ys_vars v (upd (ya_vars v) (6 * (4 * g + j) + p) (ya_panicWith v (4 * g + j - 1)))) (upd (ya_panics v) (4 * g + j - 1) 0))) : wpY_plain Q v (nI g) (nI at') a b c := by
  have ca : (nI at').toNatClampNeg = at' := nI_clamp (by omega)
  have va : vp_in (nI at') 60 := vp_in_nI h60 (by decide)
  have ct : (nI (4 * g + j)).toNatClampNeg = 4 * g + j := nI_clamp (by omega)
  have vt : vp_in (nI (4 * g + j)) 48 := vp_in_nI (by omega) (by decide)
  rw [uy_plain]
  refine yg_topOf (d := j + 1) hg (by omega) hd ?_
  rw [show 4 * g + (j + 1) - 1 = 4 * g + j from rfl, ca, ct]
  refine ⟨va, nm_r hk ?_⟩
  have no : (ya_asNote v (4 * g + j) = 0 ∨ (0 < j ∧ ya_panics v (4 * g + j - 1) = 0)) → cy_plain_192 Q (nI g) (nI at') (nI (4 * g + j)) v := by
    intro z
    rw [uy_plain_192, uy_plain_193, ca, ea]
    refine ⟨va, br_t rfl ?_⟩
    rw [uy_plain_221]
    exact ys_set hg j4 hd p6 (br_t rfl (h0 z))
  refine br_f (by decide) (br_f (by decide) (br_f (by decide) (br_f (by decide) (br_f (by decide) (br_t rfl ⟨vt, br_c (fun z => no (Or.inl z)) (fun z => ?_)⟩)))))
  have j0 := hj z
  have e : nI (4 * g + j) - 1 = nI (4 * g + j - 1) := by
    have := nI_p (4 * g + j - 1)
    rw [show 4 * g + j - 1 + 1 = 4 * g + j by omega] at this
    exact this
  have vs : vp_in (nI (4 * g + j - 1)) 48 := vp_in_nI (by omega) (by decide)
  have cs : (nI (4 * g + j - 1)).toNatClampNeg = 4 * g + j - 1 := nI_clamp (by omega)
  rw [e, cs]
  refine ⟨vs, br_c (fun y => no (Or.inr ⟨j0, y⟩)) (fun y => ?_)⟩
  rw [uy_plain_193, ca, ea, e, cs]
  refine ⟨va, br_f (by decide) ⟨vs, ?_⟩⟩
  rw [uy_plain_221]
  refine ys_set hg j4 hd p6 (br_f (by decide) ?_)
  rw [e, cs]
  exact ⟨vs, nm_r (show _ = upd (ya_panics v) (4 * g + j - 1) 0 from rfl) (h1 z y)⟩
theorem xq_21 {P : SX → Prop} {u : SX} {t at' p : Nat} {b c : Int32} (ht : t < 48) (h60 : at' < 60) (ea : xa_argA u at' = nI p) (p6 : p < 6) (hk : xa_kinds u at' = 21) (h : P (xs_variables u (upd (xa_variables u) (6 * t + p) b))) : wpX_compute P u (nI t) (nI at') b c := by
  rw [ux_compute]
  have ca : (nI at').toNatClampNeg = at' := nI_clamp (by omega)
  have va : vp_in (nI at') 60 := vp_in_nI h60 (by decide)
  have fin : ∀ x, P (xs_variables u (upd (xa_variables u) (6 * t + p) x)) → cx_compute_129 P (nI t) (nI at') x u := by
    intro x hx
    rw [ux_compute_129]
    exact xc_set ht h60 ea p6 hx
  rw [ca]
  refine ⟨va, nm_r hk ?_⟩
  exact br_t (by decide) (fin _ h)
theorem xq_22 {P : SX → Prop} {u : SX} {t at' p : Nat} {b c : Int32} (ht : t < 48) (h60 : at' < 60) (ea : xa_argA u at' = nI p) (p6 : p < 6) (hk : xa_kinds u at' = 22) (h : P (xs_variables u (upd (xa_variables u) (6 * t + p) (b + c)))) : wpX_compute P u (nI t) (nI at') b c := by
  rw [ux_compute]
  have ca : (nI at').toNatClampNeg = at' := nI_clamp (by omega)
  have va : vp_in (nI at') 60 := vp_in_nI h60 (by decide)
  have fin : ∀ x, P (xs_variables u (upd (xa_variables u) (6 * t + p) x)) → cx_compute_129 P (nI t) (nI at') x u := by
    intro x hx
    rw [ux_compute_129]
    exact xc_set ht h60 ea p6 hx
  rw [ca]
  refine ⟨va, nm_r hk ?_⟩
  exact br_f (by decide) (br_f (by decide) (br_t rfl (nm_e (fin _ h))))
theorem xq_23 {P : SX → Prop} {u : SX} {t at' p : Nat} {b c : Int32} (ht : t < 48) (h60 : at' < 60) (ea : xa_argA u at' = nI p) (p6 : p < 6) (hk : xa_kinds u at' = 23) (h : P (xs_variables u (upd (xa_variables u) (6 * t + p) (b - c)))) : wpX_compute P u (nI t) (nI at') b c := by
  rw [ux_compute]
  have ca : (nI at').toNatClampNeg = at' := nI_clamp (by omega)
  have va : vp_in (nI at') 60 := vp_in_nI h60 (by decide)
  have fin : ∀ x, P (xs_variables u (upd (xa_variables u) (6 * t + p) x)) → cx_compute_129 P (nI t) (nI at') x u := by
    intro x hx
    rw [ux_compute_129]
    exact xc_set ht h60 ea p6 hx
  rw [ca]
  refine ⟨va, nm_r hk ?_⟩
  exact br_f (by decide) (br_f (by decide) (br_f (by decide) (br_t rfl (nm_e (fin _ h)))))
theorem xq_24 {P : SX → Prop} {u : SX} {t at' p : Nat} {b c : Int32} (ht : t < 48) (h60 : at' < 60) (ea : xa_argA u at' = nI p) (p6 : p < 6) (hk : xa_kinds u at' = 24) (h : P (xs_variables u (upd (xa_variables u) (6 * t + p) (b * c)))) : wpX_compute P u (nI t) (nI at') b c := by
  rw [ux_compute]
  have ca : (nI at').toNatClampNeg = at' := nI_clamp (by omega)
  have va : vp_in (nI at') 60 := vp_in_nI h60 (by decide)
  have fin : ∀ x, P (xs_variables u (upd (xa_variables u) (6 * t + p) x)) → cx_compute_129 P (nI t) (nI at') x u := by
    intro x hx
    rw [ux_compute_129]
    exact xc_set ht h60 ea p6 hx
  rw [ca]
  refine ⟨va, nm_r hk ?_⟩
  exact br_f (by decide) (br_f (by decide) (br_f (by decide) (br_f (by decide) (br_t rfl (nm_e (fin _ h))))))
theorem xq_25 {P : SX → Prop} {u : SX} {t at' p : Nat} {b c : Int32} (ht : t < 48) (h60 : at' < 60) (ea : xa_argA u at' = nI p) (p6 : p < 6) (hk : xa_kinds u at' = 25) (h0 : c = 0 → wpX_panic P u (nI t) (-3)) (h : ¬ c = 0 → P (xs_variables u (upd (xa_variables u) (6 * t + p) (b / c)))) : wpX_compute P u (nI t) (nI at') b c := by
  rw [ux_compute]
  have ca : (nI at').toNatClampNeg = at' := nI_clamp (by omega)
  have va : vp_in (nI at') 60 := vp_in_nI h60 (by decide)
  have fin : ∀ x, P (xs_variables u (upd (xa_variables u) (6 * t + p) x)) → cx_compute_129 P (nI t) (nI at') x u := by
    intro x hx
    rw [ux_compute_129]
    exact xc_set ht h60 ea p6 hx
  rw [ca]
  refine ⟨va, nm_r hk ?_⟩
  exact br_f (by decide) (br_f (by decide) (br_f (by decide) (br_f (by decide) (br_f (by decide) (br_t rfl (br_c h0 (fun z => ⟨z, nm_e (fin _ (h z))⟩)))))))
theorem xq_26 {P : SX → Prop} {u : SX} {t at' p : Nat} {b c : Int32} (ht : t < 48) (h60 : at' < 60) (ea : xa_argA u at' = nI p) (p6 : p < 6) (hk : xa_kinds u at' = 26) (h0 : c ≤ b → P (xs_variables u (upd (xa_variables u) (6 * t + p) 0))) (h1 : ¬ c ≤ b → P (xs_variables u (upd (xa_variables u) (6 * t + p) 1))) : wpX_compute P u (nI t) (nI at') b c := by
  rw [ux_compute]
  have ca : (nI at').toNatClampNeg = at' := nI_clamp (by omega)
  have va : vp_in (nI at') 60 := vp_in_nI h60 (by decide)
  have fin : ∀ x, P (xs_variables u (upd (xa_variables u) (6 * t + p) x)) → cx_compute_129 P (nI t) (nI at') x u := by
    intro x hx
    rw [ux_compute_129]
    exact xc_set ht h60 ea p6 hx
  rw [ca]
  refine ⟨va, nm_r hk ?_⟩
  exact br_f (by decide) (br_f (by decide) (br_f (by decide) (br_f (by decide) (br_f (by decide) (br_f (by decide) (br_t rfl (br_c (fun z => by rw [ux_compute_108]; exact fin _ (h0 z)) (fun z => by rw [ux_compute_108]; exact fin _ (h1 z)))))))))
theorem xq_27 {P : SX → Prop} {u : SX} {t at' p : Nat} {b c : Int32} (ht : t < 48) (h60 : at' < 60) (ea : xa_argA u at' = nI p) (p6 : p < 6) (hk : xa_kinds u at' = 27) (h1 : b = c → P (xs_variables u (upd (xa_variables u) (6 * t + p) 1))) (h0 : ¬ b = c → P (xs_variables u (upd (xa_variables u) (6 * t + p) 0))) : wpX_compute P u (nI t) (nI at') b c := by
  rw [ux_compute]
  have ca : (nI at').toNatClampNeg = at' := nI_clamp (by omega)
  have va : vp_in (nI at') 60 := vp_in_nI h60 (by decide)
  have fin : ∀ x, P (xs_variables u (upd (xa_variables u) (6 * t + p) x)) → cx_compute_129 P (nI t) (nI at') x u := by
    intro x hx
    rw [ux_compute_129]
    exact xc_set ht h60 ea p6 hx
  rw [ca]
  refine ⟨va, nm_r hk ?_⟩
  exact br_f (by decide) (br_f (by decide) (br_f (by decide) (br_f (by decide) (br_f (by decide) (br_f (by decide) (br_f (by decide) (br_t rfl (br_c (fun z => by rw [ux_compute_124]; exact fin _ (h1 z)) (fun z => by rw [ux_compute_124]; exact fin _ (h0 z))))))))))
