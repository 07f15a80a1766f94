theorem lay_in {ws : List Jvm.Cond} (ps : List Nat) (h : ws = ps.filterMap (fun i => lw_tbl[i]?)) (hg : ws.all goodWord = true) : ∀ w ∈ ws, w ∈ bigW := by
  intro w hw
  have h1 := List.all_eq_true.mp hg w hw
  rw [h] at hw
  obtain ⟨i, -, hi⟩ := List.mem_filterMap.mp hw
  exact bigW_of hi h1
theorem layX0 : ∀ w ∈ u_ws RX0 TX0 18, w ∈ bigW := lay_in [407, 409, 411, 413, 415, 417, 419, 421, 423, 425, 427, 429, 431, 433, 435, 437, 439, 441] (by decide +kernel) (by decide +kernel)
theorem layX1 : ∀ w ∈ u_ws RX1 TX1 13, w ∈ bigW := lay_in [298, 300, 302, 304, 306, 308, 310, 312, 314, 316, 318, 320, 322] (by decide +kernel) (by decide +kernel)
theorem layX2 : ∀ w ∈ u_ws RX2 TX2 3, w ∈ bigW := lay_in [357, 359, 361] (by decide +kernel) (by decide +kernel)
theorem layX3 : ∀ w ∈ u_ws RX3 TX3 18, w ∈ bigW := lay_in [470, 472, 474, 476, 478, 480, 482, 484, 486, 488, 490, 492, 494, 496, 498, 500, 502, 504] (by decide +kernel) (by decide +kernel)
theorem layX4 : ∀ w ∈ u_ws RX4 TX4 15, w ∈ bigW := lay_in [535, 537, 539, 541, 543, 545, 547, 549, 551, 553, 555, 557, 559, 561, 563] (by decide +kernel) (by decide +kernel)
theorem layX5 : ∀ w ∈ u_ws RX5 TX5 11, w ∈ bigW := lay_in [238, 240, 242, 244, 246, 248, 250, 252, 254, 256, 258] (by decide +kernel) (by decide +kernel)
theorem layX6 : ∀ w ∈ u_ws RX6 TX6 4, w ∈ bigW := lay_in [339, 341, 343, 345] (by decide +kernel) (by decide +kernel)
theorem layX7 : ∀ w ∈ u_ws RX7 TX7 5, w ∈ bigW := lay_in [180, 182, 184, 186, 188] (by decide +kernel) (by decide +kernel)
theorem layX8 : ∀ w ∈ u_ws RX8 TX8 10, w ∈ bigW := lay_in [576, 578, 580, 582, 584, 586, 588, 590, 592, 594] (by decide +kernel) (by decide +kernel)
theorem layX9 : ∀ w ∈ u_ws RX9 TX9 65, w ∈ bigW := lay_in [1219, 1221, 1223, 1225, 1227, 1229, 1231, 1233, 1235, 1237, 1239, 1241, 1243, 1245, 1247, 1249, 1251, 1253, 1255, 1257, 1259, 1261, 1263, 1265, 1267, 1269, 1271, 1273, 1275, 1277, 1279, 1281, 1283, 1285, 1287, 1289, 1291, 1293, 1295, 1297, 1299, 1301, 1303, 1305, 1307, 1309, 1311, 1313, 1315, 1317, 1319, 1321, 1323, 1325, 1327, 1329, 1331, 1333, 1335, 1337, 1339, 1341, 1343, 1345, 1347] (by decide +kernel) (by decide +kernel)
def clD (ci : Nat) : vw_C := vwCl.getD ci (RX0, TX0, 18)
def tyD (ci : Nat) : Nat → FieldType := ([tyX0, tyX1, tyX2, tyX3, tyX4, tyX5, tyX6, tyX7, tyX8, tyX9] : List (Nat → FieldType)).getD ci tyX0
theorem cl_10 {P : Nat → Prop} (h0 : P 0) (h1 : P 1) (h2 : P 2) (h3 : P 3) (h4 : P 4) (h5 : P 5) (h6 : P 6) (h7 : P 7) (h8 : P 8) (h9 : P 9) : ∀ ci, ci < 10 → P ci := by
  intro ci h
  rcases (show ci = 0 ∨ ci = 1 ∨ ci = 2 ∨ ci = 3 ∨ ci = 4 ∨ ci = 5 ∨ ci = 6 ∨ ci = 7 ∨ ci = 8 ∨ ci = 9 by omega) with rfl | rfl | rfl | rfl | rfl | rfl | rfl | rfl | rfl | rfl <;> assumption
theorem cl_get : ∀ ci, ci < 10 → vwCl[ci]? = some (clD ci) := cl_10 rfl rfl rfl rfl rfl rfl rfl rfl rfl rfl
theorem cl_N : ∀ ci, ci < 10 → (clD ci).2.2 = cnN ci := cl_10 rfl rfl rfl rfl rfl rfl rfl rfl rfl rfl
theorem cl_lay : ∀ ci, ci < 10 → ∀ w ∈ u_ws (clD ci).1 (clD ci).2.1 (clD ci).2.2, w ∈ bigW := cl_10 layX0 layX1 layX2 layX3 layX4 layX5 layX6 layX7 layX8 layX9
theorem cl_ty : ∀ ci, ci < 10 → ∀ k, k < (clD ci).2.2 → parseFieldDescriptor ((clD ci).2.1 k).2.2.1 = some (tyD ci k) := cl_10 tyX0_ok tyX1_ok tyX2_ok tyX3_ok tyX4_ok tyX5_ok tyX6_ok tyX7_ok tyX8_ok tyX9_ok
theorem cl_nm : ∀ ci, ci < 10 → ∀ a, a < (clD ci).2.2 → ∀ b, b < (clD ci).2.2 → a ≠ b → ((clD ci).2.1 a).2.1 ≠ ((clD ci).2.1 b).2.1 := cl_10 nmX0 nmX1 nmX2 nmX3 nmX4 nmX5 nmX6 nmX7 nmX8 nmX9
def tkd (t : FieldType) : Nat := match t with
  | .int => 0
  | .boolean => 1
  | .object _ => 2
  | .array _ => 2
  | _ => 3
theorem cl_tk : ∀ ci, ci < 10 → ∀ k, k < cnN ci → tkd (tyD ci k) = ftk ci k := by decide +kernel
theorem tkd_0 {t : FieldType} (h : tkd t = 0) : t = .int := by cases t <;> simp [tkd] at h ⊢
theorem tkd_1 {t : FieldType} (h : tkd t = 1) : t = .boolean := by cases t <;> simp [tkd] at h ⊢
theorem tkd_2 {t : FieldType} (h : tkd t = 2) : (∃ n, t = .object n) ∨ ∃ u, t = .array u := by cases t <;> simp [tkd] at h ⊢
theorem tkd_lt : ∀ ci, ci < 10 → ∀ k, k < cnN ci → ftk ci k = 0 ∨ ftk ci k = 1 ∨ ftk ci k = 2 := by decide +kernel
section GH
variable {p : Program} {l : Launch} {e : Env} {R : Room} {s : State} {m : MethodId} {args : Array Value} {below : List Frame} {meth : Method} {c : Code} {Q : State → Prop} {cc : ByteArray} {nL : Nat} {own : String} {n0 b L k0 s0 : Nat} {sx : Int → Int} {D : va_G} {cA : Nat → ClassId}
theorem gs_end {ls st : List AV} {σ σ' : Sg} {pc : Nat} {H : Heap} {lsA : Array Slot} {cells slots : Nat} (k : GW p l e R s m args below meth c Q nL n0 b L sx D cA k0 s0 pc ls st σ') (I : INV ls st σ') (hW : WH n0 b L sx D cA s σ H) (hl : LH n0 b lsA nL ls) (hk0 : k0 ≤ σ'.1.length) (hs0 : s0 ≤ slN σ'.1) (hsz : s.heap.size = n0 + k0)
    (hc : cells = σ'.1.length - k0) (hs : slots = slN σ'.1 - s0) {H1 : Heap} {locs1 : List Loc} (hP : va_P D vwCl (wd n0 b cA σ') H1) (hS : va_S (fun q => n0 ≤ q) H H1 locs1) (hlow : n0 + σ'.1.length ≤ H1.size) : W p l e R s m args below meth c H1 locs1 cells slots Q (F0 m pc lsA (st.map (cv n0 b))) := by
  intro T hT X
  have hz := X.heapSize
  rw [hT, hsz] at hz
  have hz2 : H1.size = n0 + σ'.1.length := by omega
  subst hc
  subst hs
  obtain ⟨w1, w2, w3, w4, w5, w6⟩ := hW
  exact k H1 locs1 lsA I ⟨hz2, hP, w3.kept (hS.2.1 b (by omega) (by omega)), w4, w5, w6⟩ hS.2.2 hl hk0 hs0 hsz T hT X
theorem gs_same {ls st : List AV} {K : List (Nat × Nat)} {R0 R1 : Rfs} {M0 M1 : Mem} {pc : Nat} {H : Heap} {lsA : Array Slot} (k : GW p l e R s m args below meth c Q nL n0 b L sx D cA k0 s0 pc ls st (K, R1, M1)) (I : INV ls st (K, R1, M1)) (hW : WH n0 b L sx D cA s (K, R0, M0) H) (hl : LH n0 b lsA nL ls) (hk0 : k0 ≤ K.length) (hs0 : s0 ≤ slN K) (hsz : s.heap.size = n0 + k0)
    {H1 : Heap} {locs1 : List Loc} (hP : va_P D vwCl (wd n0 b cA (K, R1, M1)) H1) (hS : va_S (fun q => n0 ≤ q) H H1 locs1) : W p l e R s m args below meth c H1 locs1 (K.length - k0) (slN K - s0) Q (F0 m pc lsA (st.map (cv n0 b))) :=
  gs_end k I hW hl hk0 hs0 hsz rfl rfl hP hS (by have := hW.1; have := hS.1; dsimp only at *; omega)
theorem vaS_rf {n0 : Nat} {H : Heap} {locs : List Loc} (h : ∀ q ∈ locs, n0 ≤ q.base) : va_S (fun q => n0 ≤ q) H H locs := ⟨Nat.le_refl _, fun _ _ _ => rfl, h⟩
theorem cfs_at {R0 : Rfs} {M0 : Mem} {c0 ci k : Nat} (hk : k < cnN ci) : (cfs n0 b R0 M0 c0 ci)[k]? = some (if ftk ci k = 2 then cvR n0 b (R0 c0 k) else .int (Int32.ofInt (M0 c0 k))) := by
  unfold cfs
  rw [List.getElem?_map, List.getElem?_range hk, Option.map_some]
theorem cfs_len (R0 : Rfs) (M0 : Mem) (c0 ci : Nat) : (cfs n0 b R0 M0 c0 ci).length = cnN ci := by simp [cfs]
theorem ce_ob {R0 : Rfs} {M0 : Mem} {c0 : Nat} {q : Nat × Nat} (h : q.1 < 10) : ce n0 b cA R0 M0 c0 q = .inr (q.1, cfs n0 b R0 M0 c0 q.1) := by simp [ce, h]
theorem cfs_set {R0 : Rfs} {M0 : Mem} {c0 ci k : Nat} {v : Value} {R1 : Rfs} {M1 : Mem} (hk : k < cnN ci) (hv : (if ftk ci k = 2 then cvR n0 b (R1 c0 k) else .int (Int32.ofInt (M1 c0 k))) = v)
    (hR : ∀ j : Nat, j ≠ k → R1 c0 j = R0 c0 j) (hM : ∀ j : Nat, j ≠ k → M1 c0 j = M0 c0 j) : cfs n0 b R1 M1 c0 ci = (cfs n0 b R0 M0 c0 ci).set k v := by
  apply List.ext_getElem?
  intro i
  by_cases hi : i < cnN ci
  · rw [cfs_at hi]
    by_cases hik : i = k
    · subst hik
      rw [List.getElem?_set_self (by rw [cfs_len]; exact hi), hv]
    · rw [List.getElem?_set_ne (Ne.symm hik), cfs_at hi, hR i hik, hM i hik]
  · rw [List.getElem?_eq_none (by rw [cfs_len]; omega), List.getElem?_eq_none (by rw [List.length_set, cfs_len]; omega)]
theorem ce_other {R0 R1 : Rfs} {M0 M1 : Mem} {c0 : Nat} (hR : R1 c0 = R0 c0) (hM : M1 c0 = M0 c0) (q : Nat × Nat) : ce n0 b cA R1 M1 c0 q = ce n0 b cA R0 M0 c0 q := by
  simp only [ce, cfs, hR, hM]
theorem mset_ne {M0 : Mem} {c0 c1 : Nat} {k v : Int} (h : c1 ≠ c0) : mset M0 c0 k v c1 = M0 c1 := by funext j; simp [mset, h]
theorem rset_ne {R0 : Rfs} {c0 c1 : Nat} {k : Int} {v : Nat} (h : c1 ≠ c0) : rset R0 c0 k v c1 = R0 c1 := by funext j; simp [rset, h]
/-- a field's word: of the own class, or of a nest mate -/
def fldW (own : String) (index : Nat) (q : String × String × String × Bool) : Prop := Jvm.Cond.fieldLink own index q.1 q.2.1 q.2.2.1 ∈ bigW ∨ Jvm.Cond.fieldLinkNest own index q.1 q.2.1 q.2.2.1 "OneKnife" ∈ nstW
theorem gs_get (C : Cx p s m args c cc nL own D cA) {pc index ci k c0 n : Nat} {ls st : List AV} {σ : Sg} (hd : decode cc pc = .ok (.getfield index, 3)) (hK : σ.1[c0]? = some (ci, n)) (hci : ci < 10) (hk : k < cnN ci) (hw : fldW own index ((clD ci).2.1 k)) (kk : GW p l e R s m args below meth c Q nL n0 b L sx D cA k0 s0 (pc + 3) ls ((if ftk ci k = 2 then vR (σ.2.1 c0 k) else vI (σ.2.2 c0 k)) :: st) σ) : GW p l e R s m args below meth c Q nL n0 b L sx D cA k0 s0 pc ls (vR (c0 + 2) :: st) σ := by
  refine gs_of kk (fun I => I.pop.push (by
    split
    · trivial
    · exact I.2.2.1 c0 k)) (fun H locs lsA cells slots I hW hl k2 => ?_)
  have h2 := k2 lsA hl
  have he := wd_get (n0 := n0) (b := b) (cA := cA) hK
  rw [ce_ob hci] at he
  have hv := cfs_at (n0 := n0) (b := b) (R0 := σ.2.1) (M0 := σ.2.2) (c0 := c0) hk
  have hkN : k < (clD ci).2.2 := by rw [cl_N ci hci]; exact hk
  have e : cv n0 b (if ftk ci k = 2 then vR (σ.2.1 c0 k) else vI (σ.2.2 c0 k)) = (if ftk ci k = 2 then cvR n0 b (σ.2.1 c0 k) else .int (Int32.ofInt (σ.2.2 c0 k))) := by split <;> rfl
  simp only [List.map_cons] at h2
  rw [e] at h2
  rcases hw with hw | hw
  · exact va_get (D := D) C.1 C.2.1 C.2.2.2.2.1 (cl_lay ci hci) C.2.2.2.1 C.2.2.2.2.2.1 hW.2.1 c0 he (cl_get ci hci) k hkN (C.2.2.2.2.1 _ hw) (fun _ h => h) hv hd h2
  · exact va_getN (D := D) C.1 C.2.1 C.2.2.2.2.1 (cl_lay ci hci) C.2.2.2.1 C.2.2.2.2.2.1 hW.2.1 c0 he (cl_get ci hci) k hkN (C.2.2.2.2.2.2.1 _ hw) (fun _ h => h) hv hd h2
/-- a field's store, in general -/
theorem gs_put0 (C : Cx p s m args c cc nL own D cA) {pc index ci k c0 n : Nat} {ls st : List AV} {K : List (Nat × Nat)} {R0 R1 : Rfs} {M0 M1 : Mem} {v : AV} (hd : decode cc pc = .ok (.putfield index, 3)) (hK : K[c0]? = some (ci, n)) (hci : ci < 10) (hk : k < cnN ci) (hw : fldW own index ((clD ci).2.1 k))
    (hfin : ((clD ci).2.1 k).2.2.2 = false ∨ (((clD ci).2.1 k).2.2.2 = true ∧ meth.name = "<init>" ∧ ((clD ci).2.1 k).1 = own ∧ Jvm.Cond.fieldLink own index ((clD ci).2.1 k).1 ((clD ci).2.1 k).2.1 ((clD ci).2.1 k).2.2.1 ∈ bigW))
    (hn : narrow (tyD ci k) (cv n0 b v) = cv n0 b v) (hfit : fits (tyD ci k) (cv n0 b v) = true) (hv : (if ftk ci k = 2 then cvR n0 b (R1 c0 k) else .int (Int32.ofInt (M1 c0 k))) = cv n0 b v)
    (hR : ∀ j : Nat, j ≠ k → R1 c0 j = R0 c0 j) (hM : ∀ j : Nat, j ≠ k → M1 c0 j = M0 c0 j) (hRo : ∀ c', c' ≠ c0 → R1 c' = R0 c') (hMo : ∀ c', c' ≠ c0 → M1 c' = M0 c') (hIn : (∀ c j, inR (M0 c j)) → ∀ c j, inR (M1 c j) )
    (kk : GW p l e R s m args below meth c Q nL n0 b L sx D cA k0 s0 (pc + 3) ls st (K, R1, M1)) : GW p l e R s m args below meth c Q nL n0 b L sx D cA k0 s0 pc ls (v :: vR (c0 + 2) :: st) (K, R0, M0) := by
  intro H locs lsA I hW hL hl h1 h2 h3
  have he := wd_get (n0 := n0) (b := b) (cA := cA) (σ := (K, R0, M0)) hK
  rw [ce_ob hci] at he
  have hkN : k < (clD ci).2.2 := by rw [cl_N ci hci]; exact hk
  have hset : (wd n0 b cA (K, R0, M0)).set c0 (n0 + c0, .inr (ci, (cfs n0 b R0 M0 c0 ci).set k (cv n0 b v))) = wd n0 b cA (K, R1, M1) :=
    wd_set hK (by rw [ce_ob hci, cfs_set hk hv hR hM]) (fun c' q' hc' => ce_other (hRo c' hc') (hMo c' hc') q')
  have hI' : INV ls st (K, R1, M1) := I.pop.pop.mem (hIn I.2.2.1)
  have hend : ∀ (H1 : Heap) (locs1 : List Loc), va_P D vwCl ((wd n0 b cA (K, R0, M0)).set c0 (n0 + c0, .inr (ci, (cfs n0 b R0 M0 c0 ci).set k (cv n0 b v)))) H1 → va_D (fun q => n0 ≤ q) ((wd n0 b cA (K, R0, M0)).set c0 (n0 + c0, .inr (ci, (cfs n0 b R0 M0 c0 ci).set k (cv n0 b v)))) → va_S (fun q => n0 ≤ q) H H1 locs1 → W p l e R s m args below meth c H1 locs1 (K.length - k0) (slN K - s0) Q (F0 m (pc + 3) lsA (st.map (cv n0 b))) := fun H1 locs1 hP _ hS => by
    rw [hset] at hP
    exact gs_same kk hI' hW hl h1 h2 h3 hP hS
  have hlen : k < (cfs n0 b R0 M0 c0 ci).length := by rw [cfs_len]; exact hk
  rcases hfin with hf | ⟨hf, hf2, hf3, hf4⟩
  · rcases hw with hw | hw
    · exact va_put (D := D) C.1 C.2.1 C.2.2.2.2.1 (cl_lay ci hci) (tyD ci) (cl_ty ci hci) (cl_nm ci hci) C.2.2.2.1 C.2.2.2.2.2.1 hW.2.1 (wd_D n0 b cA (K, R0, M0)) (vaS_rf hL) c0 he (cl_get ci hci) k hkN (C.2.2.2.2.1 _ hw) (fun _ h => h) hf (cl_ty ci hci k hkN) hn hfit hlen hd hend
    · exact va_putN (D := D) C.1 C.2.1 C.2.2.2.2.1 (cl_lay ci hci) (tyD ci) (cl_ty ci hci) (cl_nm ci hci) C.2.2.2.1 C.2.2.2.2.2.1 hW.2.1 (wd_D n0 b cA (K, R0, M0)) (vaS_rf hL) c0 he (cl_get ci hci) k hkN (C.2.2.2.2.2.2.1 _ hw) (fun _ h => h) hf (cl_ty ci hci k hkN) hn hfit hlen hd hend
  · exact va_putF (D := D) C.1 C.2.1 C.2.2.2.2.1 (cl_lay ci hci) (tyD ci) (cl_ty ci hci) (cl_nm ci hci) C.2.2.2.1 C.2.2.2.2.2.1 hW.2.1 (wd_D n0 b cA (K, R0, M0)) (vaS_rf hL) c0 he (cl_get ci hci) k hkN (C.2.2.2.2.1 _ hf4) (fun _ h => h) hf hf2 hf3 (cl_ty ci hci k hkN) hn hfit hlen hd hend
def finW (own : String) (index : Nat) (meth : Method) (q : String × String × String × Bool) : Prop := q.2.2.2 = false ∨ (q.2.2.2 = true ∧ meth.name = "<init>" ∧ q.1 = own ∧ Jvm.Cond.fieldLink own index q.1 q.2.1 q.2.2.1 ∈ bigW)
theorem mset_eq (M0 : Mem) (c0 : Nat) (k v : Int) : mset M0 c0 k v c0 k = v := by simp [mset]
theorem mset_nk {M0 : Mem} {c0 : Nat} {k v j : Int} (h : j ≠ k) : mset M0 c0 k v c0 j = M0 c0 j := by simp [mset, h]
theorem rset_eq (R0 : Rfs) (c0 : Nat) (k : Int) (v : Nat) : rset R0 c0 k v c0 k = v := by simp [rset]
theorem rset_nk {R0 : Rfs} {c0 : Nat} {k j : Int} {v : Nat} (h : j ≠ k) : rset R0 c0 k v c0 j = R0 c0 j := by simp [rset, h]
theorem mset_in {M0 : Mem} {c0 : Nat} {k v : Int} (h : ∀ c j, inR (M0 c j)) (hv : inR v) : ∀ c j, inR (mset M0 c0 k v c j) := by
  intro c j
  unfold mset
  split
  · exact hv
  · exact h c j
theorem gs_putI (C : Cx p s m args c cc nL own D cA) {pc index ci k c0 n : Nat} {x : Int} {ls st : List AV} {σ : Sg} (hd : decode cc pc = .ok (.putfield index, 3)) (hK : σ.1[c0]? = some (ci, n)) (hci : ci < 10) (hk : k < cnN ci) (hw : fldW own index ((clD ci).2.1 k)) (hfin : finW own index meth ((clD ci).2.1 k))
    (hf2 : ¬ ftk ci k = 2) (hx : ftk ci k = 0 ∨ x = 0 ∨ x = 1) (kk : GW p l e R s m args below meth c Q nL n0 b L sx D cA k0 s0 (pc + 3) ls st (σ.1, σ.2.1, mset σ.2.2 c0 k x)) : GW p l e R s m args below meth c Q nL n0 b L sx D cA k0 s0 pc ls (vI x :: vR (c0 + 2) :: st) σ := by
  intro H locs lsA I hW hL hl h1 h2 h3
  have hx0 : inR x := I.hd
  have hr := cl_tk ci hci k hk
  have h5 : narrow (tyD ci k) (cv n0 b (vI x)) = cv n0 b (vI x) ∧ fits (tyD ci k) (cv n0 b (vI x)) = true := by
    rcases tkd_lt ci hci k hk with h | h | h
    · rw [tkd_0 (hr.trans h)]; exact ⟨rfl, rfl⟩
    · rw [tkd_1 (hr.trans h)]
      rcases hx with h0 | rfl | rfl
      · omega
      · exact ⟨rfl, rfl⟩
      · exact ⟨rfl, rfl⟩
    · exact absurd h hf2
  refine gs_put0 (R0 := σ.2.1) (M0 := σ.2.2) (K := σ.1) C hd hK hci hk hw hfin h5.1 h5.2 ?_ (fun _ _ => rfl) (fun j hj => mset_nk (by omega)) (fun _ _ => rfl) (fun c' hc' => mset_ne hc') (fun h => mset_in h hx0) kk H locs lsA I hW hL hl h1 h2 h3
  rw [if_neg hf2, mset_eq]; rfl
theorem gs_putR (C : Cx p s m args c cc nL own D cA) {pc index ci k c0 n x : Nat} {ls st : List AV} {σ : Sg} (hd : decode cc pc = .ok (.putfield index, 3)) (hK : σ.1[c0]? = some (ci, n)) (hci : ci < 10) (hk : k < cnN ci) (hw : fldW own index ((clD ci).2.1 k)) (hfin : finW own index meth ((clD ci).2.1 k))
    (hf2 : ftk ci k = 2) (kk : GW p l e R s m args below meth c Q nL n0 b L sx D cA k0 s0 (pc + 3) ls st (σ.1, rset σ.2.1 c0 k x, σ.2.2)) : GW p l e R s m args below meth c Q nL n0 b L sx D cA k0 s0 pc ls (vR x :: vR (c0 + 2) :: st) σ := by
  have hr := cl_tk ci hci k hk
  have h5 : narrow (tyD ci k) (cv n0 b (vR x)) = cv n0 b (vR x) ∧ fits (tyD ci k) (cv n0 b (vR x)) = true := by
    show narrow (tyD ci k) (va_rf (rfo n0 b x)) = va_rf (rfo n0 b x) ∧ fits (tyD ci k) (va_rf (rfo n0 b x)) = true
    rcases tkd_2 (hr.trans hf2) with ⟨u, hu⟩ | ⟨u, hu⟩ <;> rw [hu] <;> cases rfo n0 b x <;> exact ⟨rfl, rfl⟩
  refine gs_put0 (R0 := σ.2.1) (M0 := σ.2.2) (K := σ.1) C hd hK hci hk hw hfin h5.1 h5.2 ?_ (fun j hj => rset_nk (by omega)) (fun _ _ => rfl) (fun c' hc' => rset_ne hc') (fun _ _ => rfl) (fun h => h) kk
  rw [if_pos hf2, rset_eq]; rfl
end GH
