/-! the class's cloud: it returns or throws -/
theorem zw_m {w : Cond} (h : w ∈ lw_tbl) (g : goodWord w = true) : w ∈ zT := List.mem_filter.mpr ⟨h, g⟩
theorem fl_X7_131 : Cond.fieldLink RX7 131 (TX5 2).1 (TX5 2).2.1 (TX5 2).2.2.1 ∈ zT := zw_m (by decide +kernel) (by decide +kernel)
theorem fl_X7_134 : Cond.fieldLink RX7 134 (TX5 3).1 (TX5 3).2.1 (TX5 3).2.2.1 ∈ zT := zw_m (by decide +kernel) (by decide +kernel)
theorem xi_k : Cond.classLink RX7 122 "java/lang/IndexOutOfBoundsException" ∈ zT := zw_m (by decide +kernel) (by decide +kernel)
theorem xn_k : Cond.classLink RX7 143 "java/util/NoSuchElementException" ∈ zT := zw_m (by decide +kernel) (by decide +kernel)
theorem xi_i : Cond.initialized "java/lang/IndexOutOfBoundsException" ∈ zT := zw_m (by decide +kernel) (by decide +kernel)
theorem xn_i : Cond.initialized "java/util/NoSuchElementException" ∈ zT := zw_m (by decide +kernel) (by decide +kernel)
theorem xi_at0 : ∀ w ∈ (vx_at0 RX7 124 "java/lang/IndexOutOfBoundsException" ["java/lang/RuntimeException", "java/lang/Exception"]).filter goodWord, w ∈ lw_tbl := by decide +kernel
theorem xn_at0 : ∀ w ∈ (vx_at0 RX7 145 "java/util/NoSuchElementException" ["java/lang/RuntimeException", "java/lang/Exception"]).filter goodWord, w ∈ lw_tbl := by decide +kernel
def xB (E : String) : List Cond := [.declares (Bundle.init0 "java/lang/RuntimeException"), .declares (Bundle.init0 "java/lang/Exception"), .declares (Bundle.init0 Bundle.tN), .castable E E]
theorem xi_at1 : ∀ w ∈ (vx_at0 RX7 124 "java/lang/IndexOutOfBoundsException" ["java/lang/RuntimeException", "java/lang/Exception"]).filter (fun w => !goodWord w), w ∈ xB "java/lang/IndexOutOfBoundsException" := by decide +kernel
theorem xn_at1 : ∀ w ∈ (vx_at0 RX7 145 "java/util/NoSuchElementException" ["java/lang/RuntimeException", "java/lang/Exception"]).filter (fun w => !goodWord w), w ∈ xB "java/util/NoSuchElementException" := by decide +kernel
theorem xi_ot : ∀ w ∈ Cond.classLink RX7 122 "java/lang/IndexOutOfBoundsException" :: Cond.initialized "java/lang/IndexOutOfBoundsException" :: vx_at0 RX7 124 "java/lang/IndexOutOfBoundsException" ["java/lang/RuntimeException", "java/lang/Exception"], vx_ot w = true := by decide +kernel
theorem xn_ot : ∀ w ∈ Cond.classLink RX7 143 "java/util/NoSuchElementException" :: Cond.initialized "java/util/NoSuchElementException" :: vx_at0 RX7 145 "java/util/NoSuchElementException" ["java/lang/RuntimeException", "java/lang/Exception"], vx_ot w = true := by decide +kernel
/-- what a throw needs of the state besides -/
def zXt (n0 : Nat) (U : State) : Prop :=
  vx_Zq Bundle.tN "UNASSIGNED_STACK" Bundle.steD (fun q => n0 ≤ q) U U.heap ∧ vx_Zq Bundle.tN "SUPPRESSED_SENTINEL" Bundle.listD (fun q => n0 ≤ q) U U.heap ∧
  va_Nw (.declares (Bundle.init0 "java/lang/RuntimeException")) U ∧ va_Nw (.declares (Bundle.init0 "java/lang/Exception")) U ∧ va_Nw (.declares (Bundle.init0 Bundle.tN)) U ∧
  va_Nw (.castable "java/lang/IndexOutOfBoundsException" "java/lang/IndexOutOfBoundsException") U ∧ va_Nw (.castable "java/util/NoSuchElementException" "java/util/NoSuchElementException") U ∧ va_Nc "java/util/NoSuchElementException" "java/lang/IndexOutOfBoundsException" U
theorem zXt.go {n0 : Nat} {s U : State} (hW : s.WarmedH U.vm) (hk : ∀ q : Nat, q < n0 → U.heap[q]? = s.heap[q]?) (h : zXt n0 s) : zXt n0 U := by
  obtain ⟨h1, h2, h3, h4, h5, h6, h7, h8⟩ := h
  have hq : ∀ a : Nat, a < s.heap.size → ¬ (fun q => n0 ≤ q) a → U.heap[a]? = s.heap[a]? := fun a _ z => hk a (Nat.not_le.mp z)
  exact ⟨(h1.kept hq).moved hW.alike, (h2.kept hq).moved hW.alike, h3.warmD hW, h4.warmD hW, h5.warmD hW, h6.warmC hW, h7.warmC hW, va_Nc.moved hW.alike h8⟩
def zPX (g : zGl) (As : List Value) (h : zHp) : Array Value → State → Prop := fun v U => zPc g As h v U ∧ zXt g.2.2.1 U
theorem zPX.blind (g : zGl) (As : List Value) (h : zHp) : FrameBlind (zPX g As h) := by
  intro a U f mk hp
  refine ⟨zPc.blind g As h a U f mk hp.1, ?_⟩
  obtain ⟨h1, h2, h3, h4, h5, h6, h7, h8⟩ := hp.2
  exact ⟨vx_Zq.moved (u := U) (U := U.calling f mk a) (Vm.Alike.refl U.vm) h1, vx_Zq.moved (u := U) (U := U.calling f mk a) (Vm.Alike.refl U.vm) h2, va_Nw.same rfl rfl h3, va_Nw.same rfl rfl h4, va_Nw.same rfl rfl h5, va_Nw.same rfl rfl h6, va_Nw.same rfl rfl h7, va_Nc.moved (u := U) (U := U.calling f mk a) (Vm.Alike.refl U.vm) h8⟩
theorem zPreX {h : zHp} {g : zGl} {As : List Value} {s : State} {H : Heap} {locs : List Loc} (hE : zEn g s) (hX : zXt g.2.2.1 s) (hR : zHR g.1 g.2.1 g.2.2.1 h H) (hS : va_S (fun q => g.2.2.1 ≤ q) s.heap H locs) : PreS s H (zPX g As h) As :=
  ⟨zPX.blind g As h, fun U hU hW => ⟨(zPre hE hR hS).2 U hU hW, hX.go hW (fun q hq => by rw [hU]; exact hS.2.1 q (Nat.lt_of_lt_of_le hq hE.2.2.2) (Nat.not_le.mpr hq))⟩⟩
/-- thrown: nothing is changed but that there is more -/
def zXC (g : zGl) (h : zHp) (E0 : String) : String → State → State → Prop := fun E st t => E = E0 ∧ (∃ n', zHR g.1 g.2.1 g.2.2.1 (h.1, n') t.heap) ∧ va_F (fun q => g.2.2.1 ≤ q) st t
theorem zHR.more {D : va_G} {kp : Nat → ClassId} {n0 : Nat} {h : zHp} {H H1 : Heap} (hR : zHR D kp n0 h H) (hq : ∀ q : Nat, q < H.size → H1[q]? = H[q]?) : zHR D kp n0 (h.1, H1.size) H1 :=
  ⟨fun b d hb => ⟨(hR.1 b d hb).1, (hR.1 b d hb).2.kept (hq b ((hR.1 b d hb).2.lt))⟩, rfl⟩
abbrev M_X7_cloud : zMt := (RX7, cX7_cloud, 3, 6, 120, (some .int), "cloud", 1, 6)
theorem d_X7_cloud_0 : zDc M_X7_cloud 0 (.aload_n 0) 1 1 := ⟨by decide +kernel, rfl⟩
theorem d_X7_cloud_1 : zDc M_X7_cloud 1 (.iload_n 1) 1 2 := ⟨by decide +kernel, rfl⟩
theorem d_X7_cloud_2 : zDc M_X7_cloud 2 (.invokevirtual 118) 3 5 := ⟨by decide +kernel, rfl⟩
theorem d_X7_cloud_5 : zDj M_X7_cloud 5 (.ifCond .ne 11) 11 8 16 := ⟨by decide +kernel, rfl, by decide⟩
theorem d_X7_cloud_16 : zDc M_X7_cloud 16 (.iload_n 2) 1 17 := ⟨by decide +kernel, rfl⟩
theorem d_X7_cloud_17 : decode M_X7_cloud.2.1 17 = .ok (.tableswitch 99 0 5 #[39, 49, 59, 69, 79, 89], 39) := by decide +kernel
theorem d_X7_cloud_56 : zDc M_X7_cloud 56 (.aload_n 0) 1 57 := ⟨by decide +kernel, rfl⟩
theorem d_X7_cloud_57 : zDc M_X7_cloud 57 (.getfield 38) 3 60 := ⟨by decide +kernel, rfl⟩
theorem d_X7_cloud_60 : zDc M_X7_cloud 60 (.getfield 125) 3 63 := ⟨by decide +kernel, rfl⟩
theorem d_X7_cloud_63 : zDc M_X7_cloud 63 (.iload_n 1) 1 64 := ⟨by decide +kernel, rfl⟩
theorem d_X7_cloud_64 : zDc M_X7_cloud 64 (.iaload) 1 65 := ⟨by decide +kernel, rfl⟩
theorem d_X7_cloud_65 : zDc M_X7_cloud 65 (.ireturn) 1 66 := ⟨by decide +kernel, rfl⟩
theorem d_X7_cloud_66 : zDc M_X7_cloud 66 (.aload_n 0) 1 67 := ⟨by decide +kernel, rfl⟩
theorem d_X7_cloud_67 : zDc M_X7_cloud 67 (.getfield 38) 3 70 := ⟨by decide +kernel, rfl⟩
theorem d_X7_cloud_70 : zDc M_X7_cloud 70 (.getfield 128) 3 73 := ⟨by decide +kernel, rfl⟩
theorem d_X7_cloud_73 : zDc M_X7_cloud 73 (.iload_n 1) 1 74 := ⟨by decide +kernel, rfl⟩
theorem d_X7_cloud_74 : zDc M_X7_cloud 74 (.iaload) 1 75 := ⟨by decide +kernel, rfl⟩
theorem d_X7_cloud_75 : zDc M_X7_cloud 75 (.ireturn) 1 76 := ⟨by decide +kernel, rfl⟩
theorem d_X7_cloud_76 : zDc M_X7_cloud 76 (.aload_n 0) 1 77 := ⟨by decide +kernel, rfl⟩
theorem d_X7_cloud_77 : zDc M_X7_cloud 77 (.getfield 38) 3 80 := ⟨by decide +kernel, rfl⟩
theorem d_X7_cloud_80 : zDc M_X7_cloud 80 (.getfield 131) 3 83 := ⟨by decide +kernel, rfl⟩
theorem d_X7_cloud_83 : zDc M_X7_cloud 83 (.iload_n 1) 1 84 := ⟨by decide +kernel, rfl⟩
theorem d_X7_cloud_84 : zDc M_X7_cloud 84 (.iaload) 1 85 := ⟨by decide +kernel, rfl⟩
theorem d_X7_cloud_85 : zDc M_X7_cloud 85 (.ireturn) 1 86 := ⟨by decide +kernel, rfl⟩
theorem d_X7_cloud_86 : zDc M_X7_cloud 86 (.aload_n 0) 1 87 := ⟨by decide +kernel, rfl⟩
theorem d_X7_cloud_87 : zDc M_X7_cloud 87 (.getfield 38) 3 90 := ⟨by decide +kernel, rfl⟩
theorem d_X7_cloud_90 : zDc M_X7_cloud 90 (.getfield 134) 3 93 := ⟨by decide +kernel, rfl⟩
theorem d_X7_cloud_93 : zDc M_X7_cloud 93 (.iload_n 1) 1 94 := ⟨by decide +kernel, rfl⟩
theorem d_X7_cloud_94 : zDc M_X7_cloud 94 (.iaload) 1 95 := ⟨by decide +kernel, rfl⟩
theorem d_X7_cloud_95 : zDc M_X7_cloud 95 (.ireturn) 1 96 := ⟨by decide +kernel, rfl⟩
theorem d_X7_cloud_96 : zDc M_X7_cloud 96 (.aload_n 0) 1 97 := ⟨by decide +kernel, rfl⟩
theorem d_X7_cloud_97 : zDc M_X7_cloud 97 (.getfield 38) 3 100 := ⟨by decide +kernel, rfl⟩
theorem d_X7_cloud_100 : zDc M_X7_cloud 100 (.getfield 137) 3 103 := ⟨by decide +kernel, rfl⟩
theorem d_X7_cloud_103 : zDc M_X7_cloud 103 (.iload_n 1) 1 104 := ⟨by decide +kernel, rfl⟩
theorem d_X7_cloud_104 : zDc M_X7_cloud 104 (.iaload) 1 105 := ⟨by decide +kernel, rfl⟩
theorem d_X7_cloud_105 : zDc M_X7_cloud 105 (.ireturn) 1 106 := ⟨by decide +kernel, rfl⟩
theorem d_X7_cloud_106 : zDc M_X7_cloud 106 (.aload_n 0) 1 107 := ⟨by decide +kernel, rfl⟩
theorem d_X7_cloud_107 : zDc M_X7_cloud 107 (.getfield 38) 3 110 := ⟨by decide +kernel, rfl⟩
theorem d_X7_cloud_110 : zDc M_X7_cloud 110 (.getfield 140) 3 113 := ⟨by decide +kernel, rfl⟩
theorem d_X7_cloud_113 : zDc M_X7_cloud 113 (.iload_n 1) 1 114 := ⟨by decide +kernel, rfl⟩
theorem d_X7_cloud_114 : zDc M_X7_cloud 114 (.iaload) 1 115 := ⟨by decide +kernel, rfl⟩
theorem d_X7_cloud_115 : zDc M_X7_cloud 115 (.ireturn) 1 116 := ⟨by decide +kernel, rfl⟩
def f_X7_cloud (a0 : Nat) (a1 : Int32) (a2 : Int32) (h0 : zHp) : Option (Int32 × zHp) :=
  zbd (zcv 7 a0 h0 (f_X7_isCloud a0 a1 h0)) (fun v2 h1 => if v2 = 0 then none else
  if a2 = 0 then zob (zgR h1 a0 7 4) (fun v3 => zob (zgR h1 v3 5 0) (fun v4 => zob (zaI 0 h1 v4 a1) (fun v5 => some (v5, h1)))) else
  if a2 = 1 then zob (zgR h1 a0 7 4) (fun v3 => zob (zgR h1 v3 5 1) (fun v4 => zob (zaI 0 h1 v4 a1) (fun v5 => some (v5, h1)))) else
  if a2 = 2 then zob (zgR h1 a0 7 4) (fun v3 => zob (zgR h1 v3 5 2) (fun v4 => zob (zaI 0 h1 v4 a1) (fun v5 => some (v5, h1)))) else
  if a2 = 3 then zob (zgR h1 a0 7 4) (fun v3 => zob (zgR h1 v3 5 3) (fun v4 => zob (zaI 0 h1 v4 a1) (fun v5 => some (v5, h1)))) else
  if a2 = 4 then zob (zgR h1 a0 7 4) (fun v3 => zob (zgR h1 v3 5 4) (fun v4 => zob (zaI 0 h1 v4 a1) (fun v5 => some (v5, h1)))) else
  if a2 = 5 then zob (zgR h1 a0 7 4) (fun v3 => zob (zgR h1 v3 5 5) (fun v4 => zob (zaI 0 h1 v4 a1) (fun v5 => some (v5, h1)))) else
  none)
set_option maxRecDepth 100000 in
set_option maxHeartbeats 4000000 in
theorem g_X7_cloud (X : zCx) (a0 : Nat) (a1 : Int32) (a2 : Int32) (h0 : zHp) : zG X M_X7_cloud (0, 0) 0 [(0, .ref a0), (1, .int a1), (2, .int a2)] [] h0 (f_X7_cloud a0 a1 a2 h0) (fun (r : Int32) h' => zKe X (some (.int r)) h') := by
  unfold f_X7_cloud
  refine zg_aload_n 0 rfl d_X7_cloud_0 ?_
  refine zg_iload_n 1 rfl d_X7_cloud_1 ?_
  refine zg_cVi (b := a0) (As := [.int a1]) (rest := []) (0, 0) d_X7_cloud_2 zc_7 rfl cw_X7_118 wi_X7_isCloud ws_X7_isCloud rfl rfl (Nat.le_of_ble_eq_true rfl) (by decide) (by decide) ⟨by decide, by decide⟩ rfl (t_X7_isCloud a0 a1 h0) (fun v2 h1 => ?_)
  refine zg_if_ne d_X7_cloud_5 zg_none ?_
  refine zg_iload_n 2 rfl d_X7_cloud_16 ?_
  refine zg_if (fun n20 => ?_) (fun n20 => ?_)
  · refine zg_tabE n20 d_X7_cloud_17 (by decide) (by decide) (off := 39) rfl (tgt := 56) (by decide) ?_
    refine zg_aload_n 0 rfl d_X7_cloud_56 ?_
    refine zg_getR d_X7_cloud_57 zc_7 (by decide) fl_X7_38 (fun v3 => ?_)
    refine zg_getR d_X7_cloud_60 zc_5 (by decide) fl_X7_125 (fun v4 => ?_)
    refine zg_iload_n 1 rfl d_X7_cloud_63 ?_
    refine zg_ald0 d_X7_cloud_64 (fun v5 => ?_)
    exact zg_iretK d_X7_cloud_65 rfl ⟨Nat.le_of_ble_eq_true rfl, Nat.le_of_ble_eq_true rfl⟩ (fun q => q)
  refine zg_if (fun n21 => ?_) (fun n21 => ?_)
  · refine zg_tabE n21 d_X7_cloud_17 (by decide) (by decide) (off := 49) rfl (tgt := 66) (by decide) ?_
    refine zg_aload_n 0 rfl d_X7_cloud_66 ?_
    refine zg_getR d_X7_cloud_67 zc_7 (by decide) fl_X7_38 (fun v3 => ?_)
    refine zg_getR d_X7_cloud_70 zc_5 (by decide) fl_X7_128 (fun v4 => ?_)
    refine zg_iload_n 1 rfl d_X7_cloud_73 ?_
    refine zg_ald0 d_X7_cloud_74 (fun v5 => ?_)
    exact zg_iretK d_X7_cloud_75 rfl ⟨Nat.le_of_ble_eq_true rfl, Nat.le_of_ble_eq_true rfl⟩ (fun q => q)
  refine zg_if (fun n22 => ?_) (fun n22 => ?_)
  · refine zg_tabE n22 d_X7_cloud_17 (by decide) (by decide) (off := 59) rfl (tgt := 76) (by decide) ?_
    refine zg_aload_n 0 rfl d_X7_cloud_76 ?_
    refine zg_getR d_X7_cloud_77 zc_7 (by decide) fl_X7_38 (fun v3 => ?_)
    refine zg_getR d_X7_cloud_80 zc_5 (by decide) fl_X7_131 (fun v4 => ?_)
    refine zg_iload_n 1 rfl d_X7_cloud_83 ?_
    refine zg_ald0 d_X7_cloud_84 (fun v5 => ?_)
    exact zg_iretK d_X7_cloud_85 rfl ⟨Nat.le_of_ble_eq_true rfl, Nat.le_of_ble_eq_true rfl⟩ (fun q => q)
  refine zg_if (fun n23 => ?_) (fun n23 => ?_)
  · refine zg_tabE n23 d_X7_cloud_17 (by decide) (by decide) (off := 69) rfl (tgt := 86) (by decide) ?_
    refine zg_aload_n 0 rfl d_X7_cloud_86 ?_
    refine zg_getR d_X7_cloud_87 zc_7 (by decide) fl_X7_38 (fun v3 => ?_)
    refine zg_getR d_X7_cloud_90 zc_5 (by decide) fl_X7_134 (fun v4 => ?_)
    refine zg_iload_n 1 rfl d_X7_cloud_93 ?_
    refine zg_ald0 d_X7_cloud_94 (fun v5 => ?_)
    exact zg_iretK d_X7_cloud_95 rfl ⟨Nat.le_of_ble_eq_true rfl, Nat.le_of_ble_eq_true rfl⟩ (fun q => q)
  refine zg_if (fun n24 => ?_) (fun n24 => ?_)
  · refine zg_tabE n24 d_X7_cloud_17 (by decide) (by decide) (off := 79) rfl (tgt := 96) (by decide) ?_
    refine zg_aload_n 0 rfl d_X7_cloud_96 ?_
    refine zg_getR d_X7_cloud_97 zc_7 (by decide) fl_X7_38 (fun v3 => ?_)
    refine zg_getR d_X7_cloud_100 zc_5 (by decide) fl_X7_137 (fun v4 => ?_)
    refine zg_iload_n 1 rfl d_X7_cloud_103 ?_
    refine zg_ald0 d_X7_cloud_104 (fun v5 => ?_)
    exact zg_iretK d_X7_cloud_105 rfl ⟨Nat.le_of_ble_eq_true rfl, Nat.le_of_ble_eq_true rfl⟩ (fun q => q)
  refine zg_if (fun n25 => ?_) (fun n25 => ?_)
  · refine zg_tabE n25 d_X7_cloud_17 (by decide) (by decide) (off := 89) rfl (tgt := 106) (by decide) ?_
    refine zg_aload_n 0 rfl d_X7_cloud_106 ?_
    refine zg_getR d_X7_cloud_107 zc_7 (by decide) fl_X7_38 (fun v3 => ?_)
    refine zg_getR d_X7_cloud_110 zc_5 (by decide) fl_X7_140 (fun v4 => ?_)
    refine zg_iload_n 1 rfl d_X7_cloud_113 ?_
    refine zg_ald0 d_X7_cloud_114 (fun v5 => ?_)
    exact zg_iretK d_X7_cloud_115 rfl ⟨Nat.le_of_ble_eq_true rfl, Nat.le_of_ble_eq_true rfl⟩ (fun q => q)
  exact zg_none
theorem x_cloudR (l : Launch) (g : zGl) {x : Nat} {a b v : Int32} {h h2 : zHp} (e : f_X7_cloud x a b h = some (v, h2)) (XC : String → State → State → Prop) : vx_Met l yX7_cloud (.code yX7_cloud cX7_cloud 3 (some .int) :: zT) { frames := 6, cells := 1, slots := 6, locals := 120 } (zPX g [.ref x, .int a, .int b] h) (zQc g (some (.int v)) h2) XC 1 6 (fun q => g.2.2.1 ≤ q) := by
  refine vx_ofW (cc := cX7_cloud) (maxL := 3) (ret := some .int) (by decide) rfl ?_
  intro p e0 s m args below meth c0 s₁ B hml ht hP
  obtain ⟨⟨rfl, hR, hE⟩, hX⟩ := hP
  have hown : s.vm.findClass yX7_cloud.cls = some m.cls := findClass_of_methodNamed B.named
  have hts := atoms_spec B.pre
  have hl := lv_entry [.ref x, .int a, .int b] (n := 3) (Nat.le_of_ble_eq_true rfl)
  rw [lg_entry_eq]
  exact vx_ret (g_X7_cloud (p, l, e0, _, s, m, ([.ref x, .int a, .int b] : List Value).toArray, below, meth, c0, g, zQc g (some (.int v)) h2) x a b h v h2 e (fun t hr hf => ⟨rfl, hr, hf⟩) ⟨B.exec, B.bytes, hml, hown, fun w hw => hts w (List.mem_cons_of_mem _ hw), hE, B.notSynchronized, B.returns, (name_of_methodNamed B.named B.method).1, rfl, rfl, rfl, rfl⟩ _ s.heap [] hl hR va_S.rf)
set_option maxRecDepth 100000 in
set_option maxHeartbeats 4000000 in
theorem x_cloudI (l : Launch) (hl0 : l.stackTraces = false) (g : zGl) {x : Nat} {a b r : Int32} {h h1 : zHp} {fs : List Value} (ex : h.1 x = some (.inr (7, fs))) (e : f_X7_isCloud x a h = some (r, h1)) (hr : r = 0) (Qc : Array Value → State → Outcome → State → Prop) : vx_Met l yX7_cloud (.code yX7_cloud cX7_cloud 3 (some .int) :: zT) { frames := 6, cells := 1, slots := 6, locals := 120 } (zPX g [.ref x, .int a, .int b] h) Qc (zXC g h1 "java/lang/IndexOutOfBoundsException") 1 6 (fun q => g.2.2.1 ≤ q) := by
  refine vx_ofW (cc := cX7_cloud) (maxL := 3) (ret := some .int) (by decide) rfl ?_
  intro p e0 s m args below meth c0 s₁ B hml ht hP
  obtain ⟨⟨rfl, hR, hE⟩, hX⟩ := hP
  have hown : s.vm.findClass RX7 = some m.cls := findClass_of_methodNamed B.named
  have hts0 := atoms_spec B.pre
  have hts : ∀ w ∈ zT, w.before ([.ref x, .int a, .int b] : List Value).toArray s = true := fun w hw => hts0 w (List.mem_cons_of_mem _ hw)
  have hv := lv_entry [.ref x, .int a, .int b] (n := 3) (Nat.le_of_ble_eq_true rfl)
  rw [lg_entry_eq]
  generalize ((lg_sl [.ref x, .int a, .int b] ++ List.replicate (3 - (lg_sl [.ref x, .int a, .int b]).length) Slot.unset).toArray) = ls at hv ⊢
  have hv : lv_has ls 3 [(0, .ref x), (1, .int a), (2, .int b)] := hv
  refine lv_aload_n B.exec B.bytes d_X7_cloud_0.1 rfl (lv_at hv 0 rfl) ?_
  refine lv_iload_n B.exec B.bytes d_X7_cloud_1.1 rfl (lv_at hv 1 rfl) ?_
  have hS0 : va_S (fun q => g.2.2.1 ≤ q) s.heap s.heap [] := va_S.rf
  obtain ⟨r', hr', cell, g1, g2, g3, -⟩ := (hR.1 x _ ex).2
  have hr'' : r' = (RX7, TX7, 10) := Option.some.inj (hr'.symm.trans zc_7.1)
  subst hr''
  have hpre := zPre (As := [.ref x, .int a]) hE hR hS0
  refine zAft (cs := (0, 0)) (rv := some (.int r)) (h1 := h1) (va_runV (C := RX7) (b := x) (As := [.int a]) (rest := []) (Ts := zT) ⟨B.exec, B.bytes, hml, hown, hts⟩ (t_X7_isCloud x a h r h1 e l g) ⟨cw_X7_118.B hts (by decide) (by decide), hts _ wi_X7_isCloud, hts _ ws_X7_isCloud⟩ ⟨hpre.1, ⟨cell, g1, by rw [g3]; rfl, by rw [g2]; exact (hE.1.1 7 _ zc_7.1).2.1⟩, hpre.2⟩ rfl rfl hv.1 rfl (Nat.le_of_ble_eq_true rfl) d_X7_cloud_2.1 ⟨by decide, by decide⟩) hS0 (fun H1 locs1 hR1 hS1 => ?_)
  refine lv_if_ne B.exec B.bytes d_X7_cloud_5.1 d_X7_cloud_5.2.2 (fun hP => absurd hr hP) (fun hP => ?_)
  have hat : ∀ w ∈ vx_at0 RX7 124 "java/lang/IndexOutOfBoundsException" ["java/lang/RuntimeException", "java/lang/Exception"], w.before ([.ref x, .int a, .int b] : List Value).toArray s = true := vx_hat (fun w hw => hts w (zw_m (xi_at0 w hw) (List.mem_filter.mp hw).2)) xi_at1 (vx_c (va_Nw.use rfl hX.2.2.1) (vx_c (va_Nw.use rfl hX.2.2.2.1) (vx_c (va_Nw.use rfl hX.2.2.2.2.1) (vx_c (va_Nw.use rfl hX.2.2.2.2.2.1) vx_n))))
  exact vx_throw0 (pc := 8) B.exec B.bytes hl0 hown (by decide +kernel) (by decide +kernel) (hts _ xi_k) (hts _ xi_i) hat xi_ot hX.1 hX.2.1 hS1 (hv.1.trans hml.symm) (by decide +kernel) (by decide +kernel) (by decide +kernel) (by decide +kernel) (fun x hx => (ht x hx).elim) (by decide) (by decide) (by decide) (by decide) B.notSynchronized (fun t _ k1 k2 => ⟨rfl, ⟨t.heap.size, hR1.more k2⟩, Nat.le_trans hS1.1 k1, fun q q1 q2 => by rw [k2 q (Nat.lt_of_lt_of_le q1 hS1.1)]; exact hS1.2.1 q q1 q2⟩) hS1.2.2 (by decide) (by decide)
set_option maxRecDepth 100000 in
set_option maxHeartbeats 4000000 in
theorem x_cloudN (l : Launch) (hl0 : l.stackTraces = false) (g : zGl) {x : Nat} {a b r : Int32} {h h1 : zHp} {fs : List Value} (ex : h.1 x = some (.inr (7, fs))) (e : f_X7_isCloud x a h = some (r, h1)) (hr : ¬ r = 0) (hb : b.toInt < 0 ∨ 5 < b.toInt) (Qc : Array Value → State → Outcome → State → Prop) : vx_Met l yX7_cloud (.code yX7_cloud cX7_cloud 3 (some .int) :: zT) { frames := 6, cells := 1, slots := 6, locals := 120 } (zPX g [.ref x, .int a, .int b] h) Qc (zXC g h1 "java/util/NoSuchElementException") 1 6 (fun q => g.2.2.1 ≤ q) := by
  refine vx_ofW (cc := cX7_cloud) (maxL := 3) (ret := some .int) (by decide) rfl ?_
  intro p e0 s m args below meth c0 s₁ B hml ht hP
  obtain ⟨⟨rfl, hR, hE⟩, hX⟩ := hP
  have hown : s.vm.findClass RX7 = some m.cls := findClass_of_methodNamed B.named
  have hts0 := atoms_spec B.pre
  have hts : ∀ w ∈ zT, w.before ([.ref x, .int a, .int b] : List Value).toArray s = true := fun w hw => hts0 w (List.mem_cons_of_mem _ hw)
  have hv := lv_entry [.ref x, .int a, .int b] (n := 3) (Nat.le_of_ble_eq_true rfl)
  rw [lg_entry_eq]
  generalize ((lg_sl [.ref x, .int a, .int b] ++ List.replicate (3 - (lg_sl [.ref x, .int a, .int b]).length) Slot.unset).toArray) = ls at hv ⊢
  have hv : lv_has ls 3 [(0, .ref x), (1, .int a), (2, .int b)] := hv
  refine lv_aload_n B.exec B.bytes d_X7_cloud_0.1 rfl (lv_at hv 0 rfl) ?_
  refine lv_iload_n B.exec B.bytes d_X7_cloud_1.1 rfl (lv_at hv 1 rfl) ?_
  have hS0 : va_S (fun q => g.2.2.1 ≤ q) s.heap s.heap [] := va_S.rf
  obtain ⟨r', hr', cell, g1, g2, g3, -⟩ := (hR.1 x _ ex).2
  have hr'' : r' = (RX7, TX7, 10) := Option.some.inj (hr'.symm.trans zc_7.1)
  subst hr''
  have hpre := zPre (As := [.ref x, .int a]) hE hR hS0
  refine zAft (cs := (0, 0)) (rv := some (.int r)) (h1 := h1) (va_runV (C := RX7) (b := x) (As := [.int a]) (rest := []) (Ts := zT) ⟨B.exec, B.bytes, hml, hown, hts⟩ (t_X7_isCloud x a h r h1 e l g) ⟨cw_X7_118.B hts (by decide) (by decide), hts _ wi_X7_isCloud, hts _ ws_X7_isCloud⟩ ⟨hpre.1, ⟨cell, g1, by rw [g3]; rfl, by rw [g2]; exact (hE.1.1 7 _ zc_7.1).2.1⟩, hpre.2⟩ rfl rfl hv.1 rfl (Nat.le_of_ble_eq_true rfl) d_X7_cloud_2.1 ⟨by decide, by decide⟩) hS0 (fun H1 locs1 hR1 hS1 => ?_)
  refine lv_if_ne B.exec B.bytes d_X7_cloud_5.1 d_X7_cloud_5.2.2 (fun hP => ?_) (fun hP => absurd hP hr)
  refine lv_iload_n B.exec B.bytes d_X7_cloud_16.1 rfl (lv_at hv 2 rfl) ?_
  refine lv_tableOut B.exec B.bytes d_X7_cloud_17 hb (show ((17 : Nat) : Int) + 99 = ((116 : Nat) : Int) by decide) ?_
  have hat : ∀ w ∈ vx_at0 RX7 145 "java/util/NoSuchElementException" ["java/lang/RuntimeException", "java/lang/Exception"], w.before ([.ref x, .int a, .int b] : List Value).toArray s = true := vx_hat (fun w hw => hts w (zw_m (xn_at0 w hw) (List.mem_filter.mp hw).2)) xn_at1 (vx_c (va_Nw.use rfl hX.2.2.1) (vx_c (va_Nw.use rfl hX.2.2.2.1) (vx_c (va_Nw.use rfl hX.2.2.2.2.1) (vx_c (va_Nw.use rfl hX.2.2.2.2.2.2.1) vx_n))))
  exact vx_throw0 (pc := 116) B.exec B.bytes hl0 hown (by decide +kernel) (by decide +kernel) (hts _ xn_k) (hts _ xn_i) hat xn_ot hX.1 hX.2.1 hS1 (hv.1.trans hml.symm) (by decide +kernel) (by decide +kernel) (by decide +kernel) (by decide +kernel) (fun x hx => (ht x hx).elim) (by decide) (by decide) (by decide) (by decide) B.notSynchronized (fun t _ k1 k2 => ⟨rfl, ⟨t.heap.size, hR1.more k2⟩, Nat.le_trans hS1.1 k1, fun q q1 q2 => by rw [k2 q (Nat.lt_of_lt_of_le q1 hS1.1)]; exact hS1.2.1 q q1 q2⟩) hS1.2.2 (by decide) (by decide)
