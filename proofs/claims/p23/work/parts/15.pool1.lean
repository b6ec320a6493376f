/-! the pools: fields, callees, classes, constants, by the class that asks -/
def lkA {α : Type} : List (Nat × α) → Nat → Option α
  | [], _ => none
  | q :: r, i => match Nat.beq q.1 i with
    | true => some q.2
    | false => lkA r i
theorem lkA_mem {α : Type} : ∀ {l : List (Nat × α)} {i : Nat} {v : α}, lkA l i = some v → (i, v) ∈ l
  | [], _, _, h => by cases h
  | q :: r, i, v, h => by
    unfold lkA at h
    split at h
    · next e =>
        cases h
        have e1 := Nat.eq_of_beq_eq_true e
        subst e1
        exact List.mem_cons_self
    · exact List.mem_cons_of_mem _ (lkA_mem h)
theorem cl_0 : clOk 0 (RX0, TX0, 3) := by
  refine ⟨?_, tyX0_ok, nmX0⟩
  show ∀ w ∈ [u_lay RX0 TX0 0, u_lay RX0 TX0 1, u_lay RX0 TX0 2], w ∈ GW
  exact List.forall_mem_cons.mpr ⟨gw_260, List.forall_mem_cons.mpr ⟨gw_262, List.forall_mem_cons.mpr ⟨gw_264, fun _ h => absurd h List.not_mem_nil⟩⟩⟩
theorem cl_1 : clOk 1 (RX1, TX1, 16) := by
  refine ⟨?_, tyX1_ok, nmX1⟩
  show ∀ w ∈ [u_lay RX1 TX1 0, u_lay RX1 TX1 1, u_lay RX1 TX1 2, u_lay RX1 TX1 3, u_lay RX1 TX1 4, u_lay RX1 TX1 5, u_lay RX1 TX1 6, u_lay RX1 TX1 7, u_lay RX1 TX1 8, u_lay RX1 TX1 9, u_lay RX1 TX1 10, u_lay RX1 TX1 11, u_lay RX1 TX1 12, u_lay RX1 TX1 13, u_lay RX1 TX1 14, u_lay RX1 TX1 15], w ∈ GW
  exact List.forall_mem_cons.mpr ⟨gw_148, List.forall_mem_cons.mpr ⟨gw_150, List.forall_mem_cons.mpr ⟨gw_152, List.forall_mem_cons.mpr ⟨gw_154, List.forall_mem_cons.mpr ⟨gw_156, List.forall_mem_cons.mpr ⟨gw_158, List.forall_mem_cons.mpr ⟨gw_160, List.forall_mem_cons.mpr ⟨gw_162, List.forall_mem_cons.mpr ⟨gw_164, List.forall_mem_cons.mpr ⟨gw_166, List.forall_mem_cons.mpr ⟨gw_168, List.forall_mem_cons.mpr ⟨gw_170, List.forall_mem_cons.mpr ⟨gw_172, List.forall_mem_cons.mpr ⟨gw_174, List.forall_mem_cons.mpr ⟨gw_176, List.forall_mem_cons.mpr ⟨gw_178, fun _ h => absurd h List.not_mem_nil⟩⟩⟩⟩⟩⟩⟩⟩⟩⟩⟩⟩⟩⟩⟩⟩
theorem cl_2 : clOk 2 (RX2, TX2, 4) := by
  refine ⟨?_, tyX2_ok, nmX2⟩
  show ∀ w ∈ [u_lay RX2 TX2 0, u_lay RX2 TX2 1, u_lay RX2 TX2 2, u_lay RX2 TX2 3], w ∈ GW
  exact List.forall_mem_cons.mpr ⟨gw_242, List.forall_mem_cons.mpr ⟨gw_244, List.forall_mem_cons.mpr ⟨gw_246, List.forall_mem_cons.mpr ⟨gw_248, fun _ h => absurd h List.not_mem_nil⟩⟩⟩⟩
theorem cl_3 : clOk 3 (RX3, TX3, 2) := by
  refine ⟨?_, tyX3_ok, nmX3⟩
  show ∀ w ∈ [u_lay RX3 TX3 0, u_lay RX3 TX3 1], w ∈ GW
  exact List.forall_mem_cons.mpr ⟨gw_205, List.forall_mem_cons.mpr ⟨gw_207, fun _ h => absurd h List.not_mem_nil⟩⟩
theorem cl_4 : clOk 4 (RX4, TX4, 3) := by
  refine ⟨?_, tyX4_ok, nmX4⟩
  show ∀ w ∈ [u_lay RX4 TX4 0, u_lay RX4 TX4 1, u_lay RX4 TX4 2], w ∈ GW
  exact List.forall_mem_cons.mpr ⟨gw_73, List.forall_mem_cons.mpr ⟨gw_75, List.forall_mem_cons.mpr ⟨gw_77, fun _ h => absurd h List.not_mem_nil⟩⟩⟩
theorem cl_5 : clOk 5 (RX5, TX5, 4) := by
  refine ⟨?_, tyX5_ok, nmX5⟩
  show ∀ w ∈ [u_lay RX5 TX5 0, u_lay RX5 TX5 1, u_lay RX5 TX5 2, u_lay RX5 TX5 3], w ∈ GW
  exact List.forall_mem_cons.mpr ⟨gw_221, List.forall_mem_cons.mpr ⟨gw_223, List.forall_mem_cons.mpr ⟨gw_225, List.forall_mem_cons.mpr ⟨gw_227, fun _ h => absurd h List.not_mem_nil⟩⟩⟩⟩
theorem cl_6 : clOk 6 (RX6, TX6, 2) := by
  refine ⟨?_, tyX6_ok, nmX6⟩
  show ∀ w ∈ [u_lay RX6 TX6 0, u_lay RX6 TX6 1], w ∈ GW
  exact List.forall_mem_cons.mpr ⟨gw_192, List.forall_mem_cons.mpr ⟨gw_194, fun _ h => absurd h List.not_mem_nil⟩⟩
theorem cl_7 : clOk 7 (RX7, TX7, 6) := by
  refine ⟨?_, tyX7_ok, nmX7⟩
  show ∀ w ∈ [u_lay RX7 TX7 0, u_lay RX7 TX7 1, u_lay RX7 TX7 2, u_lay RX7 TX7 3, u_lay RX7 TX7 4, u_lay RX7 TX7 5], w ∈ GW
  exact List.forall_mem_cons.mpr ⟨gw_54, List.forall_mem_cons.mpr ⟨gw_56, List.forall_mem_cons.mpr ⟨gw_58, List.forall_mem_cons.mpr ⟨gw_60, List.forall_mem_cons.mpr ⟨gw_62, List.forall_mem_cons.mpr ⟨gw_64, fun _ h => absurd h List.not_mem_nil⟩⟩⟩⟩⟩⟩
theorem cl_8 : clOk 8 (RX8, TX8, 6) := by
  refine ⟨?_, tyX8_ok, nmX8⟩
  show ∀ w ∈ [u_lay RX8 TX8 0, u_lay RX8 TX8 1, u_lay RX8 TX8 2, u_lay RX8 TX8 3, u_lay RX8 TX8 4, u_lay RX8 TX8 5], w ∈ GW
  exact List.forall_mem_cons.mpr ⟨gw_285, List.forall_mem_cons.mpr ⟨gw_287, List.forall_mem_cons.mpr ⟨gw_289, List.forall_mem_cons.mpr ⟨gw_291, List.forall_mem_cons.mpr ⟨gw_293, List.forall_mem_cons.mpr ⟨gw_295, fun _ h => absurd h List.not_mem_nil⟩⟩⟩⟩⟩⟩
theorem cl_9 : clOk 9 (RX9, TX9, 14) := by
  refine ⟨?_, tyX9_ok, nmX9⟩
  show ∀ w ∈ [u_lay RX9 TX9 0, u_lay RX9 TX9 1, u_lay RX9 TX9 2, u_lay RX9 TX9 3, u_lay RX9 TX9 4, u_lay RX9 TX9 5, u_lay RX9 TX9 6, u_lay RX9 TX9 7, u_lay RX9 TX9 8, u_lay RX9 TX9 9, u_lay RX9 TX9 10, u_lay RX9 TX9 11, u_lay RX9 TX9 12, u_lay RX9 TX9 13], w ∈ GW
  exact List.forall_mem_cons.mpr ⟨gw_364, List.forall_mem_cons.mpr ⟨gw_366, List.forall_mem_cons.mpr ⟨gw_368, List.forall_mem_cons.mpr ⟨gw_370, List.forall_mem_cons.mpr ⟨gw_372, List.forall_mem_cons.mpr ⟨gw_374, List.forall_mem_cons.mpr ⟨gw_376, List.forall_mem_cons.mpr ⟨gw_378, List.forall_mem_cons.mpr ⟨gw_380, List.forall_mem_cons.mpr ⟨gw_382, List.forall_mem_cons.mpr ⟨gw_384, List.forall_mem_cons.mpr ⟨gw_386, List.forall_mem_cons.mpr ⟨gw_388, List.forall_mem_cons.mpr ⟨gw_390, fun _ h => absurd h List.not_mem_nil⟩⟩⟩⟩⟩⟩⟩⟩⟩⟩⟩⟩⟩⟩
theorem cl_10 : clOk 10 (RX10, TX10, 64) := by
  refine ⟨?_, tyX10_ok, nmX10⟩
  show ∀ w ∈ [u_lay RX10 TX10 0, u_lay RX10 TX10 1, u_lay RX10 TX10 2, u_lay RX10 TX10 3, u_lay RX10 TX10 4, u_lay RX10 TX10 5, u_lay RX10 TX10 6, u_lay RX10 TX10 7, u_lay RX10 TX10 8, u_lay RX10 TX10 9, u_lay RX10 TX10 10, u_lay RX10 TX10 11, u_lay RX10 TX10 12, u_lay RX10 TX10 13, u_lay RX10 TX10 14, u_lay RX10 TX10 15, u_lay RX10 TX10 16, u_lay RX10 TX10 17, u_lay RX10 TX10 18, u_lay RX10 TX10 19, u_lay RX10 TX10 20, u_lay RX10 TX10 21, u_lay RX10 TX10 22, u_lay RX10 TX10 23, u_lay RX10 TX10 24, u_lay RX10 TX10 25, u_lay RX10 TX10 26, u_lay RX10 TX10 27, u_lay RX10 TX10 28, u_lay RX10 TX10 29, u_lay RX10 TX10 30, u_lay RX10 TX10 31, u_lay RX10 TX10 32, u_lay RX10 TX10 33, u_lay RX10 TX10 34, u_lay RX10 TX10 35, u_lay RX10 TX10 36, u_lay RX10 TX10 37, u_lay RX10 TX10 38, u_lay RX10 TX10 39, u_lay RX10 TX10 40, u_lay RX10 TX10 41, u_lay RX10 TX10 42, u_lay RX10 TX10 43, u_lay RX10 TX10 44, u_lay RX10 TX10 45, u_lay RX10 TX10 46, u_lay RX10 TX10 47, u_lay RX10 TX10 48, u_lay RX10 TX10 49, u_lay RX10 TX10 50, u_lay RX10 TX10 51, u_lay RX10 TX10 52, u_lay RX10 TX10 53, u_lay RX10 TX10 54, u_lay RX10 TX10 55, u_lay RX10 TX10 56, u_lay RX10 TX10 57, u_lay RX10 TX10 58, u_lay RX10 TX10 59, u_lay RX10 TX10 60, u_lay RX10 TX10 61, u_lay RX10 TX10 62, u_lay RX10 TX10 63], w ∈ GW
  exact List.forall_mem_cons.mpr ⟨gw_1150, List.forall_mem_cons.mpr ⟨gw_1152, List.forall_mem_cons.mpr ⟨gw_1154, List.forall_mem_cons.mpr ⟨gw_1156, List.forall_mem_cons.mpr ⟨gw_1158, List.forall_mem_cons.mpr ⟨gw_1160, List.forall_mem_cons.mpr ⟨gw_1162, List.forall_mem_cons.mpr ⟨gw_1164, List.forall_mem_cons.mpr ⟨gw_1166, List.forall_mem_cons.mpr ⟨gw_1168, List.forall_mem_cons.mpr ⟨gw_1170, List.forall_mem_cons.mpr ⟨gw_1172, List.forall_mem_cons.mpr ⟨gw_1174, List.forall_mem_cons.mpr ⟨gw_1176, List.forall_mem_cons.mpr ⟨gw_1178, List.forall_mem_cons.mpr ⟨gw_1180, List.forall_mem_cons.mpr ⟨gw_1182, List.forall_mem_cons.mpr ⟨gw_1184, List.forall_mem_cons.mpr ⟨gw_1186, List.forall_mem_cons.mpr ⟨gw_1188, List.forall_mem_cons.mpr ⟨gw_1190, List.forall_mem_cons.mpr ⟨gw_1192, List.forall_mem_cons.mpr ⟨gw_1194, List.forall_mem_cons.mpr ⟨gw_1196, List.forall_mem_cons.mpr ⟨gw_1198, List.forall_mem_cons.mpr ⟨gw_1200, List.forall_mem_cons.mpr ⟨gw_1202, List.forall_mem_cons.mpr ⟨gw_1204, List.forall_mem_cons.mpr ⟨gw_1206, List.forall_mem_cons.mpr ⟨gw_1208, List.forall_mem_cons.mpr ⟨gw_1210, List.forall_mem_cons.mpr ⟨gw_1212, List.forall_mem_cons.mpr ⟨gw_1214, List.forall_mem_cons.mpr ⟨gw_1216, List.forall_mem_cons.mpr ⟨gw_1218, List.forall_mem_cons.mpr ⟨gw_1220, List.forall_mem_cons.mpr ⟨gw_1222, List.forall_mem_cons.mpr ⟨gw_1224, List.forall_mem_cons.mpr ⟨gw_1226, List.forall_mem_cons.mpr ⟨gw_1228, List.forall_mem_cons.mpr ⟨gw_1230, List.forall_mem_cons.mpr ⟨gw_1232, List.forall_mem_cons.mpr ⟨gw_1234, List.forall_mem_cons.mpr ⟨gw_1236, List.forall_mem_cons.mpr ⟨gw_1238, List.forall_mem_cons.mpr ⟨gw_1240, List.forall_mem_cons.mpr ⟨gw_1242, List.forall_mem_cons.mpr ⟨gw_1244, List.forall_mem_cons.mpr ⟨gw_1246, List.forall_mem_cons.mpr ⟨gw_1248, List.forall_mem_cons.mpr ⟨gw_1250, List.forall_mem_cons.mpr ⟨gw_1252, List.forall_mem_cons.mpr ⟨gw_1254, List.forall_mem_cons.mpr ⟨gw_1256, List.forall_mem_cons.mpr ⟨gw_1258, List.forall_mem_cons.mpr ⟨gw_1260, List.forall_mem_cons.mpr ⟨gw_1262, List.forall_mem_cons.mpr ⟨gw_1264, List.forall_mem_cons.mpr ⟨gw_1266, List.forall_mem_cons.mpr ⟨gw_1268, List.forall_mem_cons.mpr ⟨gw_1270, List.forall_mem_cons.mpr ⟨gw_1272, List.forall_mem_cons.mpr ⟨gw_1274, List.forall_mem_cons.mpr ⟨gw_1276, fun _ h => absurd h List.not_mem_nil⟩⟩⟩⟩⟩⟩⟩⟩⟩⟩⟩⟩⟩⟩⟩⟩⟩⟩⟩⟩⟩⟩⟩⟩⟩⟩⟩⟩⟩⟩⟩⟩⟩⟩⟩⟩⟩⟩⟩⟩⟩⟩⟩⟩⟩⟩⟩⟩⟩⟩⟩⟩⟩⟩⟩⟩⟩⟩⟩⟩⟩⟩⟩⟩
def fL_0 : List (Nat × Nat × Nat × Nat) := [(89, 7, 1, 0), (85, 4, 0, 2), (109, 4, 2, 0), (112, 1, 0, 0), (115, 1, 1, 0), (118, 1, 2, 0), (121, 1, 3, 0), (135, 1, 4, 2), (138, 1, 5, 2), (141, 1, 6, 2), (149, 1, 8, 2), (152, 1, 9, 2), (155, 1, 10, 2), (160, 1, 11, 2), (165, 1, 12, 2), (168, 1, 13, 2), (171, 1, 14, 2), (174, 1, 15, 2), (299, 8, 0, 0), (124, 8, 1, 0), (320, 8, 5, 2), (10, 9, 0, 1), (19, 9, 1, 0), (23, 9, 2, 0), (29, 9, 3, 1), (36, 9, 4, 1), (43, 9, 5, 1), (50, 9, 6, 1), (57, 9, 7, 1), (61, 9, 8, 1), (192, 9, 9, 0), (68, 9, 10, 1), (72, 9, 11, 1), (75, 9, 12, 1), (78, 9, 13, 0)]
theorem fL_0_ok (mi : aI) (h : iO mi = "FullHouse") : ∀ x ∈ fL_0, okF mi x.1 x.2.1 x.2.2.1 x.2.2.2 := by
  unfold okF
  rw [h]
  exact List.forall_mem_cons.mpr ⟨⟨_, rfl, cl_7, (by decide), gw_47, ⟨fun _ => rfl, fun h => absurd h (by decide)⟩⟩, List.forall_mem_cons.mpr ⟨⟨_, rfl, cl_4, (by decide), gw_69, ⟨fun h => absurd h (by decide), fun h => absurd h (by decide)⟩⟩, List.forall_mem_cons.mpr ⟨⟨_, rfl, cl_4, (by decide), gw_72, ⟨fun _ => rfl, fun h => absurd h (by decide)⟩⟩, List.forall_mem_cons.mpr ⟨⟨_, rfl, cl_1, (by decide), gw_90, ⟨fun _ => rfl, fun h => absurd h (by decide)⟩⟩, List.forall_mem_cons.mpr ⟨⟨_, rfl, cl_1, (by decide), gw_97, ⟨fun _ => rfl, fun h => absurd h (by decide)⟩⟩, List.forall_mem_cons.mpr ⟨⟨_, rfl, cl_1, (by decide), gw_103, ⟨fun _ => rfl, fun h => absurd h (by decide)⟩⟩, List.forall_mem_cons.mpr ⟨⟨_, rfl, cl_1, (by decide), gw_106, ⟨fun _ => rfl, fun h => absurd h (by decide)⟩⟩, List.forall_mem_cons.mpr ⟨⟨_, rfl, cl_1, (by decide), gw_111, ⟨fun h => absurd h (by decide), fun h => absurd h (by decide)⟩⟩, List.forall_mem_cons.mpr ⟨⟨_, rfl, cl_1, (by decide), gw_116, ⟨fun h => absurd h (by decide), fun h => absurd h (by decide)⟩⟩, List.forall_mem_cons.mpr ⟨⟨_, rfl, cl_1, (by decide), gw_120, ⟨fun h => absurd h (by decide), fun h => absurd h (by decide)⟩⟩, List.forall_mem_cons.mpr ⟨⟨_, rfl, cl_1, (by decide), gw_126, ⟨fun h => absurd h (by decide), fun h => absurd h (by decide)⟩⟩, List.forall_mem_cons.mpr ⟨⟨_, rfl, cl_1, (by decide), gw_129, ⟨fun h => absurd h (by decide), fun h => absurd h (by decide)⟩⟩, List.forall_mem_cons.mpr ⟨⟨_, rfl, cl_1, (by decide), gw_132, ⟨fun h => absurd h (by decide), fun h => absurd h (by decide)⟩⟩, List.forall_mem_cons.mpr ⟨⟨_, rfl, cl_1, (by decide), gw_136, ⟨fun h => absurd h (by decide), fun h => absurd h (by decide)⟩⟩, List.forall_mem_cons.mpr ⟨⟨_, rfl, cl_1, (by decide), gw_139, ⟨fun h => absurd h (by decide), fun h => absurd h (by decide)⟩⟩, List.forall_mem_cons.mpr ⟨⟨_, rfl, cl_1, (by decide), gw_142, ⟨fun h => absurd h (by decide), fun h => absurd h (by decide)⟩⟩, List.forall_mem_cons.mpr ⟨⟨_, rfl, cl_1, (by decide), gw_144, ⟨fun h => absurd h (by decide), fun h => absurd h (by decide)⟩⟩, List.forall_mem_cons.mpr ⟨⟨_, rfl, cl_1, (by decide), gw_147, ⟨fun h => absurd h (by decide), fun h => absurd h (by decide)⟩⟩, List.forall_mem_cons.mpr ⟨⟨_, rfl, cl_8, (by decide), gw_274, ⟨fun _ => rfl, fun h => absurd h (by decide)⟩⟩, List.forall_mem_cons.mpr ⟨⟨_, rfl, cl_8, (by decide), gw_276, ⟨fun _ => rfl, fun h => absurd h (by decide)⟩⟩, List.forall_mem_cons.mpr ⟨⟨_, rfl, cl_8, (by decide), gw_284, ⟨fun h => absurd h (by decide), fun h => absurd h (by decide)⟩⟩, List.forall_mem_cons.mpr ⟨⟨_, rfl, cl_9, (by decide), gw_350, ⟨fun h => absurd h (by decide), fun _ => rfl⟩⟩, List.forall_mem_cons.mpr ⟨⟨_, rfl, cl_9, (by decide), gw_351, ⟨fun _ => rfl, fun h => absurd h (by decide)⟩⟩, List.forall_mem_cons.mpr ⟨⟨_, rfl, cl_9, (by decide), gw_352, ⟨fun _ => rfl, fun h => absurd h (by decide)⟩⟩, List.forall_mem_cons.mpr ⟨⟨_, rfl, cl_9, (by decide), gw_353, ⟨fun h => absurd h (by decide), fun _ => rfl⟩⟩, List.forall_mem_cons.mpr ⟨⟨_, rfl, cl_9, (by decide), gw_354, ⟨fun h => absurd h (by decide), fun _ => rfl⟩⟩, List.forall_mem_cons.mpr ⟨⟨_, rfl, cl_9, (by decide), gw_355, ⟨fun h => absurd h (by decide), fun _ => rfl⟩⟩, List.forall_mem_cons.mpr ⟨⟨_, rfl, cl_9, (by decide), gw_356, ⟨fun h => absurd h (by decide), fun _ => rfl⟩⟩, List.forall_mem_cons.mpr ⟨⟨_, rfl, cl_9, (by decide), gw_357, ⟨fun h => absurd h (by decide), fun _ => rfl⟩⟩, List.forall_mem_cons.mpr ⟨⟨_, rfl, cl_9, (by decide), gw_358, ⟨fun h => absurd h (by decide), fun _ => rfl⟩⟩, List.forall_mem_cons.mpr ⟨⟨_, rfl, cl_9, (by decide), gw_359, ⟨fun _ => rfl, fun h => absurd h (by decide)⟩⟩, List.forall_mem_cons.mpr ⟨⟨_, rfl, cl_9, (by decide), gw_360, ⟨fun h => absurd h (by decide), fun _ => rfl⟩⟩, List.forall_mem_cons.mpr ⟨⟨_, rfl, cl_9, (by decide), gw_361, ⟨fun h => absurd h (by decide), fun _ => rfl⟩⟩, List.forall_mem_cons.mpr ⟨⟨_, rfl, cl_9, (by decide), gw_362, ⟨fun h => absurd h (by decide), fun _ => rfl⟩⟩, List.forall_mem_cons.mpr ⟨⟨_, rfl, cl_9, (by decide), gw_363, ⟨fun _ => rfl, fun h => absurd h (by decide)⟩⟩, fun _ h => absurd h List.not_mem_nil⟩⟩⟩⟩⟩⟩⟩⟩⟩⟩⟩⟩⟩⟩⟩⟩⟩⟩⟩⟩⟩⟩⟩⟩⟩⟩⟩⟩⟩⟩⟩⟩⟩⟩⟩
def fL_1 : List (Nat × Nat × Nat × Nat) := []
theorem fL_1_ok (mi : aI) (h : iO mi = "java/lang/Object") : ∀ x ∈ fL_1, okF mi x.1 x.2.1 x.2.2.1 x.2.2.2 := by
  unfold okF
  rw [h]
  exact fun _ h => absurd h List.not_mem_nil
def fL_2 : List (Nat × Nat × Nat × Nat) := [(37, 7, 3, 0), (157, 7, 4, 0), (12, 4, 0, 1), (27, 4, 1, 0), (31, 4, 2, 0), (77, 1, 0, 0), (102, 1, 1, 0), (127, 1, 2, 0), (134, 1, 3, 0), (144, 1, 6, 2), (148, 1, 7, 2)]
theorem fL_2_ok (mi : aI) (h : iO mi = "FullHouse$Reader") : ∀ x ∈ fL_2, okF mi x.1 x.2.1 x.2.2.1 x.2.2.2 := by
  unfold okF
  rw [h]
  exact List.forall_mem_cons.mpr ⟨⟨_, rfl, cl_7, (by decide), gw_49, ⟨fun _ => rfl, fun h => absurd h (by decide)⟩⟩, List.forall_mem_cons.mpr ⟨⟨_, rfl, cl_7, (by decide), gw_52, ⟨fun _ => rfl, fun h => absurd h (by decide)⟩⟩, List.forall_mem_cons.mpr ⟨⟨_, rfl, cl_4, (by decide), gw_68, ⟨fun h => absurd h (by decide), fun _ => rfl⟩⟩, List.forall_mem_cons.mpr ⟨⟨_, rfl, cl_4, (by decide), gw_70, ⟨fun _ => rfl, fun h => absurd h (by decide)⟩⟩, List.forall_mem_cons.mpr ⟨⟨_, rfl, cl_4, (by decide), gw_71, ⟨fun _ => rfl, fun h => absurd h (by decide)⟩⟩, List.forall_mem_cons.mpr ⟨⟨_, rfl, cl_1, (by decide), gw_89, ⟨fun _ => rfl, fun h => absurd h (by decide)⟩⟩, List.forall_mem_cons.mpr ⟨⟨_, rfl, cl_1, (by decide), gw_98, ⟨fun _ => rfl, fun h => absurd h (by decide)⟩⟩, List.forall_mem_cons.mpr ⟨⟨_, rfl, cl_1, (by decide), gw_104, ⟨fun _ => rfl, fun h => absurd h (by decide)⟩⟩, List.forall_mem_cons.mpr ⟨⟨_, rfl, cl_1, (by decide), gw_108, ⟨fun _ => rfl, fun h => absurd h (by decide)⟩⟩, List.forall_mem_cons.mpr ⟨⟨_, rfl, cl_1, (by decide), gw_122, ⟨fun h => absurd h (by decide), fun h => absurd h (by decide)⟩⟩, List.forall_mem_cons.mpr ⟨⟨_, rfl, cl_1, (by decide), gw_124, ⟨fun h => absurd h (by decide), fun h => absurd h (by decide)⟩⟩, fun _ h => absurd h List.not_mem_nil⟩⟩⟩⟩⟩⟩⟩⟩⟩⟩⟩
def fL_3 : List (Nat × Nat × Nat × Nat) := [(9, 7, 0, 1), (13, 7, 1, 0), (17, 7, 2, 0), (30, 7, 3, 0), (23, 7, 4, 0), (20, 7, 5, 0)]
theorem fL_3_ok (mi : aI) (h : iO mi = "FullHouse$Tokens") : ∀ x ∈ fL_3, okF mi x.1 x.2.1 x.2.2.1 x.2.2.2 := by
  unfold okF
  rw [h]
  exact List.forall_mem_cons.mpr ⟨⟨_, rfl, cl_7, (by decide), gw_45, ⟨fun h => absurd h (by decide), fun _ => rfl⟩⟩, List.forall_mem_cons.mpr ⟨⟨_, rfl, cl_7, (by decide), gw_46, ⟨fun _ => rfl, fun h => absurd h (by decide)⟩⟩, List.forall_mem_cons.mpr ⟨⟨_, rfl, cl_7, (by decide), gw_48, ⟨fun _ => rfl, fun h => absurd h (by decide)⟩⟩, List.forall_mem_cons.mpr ⟨⟨_, rfl, cl_7, (by decide), gw_50, ⟨fun _ => rfl, fun h => absurd h (by decide)⟩⟩, List.forall_mem_cons.mpr ⟨⟨_, rfl, cl_7, (by decide), gw_51, ⟨fun _ => rfl, fun h => absurd h (by decide)⟩⟩, List.forall_mem_cons.mpr ⟨⟨_, rfl, cl_7, (by decide), gw_53, ⟨fun _ => rfl, fun h => absurd h (by decide)⟩⟩, fun _ h => absurd h List.not_mem_nil⟩⟩⟩⟩⟩⟩
def fL_4 : List (Nat × Nat × Nat × Nat) := [(48, 1, 0, 0), (52, 1, 1, 0), (55, 1, 2, 0), (58, 1, 3, 0), (9, 1, 4, 1), (15, 1, 5, 1), (18, 1, 6, 1), (21, 1, 7, 1), (24, 1, 8, 1), (27, 1, 9, 1), (30, 1, 10, 1), (33, 1, 11, 1), (36, 1, 12, 1), (39, 1, 13, 1), (42, 1, 14, 1), (45, 1, 15, 1)]
theorem fL_4_ok (mi : aI) (h : iO mi = "FullHouse$House") : ∀ x ∈ fL_4, okF mi x.1 x.2.1 x.2.2.1 x.2.2.2 := by
  unfold okF
  rw [h]
  exact List.forall_mem_cons.mpr ⟨⟨_, rfl, cl_1, (by decide), gw_86, ⟨fun _ => rfl, fun h => absurd h (by decide)⟩⟩, List.forall_mem_cons.mpr ⟨⟨_, rfl, cl_1, (by decide), gw_93, ⟨fun _ => rfl, fun h => absurd h (by decide)⟩⟩, List.forall_mem_cons.mpr ⟨⟨_, rfl, cl_1, (by decide), gw_101, ⟨fun _ => rfl, fun h => absurd h (by decide)⟩⟩, List.forall_mem_cons.mpr ⟨⟨_, rfl, cl_1, (by decide), gw_105, ⟨fun _ => rfl, fun h => absurd h (by decide)⟩⟩, List.forall_mem_cons.mpr ⟨⟨_, rfl, cl_1, (by decide), gw_109, ⟨fun h => absurd h (by decide), fun _ => rfl⟩⟩, List.forall_mem_cons.mpr ⟨⟨_, rfl, cl_1, (by decide), gw_113, ⟨fun h => absurd h (by decide), fun _ => rfl⟩⟩, List.forall_mem_cons.mpr ⟨⟨_, rfl, cl_1, (by decide), gw_117, ⟨fun h => absurd h (by decide), fun _ => rfl⟩⟩, List.forall_mem_cons.mpr ⟨⟨_, rfl, cl_1, (by decide), gw_123, ⟨fun h => absurd h (by decide), fun _ => rfl⟩⟩, List.forall_mem_cons.mpr ⟨⟨_, rfl, cl_1, (by decide), gw_125, ⟨fun h => absurd h (by decide), fun _ => rfl⟩⟩, List.forall_mem_cons.mpr ⟨⟨_, rfl, cl_1, (by decide), gw_127, ⟨fun h => absurd h (by decide), fun _ => rfl⟩⟩, List.forall_mem_cons.mpr ⟨⟨_, rfl, cl_1, (by decide), gw_130, ⟨fun h => absurd h (by decide), fun _ => rfl⟩⟩, List.forall_mem_cons.mpr ⟨⟨_, rfl, cl_1, (by decide), gw_133, ⟨fun h => absurd h (by decide), fun _ => rfl⟩⟩, List.forall_mem_cons.mpr ⟨⟨_, rfl, cl_1, (by decide), gw_137, ⟨fun h => absurd h (by decide), fun _ => rfl⟩⟩, List.forall_mem_cons.mpr ⟨⟨_, rfl, cl_1, (by decide), gw_140, ⟨fun h => absurd h (by decide), fun _ => rfl⟩⟩, List.forall_mem_cons.mpr ⟨⟨_, rfl, cl_1, (by decide), gw_143, ⟨fun h => absurd h (by decide), fun _ => rfl⟩⟩, List.forall_mem_cons.mpr ⟨⟨_, rfl, cl_1, (by decide), gw_145, ⟨fun h => absurd h (by decide), fun _ => rfl⟩⟩, fun _ h => absurd h List.not_mem_nil⟩⟩⟩⟩⟩⟩⟩⟩⟩⟩⟩⟩⟩⟩⟩⟩
def fL_5 : List (Nat × Nat × Nat × Nat) := [(18, 1, 1, 0), (28, 1, 9, 2), (9, 6, 0, 1), (15, 6, 1, 1)]
theorem fL_5_ok (mi : aI) (h : iO mi = "FullHouse$Spans") : ∀ x ∈ fL_5, okF mi x.1 x.2.1 x.2.2.1 x.2.2.2 := by
  unfold okF
  rw [h]
  exact List.forall_mem_cons.mpr ⟨⟨_, rfl, cl_1, (by decide), gw_94, ⟨fun _ => rfl, fun h => absurd h (by decide)⟩⟩, List.forall_mem_cons.mpr ⟨⟨_, rfl, cl_1, (by decide), gw_128, ⟨fun h => absurd h (by decide), fun h => absurd h (by decide)⟩⟩, List.forall_mem_cons.mpr ⟨⟨_, rfl, cl_6, (by decide), gw_188, ⟨fun h => absurd h (by decide), fun _ => rfl⟩⟩, List.forall_mem_cons.mpr ⟨⟨_, rfl, cl_6, (by decide), gw_191, ⟨fun h => absurd h (by decide), fun _ => rfl⟩⟩, fun _ h => absurd h List.not_mem_nil⟩⟩⟩⟩
def fL_6 : List (Nat × Nat × Nat × Nat) := [(24, 1, 0, 0), (34, 1, 4, 2), (42, 6, 0, 2), (9, 3, 0, 1), (15, 3, 1, 1)]
theorem fL_6_ok (mi : aI) (h : iO mi = "FullHouse$Lefts") : ∀ x ∈ fL_6, okF mi x.1 x.2.1 x.2.2.1 x.2.2.2 := by
  unfold okF
  rw [h]
  exact List.forall_mem_cons.mpr ⟨⟨_, rfl, cl_1, (by decide), gw_87, ⟨fun _ => rfl, fun h => absurd h (by decide)⟩⟩, List.forall_mem_cons.mpr ⟨⟨_, rfl, cl_1, (by decide), gw_110, ⟨fun h => absurd h (by decide), fun h => absurd h (by decide)⟩⟩, List.forall_mem_cons.mpr ⟨⟨_, rfl, cl_6, (by decide), gw_189, ⟨fun h => absurd h (by decide), fun h => absurd h (by decide)⟩⟩, List.forall_mem_cons.mpr ⟨⟨_, rfl, cl_3, (by decide), gw_203, ⟨fun h => absurd h (by decide), fun _ => rfl⟩⟩, List.forall_mem_cons.mpr ⟨⟨_, rfl, cl_3, (by decide), gw_204, ⟨fun h => absurd h (by decide), fun _ => rfl⟩⟩, fun _ h => absurd h List.not_mem_nil⟩⟩⟩⟩⟩
def fL_7 : List (Nat × Nat × Nat × Nat) := [(30, 1, 0, 0), (36, 1, 1, 0), (50, 1, 4, 2), (47, 1, 6, 2), (39, 1, 11, 2), (103, 6, 0, 2), (11, 5, 0, 1), (15, 5, 1, 1), (18, 5, 2, 1), (74, 5, 3, 0), (61, 8, 1, 0), (66, 8, 4, 2), (71, 8, 5, 2)]
theorem fL_7_ok (mi : aI) (h : iO mi = "FullHouse$Rows") : ∀ x ∈ fL_7, okF mi x.1 x.2.1 x.2.2.1 x.2.2.2 := by
  unfold okF
  rw [h]
  exact List.forall_mem_cons.mpr ⟨⟨_, rfl, cl_1, (by decide), gw_92, ⟨fun _ => rfl, fun h => absurd h (by decide)⟩⟩, List.forall_mem_cons.mpr ⟨⟨_, rfl, cl_1, (by decide), gw_100, ⟨fun _ => rfl, fun h => absurd h (by decide)⟩⟩, List.forall_mem_cons.mpr ⟨⟨_, rfl, cl_1, (by decide), gw_112, ⟨fun h => absurd h (by decide), fun h => absurd h (by decide)⟩⟩, List.forall_mem_cons.mpr ⟨⟨_, rfl, cl_1, (by decide), gw_121, ⟨fun h => absurd h (by decide), fun h => absurd h (by decide)⟩⟩, List.forall_mem_cons.mpr ⟨⟨_, rfl, cl_1, (by decide), gw_135, ⟨fun h => absurd h (by decide), fun h => absurd h (by decide)⟩⟩, List.forall_mem_cons.mpr ⟨⟨_, rfl, cl_6, (by decide), gw_190, ⟨fun h => absurd h (by decide), fun h => absurd h (by decide)⟩⟩, List.forall_mem_cons.mpr ⟨⟨_, rfl, cl_5, (by decide), gw_217, ⟨fun h => absurd h (by decide), fun _ => rfl⟩⟩, List.forall_mem_cons.mpr ⟨⟨_, rfl, cl_5, (by decide), gw_218, ⟨fun h => absurd h (by decide), fun _ => rfl⟩⟩, List.forall_mem_cons.mpr ⟨⟨_, rfl, cl_5, (by decide), gw_219, ⟨fun h => absurd h (by decide), fun _ => rfl⟩⟩, List.forall_mem_cons.mpr ⟨⟨_, rfl, cl_5, (by decide), gw_220, ⟨fun _ => rfl, fun h => absurd h (by decide)⟩⟩, List.forall_mem_cons.mpr ⟨⟨_, rfl, cl_8, (by decide), gw_277, ⟨fun _ => rfl, fun h => absurd h (by decide)⟩⟩, List.forall_mem_cons.mpr ⟨⟨_, rfl, cl_8, (by decide), gw_281, ⟨fun h => absurd h (by decide), fun h => absurd h (by decide)⟩⟩, List.forall_mem_cons.mpr ⟨⟨_, rfl, cl_8, (by decide), gw_283, ⟨fun h => absurd h (by decide), fun h => absurd h (by decide)⟩⟩, fun _ h => absurd h List.not_mem_nil⟩⟩⟩⟩⟩⟩⟩⟩⟩⟩⟩⟩⟩
def fL_8 : List (Nat × Nat × Nat × Nat) := [(92, 1, 1, 0), (58, 1, 2, 0), (64, 1, 6, 2), (95, 1, 10, 2), (71, 1, 12, 2), (78, 1, 13, 2), (105, 1, 15, 2), (12, 2, 0, 1), (18, 2, 1, 1), (22, 2, 2, 0), (26, 2, 3, 0)]
theorem fL_8_ok (mi : aI) (h : iO mi = "FullHouse$Learning") : ∀ x ∈ fL_8, okF mi x.1 x.2.1 x.2.2.1 x.2.2.2 := by
  unfold okF
  rw [h]
  exact List.forall_mem_cons.mpr ⟨⟨_, rfl, cl_1, (by decide), gw_99, ⟨fun _ => rfl, fun h => absurd h (by decide)⟩⟩, List.forall_mem_cons.mpr ⟨⟨_, rfl, cl_1, (by decide), gw_102, ⟨fun _ => rfl, fun h => absurd h (by decide)⟩⟩, List.forall_mem_cons.mpr ⟨⟨_, rfl, cl_1, (by decide), gw_119, ⟨fun h => absurd h (by decide), fun h => absurd h (by decide)⟩⟩, List.forall_mem_cons.mpr ⟨⟨_, rfl, cl_1, (by decide), gw_131, ⟨fun h => absurd h (by decide), fun h => absurd h (by decide)⟩⟩, List.forall_mem_cons.mpr ⟨⟨_, rfl, cl_1, (by decide), gw_138, ⟨fun h => absurd h (by decide), fun h => absurd h (by decide)⟩⟩, List.forall_mem_cons.mpr ⟨⟨_, rfl, cl_1, (by decide), gw_141, ⟨fun h => absurd h (by decide), fun h => absurd h (by decide)⟩⟩, List.forall_mem_cons.mpr ⟨⟨_, rfl, cl_1, (by decide), gw_146, ⟨fun h => absurd h (by decide), fun h => absurd h (by decide)⟩⟩, List.forall_mem_cons.mpr ⟨⟨_, rfl, cl_2, (by decide), gw_238, ⟨fun h => absurd h (by decide), fun _ => rfl⟩⟩, List.forall_mem_cons.mpr ⟨⟨_, rfl, cl_2, (by decide), gw_239, ⟨fun h => absurd h (by decide), fun _ => rfl⟩⟩, List.forall_mem_cons.mpr ⟨⟨_, rfl, cl_2, (by decide), gw_240, ⟨fun _ => rfl, fun h => absurd h (by decide)⟩⟩, List.forall_mem_cons.mpr ⟨⟨_, rfl, cl_2, (by decide), gw_241, ⟨fun _ => rfl, fun h => absurd h (by decide)⟩⟩, fun _ h => absurd h List.not_mem_nil⟩⟩⟩⟩⟩⟩⟩⟩⟩⟩⟩
def fL_9 : List (Nat × Nat × Nat × Nat) := [(30, 1, 0, 0), (54, 1, 1, 0), (50, 1, 5, 2), (71, 1, 11, 2), (9, 0, 0, 1), (15, 0, 1, 1), (18, 0, 2, 0)]
theorem fL_9_ok (mi : aI) (h : iO mi = "FullHouse$Guest") : ∀ x ∈ fL_9, okF mi x.1 x.2.1 x.2.2.1 x.2.2.2 := by
  unfold okF
  rw [h]
  exact List.forall_mem_cons.mpr ⟨⟨_, rfl, cl_1, (by decide), gw_88, ⟨fun _ => rfl, fun h => absurd h (by decide)⟩⟩, List.forall_mem_cons.mpr ⟨⟨_, rfl, cl_1, (by decide), gw_95, ⟨fun _ => rfl, fun h => absurd h (by decide)⟩⟩, List.forall_mem_cons.mpr ⟨⟨_, rfl, cl_1, (by decide), gw_114, ⟨fun h => absurd h (by decide), fun h => absurd h (by decide)⟩⟩, List.forall_mem_cons.mpr ⟨⟨_, rfl, cl_1, (by decide), gw_134, ⟨fun h => absurd h (by decide), fun h => absurd h (by decide)⟩⟩, List.forall_mem_cons.mpr ⟨⟨_, rfl, cl_0, (by decide), gw_257, ⟨fun h => absurd h (by decide), fun _ => rfl⟩⟩, List.forall_mem_cons.mpr ⟨⟨_, rfl, cl_0, (by decide), gw_258, ⟨fun h => absurd h (by decide), fun _ => rfl⟩⟩, List.forall_mem_cons.mpr ⟨⟨_, rfl, cl_0, (by decide), gw_259, ⟨fun _ => rfl, fun h => absurd h (by decide)⟩⟩, fun _ h => absurd h List.not_mem_nil⟩⟩⟩⟩⟩⟩⟩
def fL_10 : List (Nat × Nat × Nat × Nat) := [(81, 1, 0, 0), (59, 1, 1, 0), (70, 1, 3, 0), (84, 1, 5, 2), (38, 1, 6, 2), (21, 8, 0, 0), (25, 8, 1, 0), (29, 8, 2, 0), (9, 8, 3, 1), (15, 8, 4, 1), (18, 8, 5, 1)]
theorem fL_10_ok (mi : aI) (h : iO mi = "FullHouse$Weeks") : ∀ x ∈ fL_10, okF mi x.1 x.2.1 x.2.2.1 x.2.2.2 := by
  unfold okF
  rw [h]
  exact List.forall_mem_cons.mpr ⟨⟨_, rfl, cl_1, (by decide), gw_91, ⟨fun _ => rfl, fun h => absurd h (by decide)⟩⟩, List.forall_mem_cons.mpr ⟨⟨_, rfl, cl_1, (by decide), gw_96, ⟨fun _ => rfl, fun h => absurd h (by decide)⟩⟩, List.forall_mem_cons.mpr ⟨⟨_, rfl, cl_1, (by decide), gw_107, ⟨fun _ => rfl, fun h => absurd h (by decide)⟩⟩, List.forall_mem_cons.mpr ⟨⟨_, rfl, cl_1, (by decide), gw_115, ⟨fun h => absurd h (by decide), fun h => absurd h (by decide)⟩⟩, List.forall_mem_cons.mpr ⟨⟨_, rfl, cl_1, (by decide), gw_118, ⟨fun h => absurd h (by decide), fun h => absurd h (by decide)⟩⟩, List.forall_mem_cons.mpr ⟨⟨_, rfl, cl_8, (by decide), gw_273, ⟨fun _ => rfl, fun h => absurd h (by decide)⟩⟩, List.forall_mem_cons.mpr ⟨⟨_, rfl, cl_8, (by decide), gw_275, ⟨fun _ => rfl, fun h => absurd h (by decide)⟩⟩, List.forall_mem_cons.mpr ⟨⟨_, rfl, cl_8, (by decide), gw_278, ⟨fun _ => rfl, fun h => absurd h (by decide)⟩⟩, List.forall_mem_cons.mpr ⟨⟨_, rfl, cl_8, (by decide), gw_279, ⟨fun h => absurd h (by decide), fun _ => rfl⟩⟩, List.forall_mem_cons.mpr ⟨⟨_, rfl, cl_8, (by decide), gw_280, ⟨fun h => absurd h (by decide), fun _ => rfl⟩⟩, List.forall_mem_cons.mpr ⟨⟨_, rfl, cl_8, (by decide), gw_282, ⟨fun h => absurd h (by decide), fun _ => rfl⟩⟩, fun _ h => absurd h List.not_mem_nil⟩⟩⟩⟩⟩⟩⟩⟩⟩⟩⟩
def fL_11 : List (Nat × Nat × Nat × Nat) := []
theorem fL_11_ok (mi : aI) (h : iO mi = "java/util/Arrays") : ∀ x ∈ fL_11, okF mi x.1 x.2.1 x.2.2.1 x.2.2.2 := by
  unfold okF
  rw [h]
  exact fun _ h => absurd h List.not_mem_nil
def fL_12 : List (Nat × Nat × Nat × Nat) := []
theorem fL_12_ok (mi : aI) (h : iO mi = "java/lang/Integer") : ∀ x ∈ fL_12, okF mi x.1 x.2.1 x.2.2.1 x.2.2.2 := by
  unfold okF
  rw [h]
  exact fun _ h => absurd h List.not_mem_nil
def fL_13 : List (Nat × Nat × Nat × Nat) := []
theorem fL_13_ok (mi : aI) (h : iO mi = "FullHouseLaw") : ∀ x ∈ fL_13, okF mi x.1 x.2.1 x.2.2.1 x.2.2.2 := by
  unfold okF
  rw [h]
  exact fun _ h => absurd h List.not_mem_nil
def fL_14 : List (Nat × Nat × Nat × Nat) := []
theorem fL_14_ok (mi : aI) (h : iO mi = "java/lang/Throwable") : ∀ x ∈ fL_14, okF mi x.1 x.2.1 x.2.2.1 x.2.2.2 := by
  unfold okF
  rw [h]
  exact fun _ h => absurd h List.not_mem_nil
def fL_15 : List (Nat × Nat × Nat × Nat) := []
theorem fL_15_ok (mi : aI) (h : iO mi = "java/lang/IllegalArgumentException") : ∀ x ∈ fL_15, okF mi x.1 x.2.1 x.2.2.1 x.2.2.2 := by
  unfold okF
  rw [h]
  exact fun _ h => absurd h List.not_mem_nil
def fL_16 : List (Nat × Nat × Nat × Nat) := []
theorem fL_16_ok (mi : aI) (h : iO mi = "java/lang/RuntimeException") : ∀ x ∈ fL_16, okF mi x.1 x.2.1 x.2.2.1 x.2.2.2 := by
  unfold okF
  rw [h]
  exact fun _ h => absurd h List.not_mem_nil
def fL_17 : List (Nat × Nat × Nat × Nat) := []
theorem fL_17_ok (mi : aI) (h : iO mi = "java/lang/Exception") : ∀ x ∈ fL_17, okF mi x.1 x.2.1 x.2.2.1 x.2.2.2 := by
  unfold okF
  rw [h]
  exact fun _ h => absurd h List.not_mem_nil
def fL_18 : List (Nat × Nat × Nat × Nat) := []
theorem fL_18_ok (mi : aI) (h : iO mi = "java/lang/String") : ∀ x ∈ fL_18, okF mi x.1 x.2.1 x.2.2.1 x.2.2.2 := by
  unfold okF
  rw [h]
  exact fun _ h => absurd h List.not_mem_nil
def fL_19 : List (Nat × Nat × Nat × Nat) := []
theorem fL_19_ok (mi : aI) (h : iO mi = "java/lang/StringLatin1") : ∀ x ∈ fL_19, okF mi x.1 x.2.1 x.2.2.1 x.2.2.2 := by
  unfold okF
  rw [h]
  exact fun _ h => absurd h List.not_mem_nil
def fL_20 : List (Nat × Nat × Nat × Nat) := []
theorem fL_20_ok (mi : aI) (h : iO mi = "jdk/internal/util/Preconditions") : ∀ x ∈ fL_20, okF mi x.1 x.2.1 x.2.2.1 x.2.2.2 := by
  unfold okF
  rw [h]
  exact fun _ h => absurd h List.not_mem_nil
def fL_21 : List (Nat × Nat × Nat × Nat) := []
theorem fL_21_ok (mi : aI) (h : iO mi = "java/lang/StringUTF16") : ∀ x ∈ fL_21, okF mi x.1 x.2.1 x.2.2.1 x.2.2.2 := by
  unfold okF
  rw [h]
  exact fun _ h => absurd h List.not_mem_nil
def fL_22 : List (Nat × Nat × Nat × Nat) := []
theorem fL_22_ok (mi : aI) (h : iO mi = "java/lang/Math") : ∀ x ∈ fL_22, okF mi x.1 x.2.1 x.2.2.1 x.2.2.2 := by
  unfold okF
  rw [h]
  exact fun _ h => absurd h List.not_mem_nil
def fL_23 : List (Nat × Nat × Nat × Nat) := []
theorem fL_23_ok (mi : aI) (h : iO mi = "java/util/NoSuchElementException") : ∀ x ∈ fL_23, okF mi x.1 x.2.1 x.2.2.1 x.2.2.2 := by
  unfold okF
  rw [h]
  exact fun _ h => absurd h List.not_mem_nil
def fL_24 : List (Nat × Nat × Nat × Nat) := [(120, 10, 0, 0), (240, 10, 1, 0), (243, 10, 2, 0), (246, 10, 3, 0), (249, 10, 4, 0), (7, 10, 5, 1), (13, 10, 6, 1), (16, 10, 7, 1), (19, 10, 8, 1), (22, 10, 9, 1), (25, 10, 10, 1), (28, 10, 11, 1), (123, 10, 12, 0), (169, 10, 13, 0), (31, 10, 14, 0), (35, 10, 15, 1), (130, 10, 16, 0), (133, 10, 17, 0), (150, 10, 18, 0), (140, 10, 19, 0), (160, 10, 20, 0), (147, 10, 21, 0), (143, 10, 22, 0), (182, 10, 23, 0), (195, 10, 24, 0), (204, 10, 25, 0), (226, 10, 26, 0), (192, 10, 27, 0), (222, 10, 28, 0), (38, 10, 29, 1), (41, 10, 30, 1), (44, 10, 31, 1), (47, 10, 32, 1), (50, 10, 33, 1), (53, 10, 34, 1), (201, 10, 35, 0), (207, 10, 36, 0), (56, 10, 37, 1), (59, 10, 38, 1), (62, 10, 39, 1), (65, 10, 40, 1), (68, 10, 41, 1), (71, 10, 42, 1), (74, 10, 43, 1), (77, 10, 44, 1), (256, 10, 45, 0), (298, 10, 46, 0), (80, 10, 47, 1), (83, 10, 48, 1), (87, 10, 49, 1), (90, 10, 50, 1), (93, 10, 51, 0), (348, 10, 52, 0), (96, 10, 53, 1), (99, 10, 54, 1), (102, 10, 55, 1), (105, 10, 56, 1), (259, 10, 57, 0), (365, 10, 58, 0), (368, 10, 59, 0), (108, 10, 60, 1), (111, 10, 61, 1), (114, 10, 62, 1), (117, 10, 63, 1)]
theorem fL_24_ok (mi : aI) (h : iO mi = "FullHouseModel") : ∀ x ∈ fL_24, okF mi x.1 x.2.1 x.2.2.1 x.2.2.2 := by
  unfold okF
  rw [h]
  exact List.forall_mem_cons.mpr ⟨⟨_, rfl, cl_10, (by decide), gw_1086, ⟨fun _ => rfl, fun h => absurd h (by decide)⟩⟩, List.forall_mem_cons.mpr ⟨⟨_, rfl, cl_10, (by decide), gw_1087, ⟨fun _ => rfl, fun h => absurd h (by decide)⟩⟩, List.forall_mem_cons.mpr ⟨⟨_, rfl, cl_10, (by decide), gw_1088, ⟨fun _ => rfl, fun h => absurd h (by decide)⟩⟩, List.forall_mem_cons.mpr ⟨⟨_, rfl, cl_10, (by decide), gw_1089, ⟨fun _ => rfl, fun h => absurd h (by decide)⟩⟩, List.forall_mem_cons.mpr ⟨⟨_, rfl, cl_10, (by decide), gw_1090, ⟨fun _ => rfl, fun h => absurd h (by decide)⟩⟩, List.forall_mem_cons.mpr ⟨⟨_, rfl, cl_10, (by decide), gw_1091, ⟨fun h => absurd h (by decide), fun _ => rfl⟩⟩, List.forall_mem_cons.mpr ⟨⟨_, rfl, cl_10, (by decide), gw_1092, ⟨fun h => absurd h (by decide), fun _ => rfl⟩⟩, List.forall_mem_cons.mpr ⟨⟨_, rfl, cl_10, (by decide), gw_1093, ⟨fun h => absurd h (by decide), fun _ => rfl⟩⟩, List.forall_mem_cons.mpr ⟨⟨_, rfl, cl_10, (by decide), gw_1094, ⟨fun h => absurd h (by decide), fun _ => rfl⟩⟩, List.forall_mem_cons.mpr ⟨⟨_, rfl, cl_10, (by decide), gw_1095, ⟨fun h => absurd h (by decide), fun _ => rfl⟩⟩, List.forall_mem_cons.mpr ⟨⟨_, rfl, cl_10, (by decide), gw_1096, ⟨fun h => absurd h (by decide), fun _ => rfl⟩⟩, List.forall_mem_cons.mpr ⟨⟨_, rfl, cl_10, (by decide), gw_1097, ⟨fun h => absurd h (by decide), fun _ => rfl⟩⟩, List.forall_mem_cons.mpr ⟨⟨_, rfl, cl_10, (by decide), gw_1098, ⟨fun _ => rfl, fun h => absurd h (by decide)⟩⟩, List.forall_mem_cons.mpr ⟨⟨_, rfl, cl_10, (by decide), gw_1099, ⟨fun _ => rfl, fun h => absurd h (by decide)⟩⟩, List.forall_mem_cons.mpr ⟨⟨_, rfl, cl_10, (by decide), gw_1100, ⟨fun _ => rfl, fun h => absurd h (by decide)⟩⟩, List.forall_mem_cons.mpr ⟨⟨_, rfl, cl_10, (by decide), gw_1101, ⟨fun h => absurd h (by decide), fun _ => rfl⟩⟩, List.forall_mem_cons.mpr ⟨⟨_, rfl, cl_10, (by decide), gw_1102, ⟨fun _ => rfl, fun h => absurd h (by decide)⟩⟩, List.forall_mem_cons.mpr ⟨⟨_, rfl, cl_10, (by decide), gw_1103, ⟨fun _ => rfl, fun h => absurd h (by decide)⟩⟩, List.forall_mem_cons.mpr ⟨⟨_, rfl, cl_10, (by decide), gw_1104, ⟨fun _ => rfl, fun h => absurd h (by decide)⟩⟩, List.forall_mem_cons.mpr ⟨⟨_, rfl, cl_10, (by decide), gw_1105, ⟨fun _ => rfl, fun h => absurd h (by decide)⟩⟩, List.forall_mem_cons.mpr ⟨⟨_, rfl, cl_10, (by decide), gw_1106, ⟨fun _ => rfl, fun h => absurd h (by decide)⟩⟩, List.forall_mem_cons.mpr ⟨⟨_, rfl, cl_10, (by decide), gw_1107, ⟨fun _ => rfl, fun h => absurd h (by decide)⟩⟩, List.forall_mem_cons.mpr ⟨⟨_, rfl, cl_10, (by decide), gw_1108, ⟨fun _ => rfl, fun h => absurd h (by decide)⟩⟩, List.forall_mem_cons.mpr ⟨⟨_, rfl, cl_10, (by decide), gw_1109, ⟨fun _ => rfl, fun h => absurd h (by decide)⟩⟩, List.forall_mem_cons.mpr ⟨⟨_, rfl, cl_10, (by decide), gw_1110, ⟨fun _ => rfl, fun h => absurd h (by decide)⟩⟩, List.forall_mem_cons.mpr ⟨⟨_, rfl, cl_10, (by decide), gw_1111, ⟨fun _ => rfl, fun h => absurd h (by decide)⟩⟩, List.forall_mem_cons.mpr ⟨⟨_, rfl, cl_10, (by decide), gw_1112, ⟨fun _ => rfl, fun h => absurd h (by decide)⟩⟩, List.forall_mem_cons.mpr ⟨⟨_, rfl, cl_10, (by decide), gw_1113, ⟨fun _ => rfl, fun h => absurd h (by decide)⟩⟩, List.forall_mem_cons.mpr ⟨⟨_, rfl, cl_10, (by decide), gw_1114, ⟨fun _ => rfl, fun h => absurd h (by decide)⟩⟩, List.forall_mem_cons.mpr ⟨⟨_, rfl, cl_10, (by decide), gw_1115, ⟨fun h => absurd h (by decide), fun _ => rfl⟩⟩, List.forall_mem_cons.mpr ⟨⟨_, rfl, cl_10, (by decide), gw_1116, ⟨fun h => absurd h (by decide), fun _ => rfl⟩⟩, List.forall_mem_cons.mpr ⟨⟨_, rfl, cl_10, (by decide), gw_1117, ⟨fun h => absurd h (by decide), fun _ => rfl⟩⟩, List.forall_mem_cons.mpr ⟨⟨_, rfl, cl_10, (by decide), gw_1118, ⟨fun h => absurd h (by decide), fun _ => rfl⟩⟩, List.forall_mem_cons.mpr ⟨⟨_, rfl, cl_10, (by decide), gw_1119, ⟨fun h => absurd h (by decide), fun _ => rfl⟩⟩, List.forall_mem_cons.mpr ⟨⟨_, rfl, cl_10, (by decide), gw_1120, ⟨fun h => absurd h (by decide), fun _ => rfl⟩⟩, List.forall_mem_cons.mpr ⟨⟨_, rfl, cl_10, (by decide), gw_1121, ⟨fun _ => rfl, fun h => absurd h (by decide)⟩⟩, List.forall_mem_cons.mpr ⟨⟨_, rfl, cl_10, (by decide), gw_1122, ⟨fun _ => rfl, fun h => absurd h (by decide)⟩⟩, List.forall_mem_cons.mpr ⟨⟨_, rfl, cl_10, (by decide), gw_1123, ⟨fun h => absurd h (by decide), fun _ => rfl⟩⟩, List.forall_mem_cons.mpr ⟨⟨_, rfl, cl_10, (by decide), gw_1124, ⟨fun h => absurd h (by decide), fun _ => rfl⟩⟩, List.forall_mem_cons.mpr ⟨⟨_, rfl, cl_10, (by decide), gw_1125, ⟨fun h => absurd h (by decide), fun _ => rfl⟩⟩, List.forall_mem_cons.mpr ⟨⟨_, rfl, cl_10, (by decide), gw_1126, ⟨fun h => absurd h (by decide), fun _ => rfl⟩⟩, List.forall_mem_cons.mpr ⟨⟨_, rfl, cl_10, (by decide), gw_1127, ⟨fun h => absurd h (by decide), fun _ => rfl⟩⟩, List.forall_mem_cons.mpr ⟨⟨_, rfl, cl_10, (by decide), gw_1128, ⟨fun h => absurd h (by decide), fun _ => rfl⟩⟩, List.forall_mem_cons.mpr ⟨⟨_, rfl, cl_10, (by decide), gw_1129, ⟨fun h => absurd h (by decide), fun _ => rfl⟩⟩, List.forall_mem_cons.mpr ⟨⟨_, rfl, cl_10, (by decide), gw_1130, ⟨fun h => absurd h (by decide), fun _ => rfl⟩⟩, List.forall_mem_cons.mpr ⟨⟨_, rfl, cl_10, (by decide), gw_1131, ⟨fun _ => rfl, fun h => absurd h (by decide)⟩⟩, List.forall_mem_cons.mpr ⟨⟨_, rfl, cl_10, (by decide), gw_1132, ⟨fun _ => rfl, fun h => absurd h (by decide)⟩⟩, List.forall_mem_cons.mpr ⟨⟨_, rfl, cl_10, (by decide), gw_1133, ⟨fun h => absurd h (by decide), fun _ => rfl⟩⟩, List.forall_mem_cons.mpr ⟨⟨_, rfl, cl_10, (by decide), gw_1134, ⟨fun h => absurd h (by decide), fun _ => rfl⟩⟩, List.forall_mem_cons.mpr ⟨⟨_, rfl, cl_10, (by decide), gw_1135, ⟨fun h => absurd h (by decide), fun _ => rfl⟩⟩, List.forall_mem_cons.mpr ⟨⟨_, rfl, cl_10, (by decide), gw_1136, ⟨fun h => absurd h (by decide), fun _ => rfl⟩⟩, List.forall_mem_cons.mpr ⟨⟨_, rfl, cl_10, (by decide), gw_1137, ⟨fun _ => rfl, fun h => absurd h (by decide)⟩⟩, List.forall_mem_cons.mpr ⟨⟨_, rfl, cl_10, (by decide), gw_1138, ⟨fun _ => rfl, fun h => absurd h (by decide)⟩⟩, List.forall_mem_cons.mpr ⟨⟨_, rfl, cl_10, (by decide), gw_1139, ⟨fun h => absurd h (by decide), fun _ => rfl⟩⟩, List.forall_mem_cons.mpr ⟨⟨_, rfl, cl_10, (by decide), gw_1140, ⟨fun h => absurd h (by decide), fun _ => rfl⟩⟩, List.forall_mem_cons.mpr ⟨⟨_, rfl, cl_10, (by decide), gw_1141, ⟨fun h => absurd h (by decide), fun _ => rfl⟩⟩, List.forall_mem_cons.mpr ⟨⟨_, rfl, cl_10, (by decide), gw_1142, ⟨fun h => absurd h (by decide), fun _ => rfl⟩⟩, List.forall_mem_cons.mpr ⟨⟨_, rfl, cl_10, (by decide), gw_1143, ⟨fun _ => rfl, fun h => absurd h (by decide)⟩⟩, List.forall_mem_cons.mpr ⟨⟨_, rfl, cl_10, (by decide), gw_1144, ⟨fun _ => rfl, fun h => absurd h (by decide)⟩⟩, List.forall_mem_cons.mpr ⟨⟨_, rfl, cl_10, (by decide), gw_1145, ⟨fun _ => rfl, fun h => absurd h (by decide)⟩⟩, List.forall_mem_cons.mpr ⟨⟨_, rfl, cl_10, (by decide), gw_1146, ⟨fun h => absurd h (by decide), fun _ => rfl⟩⟩, List.forall_mem_cons.mpr ⟨⟨_, rfl, cl_10, (by decide), gw_1147, ⟨fun h => absurd h (by decide), fun _ => rfl⟩⟩, List.forall_mem_cons.mpr ⟨⟨_, rfl, cl_10, (by decide), gw_1148, ⟨fun h => absurd h (by decide), fun _ => rfl⟩⟩, List.forall_mem_cons.mpr ⟨⟨_, rfl, cl_10, (by decide), gw_1149, ⟨fun h => absurd h (by decide), fun _ => rfl⟩⟩, fun _ h => absurd h List.not_mem_nil⟩⟩⟩⟩⟩⟩⟩⟩⟩⟩⟩⟩⟩⟩⟩⟩⟩⟩⟩⟩⟩⟩⟩⟩⟩⟩⟩⟩⟩⟩⟩⟩⟩⟩⟩⟩⟩⟩⟩⟩⟩⟩⟩⟩⟩⟩⟩⟩⟩⟩⟩⟩⟩⟩⟩⟩⟩⟩⟩⟩⟩⟩⟩⟩
def mL_0 : List (Nat × Nat × Nat × Nat) := [(1, 0, 4, 0), (9, 2, 3, 0), (18, 4, 3, 0), (28, 5, 3, 0), (35, 6, 3, 0), (42, 7, 3, 0), (49, 8, 3, 0), (56, 9, 3, 0), (67, 10, 3, 0), (82, 11, 0, 0), (94, 25, 0, 1), (102, 41, 2, 1), (105, 45, 0, 2), (131, 87, 2, 1), (132, 90, 0, 1), (146, 93, 0, 1), (179, 100, 0, 1), (182, 101, 0, 3), (188, 108, 1, 1), (195, 109, 1, 1), (200, 112, 1, 2), (204, 115, 0, 1), (208, 118, 0, 2), (211, 28, 0, 1), (215, 29, 0, 1), (218, 122, 0, 2), (221, 125, 0, 1), (225, 126, 0, 1), (228, 18, 0, 0), (232, 31, 0, 0), (236, 119, 0, 2), (240, 127, 0, 0), (245, 130, 0, 3), (249, 131, 0, 3), (252, 136, 0, 2), (257, 21, 1, 1), (262, 19, 0, 4), (271, 140, 0, 1), (274, 141, 1, 2), (279, 145, 0, 4), (293, 34, 0, 2), (303, 157, 0, 3), (309, 165, 0, 1), (312, 166, 0, 2), (317, 167, 0, 2), (323, 36, 0, 1), (327, 12, 1, 2), (333, 13, 0, 0), (336, 14, 0, 1), (340, 16, 0, 3), (343, 20, 0, 1), (346, 22, 0, 0), (349, 23, 0, 0), (354, 32, 0, 0), (359, 15, 0, 1)]
theorem mp_0_1 (mi mj : aI) (h : iO mi = "FullHouse") (cn : Nat) : okM mi mj 1 4 0 cn := by
  unfold okM
  rw [h]
  exact ⟨fun h => absurd h (by decide), fun h => absurd h (by decide), fun h => absurd h (by decide), fun h => absurd h (by decide), fun _ => ⟨gw_30, gw_31, gw_32⟩, fun h => absurd h (by decide), fun h => absurd h (by decide)⟩
theorem mp_0_9 (mi : aI) (h : iO mi = "FullHouse") : okM mi mI_2 9 3 0 4 := by
  unfold okM cV cS cI cN
  rw [h]
  exact ⟨fun h => absurd h (by decide), fun h => absurd h (by decide), fun h => absurd h (by decide), fun _ => ⟨⟨⟨_, List.mem_of_getElem? (i := 0) rfl⟩, gw_36, ⟨gw_2, gw_37⟩, rfl, rfl⟩, ⟨by decide +kernel, by decide +kernel, by decide +kernel⟩, ⟨by decide +kernel, rfl, rfl⟩⟩, fun h => absurd h (by decide), fun h => absurd h (by decide), fun h => absurd h (by decide)⟩
theorem mp_0_18 (mi : aI) (h : iO mi = "FullHouse") : okM mi mI_4 18 3 0 1 := by
  unfold okM cV cS cI cN
  rw [h]
  exact ⟨fun h => absurd h (by decide), fun h => absurd h (by decide), fun h => absurd h (by decide), fun _ => ⟨⟨⟨_, List.mem_of_getElem? (i := 2) rfl⟩, gw_83, ⟨gw_4, gw_84⟩, rfl, rfl⟩, ⟨by decide +kernel, by decide +kernel, by decide +kernel⟩, ⟨by decide +kernel, rfl, rfl⟩⟩, fun h => absurd h (by decide), fun h => absurd h (by decide), fun h => absurd h (by decide)⟩
theorem mp_0_28 (mi : aI) (h : iO mi = "FullHouse") : okM mi mI_5 28 3 0 6 := by
  unfold okM cV cS cI cN
  rw [h]
  exact ⟨fun h => absurd h (by decide), fun h => absurd h (by decide), fun h => absurd h (by decide), fun _ => ⟨⟨⟨_, List.mem_of_getElem? (i := 3) rfl⟩, gw_185, ⟨gw_5, gw_186⟩, rfl, rfl⟩, ⟨by decide +kernel, by decide +kernel, by decide +kernel⟩, ⟨by decide +kernel, rfl, rfl⟩⟩, fun h => absurd h (by decide), fun h => absurd h (by decide), fun h => absurd h (by decide)⟩
theorem mp_0_35 (mi : aI) (h : iO mi = "FullHouse") : okM mi mI_6 35 3 0 3 := by
  unfold okM cV cS cI cN
  rw [h]
  exact ⟨fun h => absurd h (by decide), fun h => absurd h (by decide), fun h => absurd h (by decide), fun _ => ⟨⟨⟨_, List.mem_of_getElem? (i := 4) rfl⟩, gw_200, ⟨gw_6, gw_201⟩, rfl, rfl⟩, ⟨by decide +kernel, by decide +kernel, by decide +kernel⟩, ⟨by decide +kernel, rfl, rfl⟩⟩, fun h => absurd h (by decide), fun h => absurd h (by decide), fun h => absurd h (by decide)⟩
theorem mp_0_42 (mi : aI) (h : iO mi = "FullHouse") : okM mi mI_7 42 3 0 5 := by
  unfold okM cV cS cI cN
  rw [h]
  exact ⟨fun h => absurd h (by decide), fun h => absurd h (by decide), fun h => absurd h (by decide), fun _ => ⟨⟨⟨_, List.mem_of_getElem? (i := 5) rfl⟩, gw_214, ⟨gw_7, gw_215⟩, rfl, rfl⟩, ⟨by decide +kernel, by decide +kernel, by decide +kernel⟩, ⟨by decide +kernel, rfl, rfl⟩⟩, fun h => absurd h (by decide), fun h => absurd h (by decide), fun h => absurd h (by decide)⟩
theorem mp_0_49 (mi : aI) (h : iO mi = "FullHouse") : okM mi mI_8 49 3 0 2 := by
  unfold okM cV cS cI cN
  rw [h]
  exact ⟨fun h => absurd h (by decide), fun h => absurd h (by decide), fun h => absurd h (by decide), fun _ => ⟨⟨⟨_, List.mem_of_getElem? (i := 6) rfl⟩, gw_233, ⟨gw_8, gw_234⟩, rfl, rfl⟩, ⟨by decide +kernel, by decide +kernel, by decide +kernel⟩, ⟨by decide +kernel, rfl, rfl⟩⟩, fun h => absurd h (by decide), fun h => absurd h (by decide), fun h => absurd h (by decide)⟩
theorem mp_0_56 (mi : aI) (h : iO mi = "FullHouse") : okM mi mI_9 56 3 0 0 := by
  unfold okM cV cS cI cN
  rw [h]
  exact ⟨fun h => absurd h (by decide), fun h => absurd h (by decide), fun h => absurd h (by decide), fun _ => ⟨⟨⟨_, List.mem_of_getElem? (i := 8) rfl⟩, gw_254, ⟨gw_9, gw_255⟩, rfl, rfl⟩, ⟨by decide +kernel, by decide +kernel, by decide +kernel⟩, ⟨by decide +kernel, rfl, rfl⟩⟩, fun h => absurd h (by decide), fun h => absurd h (by decide), fun h => absurd h (by decide)⟩
theorem mp_0_67 (mi : aI) (h : iO mi = "FullHouse") : okM mi mI_10 67 3 0 8 := by
  unfold okM cV cS cI cN
  rw [h]
  exact ⟨fun h => absurd h (by decide), fun h => absurd h (by decide), fun h => absurd h (by decide), fun _ => ⟨⟨⟨_, List.mem_of_getElem? (i := 9) rfl⟩, gw_270, ⟨gw_10, gw_271⟩, rfl, rfl⟩, ⟨by decide +kernel, by decide +kernel, by decide +kernel⟩, ⟨by decide +kernel, rfl, rfl⟩⟩, fun h => absurd h (by decide), fun h => absurd h (by decide), fun h => absurd h (by decide)⟩
theorem mp_0_82 (mi : aI) (h : iO mi = "FullHouse") : okM mi mI_11 82 0 0 9 := by
  unfold okM cV cS cI cN
  rw [h]
  exact ⟨fun _ => ⟨⟨gw_298, gw_300, gs_0, ⟨gw_1, gw_301⟩⟩, ⟨by decide +kernel, by decide +kernel, by decide +kernel⟩, ⟨_, rfl, rfl⟩, ⟨by decide +kernel, rfl, rfl⟩⟩, fun h => absurd h (by decide), fun h => absurd h (by decide), fun h => absurd h (by decide), fun h => absurd h (by decide), fun h => absurd h (by decide), fun h => absurd h (by decide)⟩
theorem mp_0_94 (mi : aI) (h : iO mi = "FullHouse") : okM mi mI_25 94 0 1 7 := by
  unfold okM cV cS cI cN
  rw [h]
  exact ⟨fun _ => ⟨⟨gw_397, gw_398, gw_399, ⟨gw_3, gw_400⟩⟩, ⟨by decide +kernel, by decide +kernel, by decide +kernel⟩, ⟨_, rfl, rfl⟩, ⟨by decide +kernel, rfl, rfl⟩⟩, fun h => absurd h (by decide), fun h => absurd h (by decide), fun h => absurd h (by decide), fun h => absurd h (by decide), fun h => absurd h (by decide), fun h => absurd h (by decide)⟩
theorem mp_0_102 (mi : aI) (h : iO mi = "FullHouse") : okM mi mI_41 102 2 1 0 := by
  unfold okM cV cS cI cN
  rw [h]
  exact ⟨fun h => absurd h (by decide), fun h => absurd h (by decide), fun _ => ⟨⟨gw_505, gw_506, ⟨gw_17, gw_507⟩, rfl, rfl⟩, ⟨by decide +kernel, by decide +kernel, by decide +kernel⟩, ⟨by decide +kernel, rfl, rfl⟩⟩, fun h => absurd h (by decide), fun h => absurd h (by decide), fun h => absurd h (by decide), fun h => absurd h (by decide)⟩
theorem mp_0_105 (mi : aI) (h : iO mi = "FullHouse") : okM mi mI_45 105 0 2 4 := by
  unfold okM cV cS cI cN
  rw [h]
  exact ⟨fun _ => ⟨⟨gw_530, gw_531, gw_532, ⟨gw_2, gw_533⟩⟩, ⟨by decide +kernel, by decide +kernel, by decide +kernel⟩, ⟨_, rfl, rfl⟩, ⟨by decide +kernel, rfl, rfl⟩⟩, fun h => absurd h (by decide), fun h => absurd h (by decide), fun h => absurd h (by decide), fun h => absurd h (by decide), fun h => absurd h (by decide), fun h => absurd h (by decide)⟩
theorem mp_0_131 (mi : aI) (h : iO mi = "FullHouse") : okM mi mI_87 131 2 1 0 := by
  unfold okM cV cS cI cN
  rw [h]
  exact ⟨fun h => absurd h (by decide), fun h => absurd h (by decide), fun _ => ⟨⟨gw_719, gw_720, ⟨gw_23, gw_721⟩, rfl, rfl⟩, ⟨by decide +kernel, by decide +kernel, by decide +kernel⟩, ⟨by decide +kernel, rfl, rfl⟩⟩, fun h => absurd h (by decide), fun h => absurd h (by decide), fun h => absurd h (by decide), fun h => absurd h (by decide)⟩
theorem mp_0_132 (mi : aI) (h : iO mi = "FullHouse") : okM mi mI_90 132 0 1 9 := by
  unfold okM cV cS cI cN
  rw [h]
  exact ⟨fun _ => ⟨⟨gw_732, gw_734, gs_15, ⟨gw_1, gw_735⟩⟩, ⟨by decide +kernel, by decide +kernel, by decide +kernel⟩, ⟨_, rfl, rfl⟩, ⟨by decide +kernel, rfl, rfl⟩⟩, fun h => absurd h (by decide), fun h => absurd h (by decide), fun h => absurd h (by decide), fun h => absurd h (by decide), fun h => absurd h (by decide), fun h => absurd h (by decide)⟩
theorem mp_0_146 (mi : aI) (h : iO mi = "FullHouse") : okM mi mI_93 146 0 1 9 := by
  unfold okM cV cS cI cN
  rw [h]
  exact ⟨fun _ => ⟨⟨gw_745, gw_747, gs_16, ⟨gw_1, gw_748⟩⟩, ⟨by decide +kernel, by decide +kernel, by decide +kernel⟩, ⟨_, rfl, rfl⟩, ⟨by decide +kernel, rfl, rfl⟩⟩, fun h => absurd h (by decide), fun h => absurd h (by decide), fun h => absurd h (by decide), fun h => absurd h (by decide), fun h => absurd h (by decide), fun h => absurd h (by decide)⟩
theorem mp_0_179 (mi : aI) (h : iO mi = "FullHouse") : okM mi mI_100 179 0 1 9 := by
  unfold okM cV cS cI cN
  rw [h]
  exact ⟨fun _ => ⟨⟨gw_774, gw_776, gs_17, ⟨gw_1, gw_777⟩⟩, ⟨by decide +kernel, by decide +kernel, by decide +kernel⟩, ⟨_, rfl, rfl⟩, ⟨by decide +kernel, rfl, rfl⟩⟩, fun h => absurd h (by decide), fun h => absurd h (by decide), fun h => absurd h (by decide), fun h => absurd h (by decide), fun h => absurd h (by decide), fun h => absurd h (by decide)⟩
theorem mp_0_182 (mi : aI) (h : iO mi = "FullHouse") : okM mi mI_101 182 0 3 5 := by
  unfold okM cV cS cI cN
  rw [h]
  exact ⟨fun _ => ⟨⟨gw_780, gw_781, gw_782, ⟨gw_7, gw_783⟩⟩, ⟨by decide +kernel, by decide +kernel, by decide +kernel⟩, ⟨_, rfl, rfl⟩, ⟨by decide +kernel, rfl, rfl⟩⟩, fun h => absurd h (by decide), fun h => absurd h (by decide), fun h => absurd h (by decide), fun h => absurd h (by decide), fun h => absurd h (by decide), fun h => absurd h (by decide)⟩
theorem mp_0_188 (mi : aI) (h : iO mi = "FullHouse") : okM mi mI_108 188 1 1 5 := by
  unfold okM cV cS cI cN
  rw [h]
  exact ⟨fun h => absurd h (by decide), fun _ => ⟨⟨gw_810, gw_811, ⟨gw_7, gw_812⟩⟩, ⟨by decide +kernel, by decide +kernel, by decide +kernel⟩, ⟨by decide +kernel, rfl, rfl⟩⟩, fun h => absurd h (by decide), fun h => absurd h (by decide), fun h => absurd h (by decide), fun h => absurd h (by decide), fun h => absurd h (by decide)⟩
theorem mp_0_195 (mi : aI) (h : iO mi = "FullHouse") : okM mi mI_109 195 1 1 5 := by
  unfold okM cV cS cI cN
  rw [h]
  exact ⟨fun h => absurd h (by decide), fun _ => ⟨⟨gw_814, gw_815, ⟨gw_7, gw_816⟩⟩, ⟨by decide +kernel, by decide +kernel, by decide +kernel⟩, ⟨by decide +kernel, rfl, rfl⟩⟩, fun h => absurd h (by decide), fun h => absurd h (by decide), fun h => absurd h (by decide), fun h => absurd h (by decide), fun h => absurd h (by decide)⟩
theorem mp_0_200 (mi : aI) (h : iO mi = "FullHouse") : okM mi mI_112 200 1 2 5 := by
  unfold okM cV cS cI cN
  rw [h]
  exact ⟨fun h => absurd h (by decide), fun _ => ⟨⟨gw_825, gw_826, ⟨gw_7, gw_827⟩⟩, ⟨by decide +kernel, by decide +kernel, by decide +kernel⟩, ⟨by decide +kernel, rfl, rfl⟩⟩, fun h => absurd h (by decide), fun h => absurd h (by decide), fun h => absurd h (by decide), fun h => absurd h (by decide), fun h => absurd h (by decide)⟩
theorem mp_0_204 (mi : aI) (h : iO mi = "FullHouse") : okM mi mI_115 204 0 1 3 := by
  unfold okM cV cS cI cN
  rw [h]
  exact ⟨fun _ => ⟨⟨gw_835, gw_836, gw_837, ⟨gw_6, gw_838⟩⟩, ⟨by decide +kernel, by decide +kernel, by decide +kernel⟩, ⟨_, rfl, rfl⟩, ⟨by decide +kernel, rfl, rfl⟩⟩, fun h => absurd h (by decide), fun h => absurd h (by decide), fun h => absurd h (by decide), fun h => absurd h (by decide), fun h => absurd h (by decide), fun h => absurd h (by decide)⟩
theorem mp_0_208 (mi : aI) (h : iO mi = "FullHouse") : okM mi mI_118 208 0 2 3 := by
  unfold okM cV cS cI cN
  rw [h]
  exact ⟨fun _ => ⟨⟨gw_846, gw_847, gw_848, ⟨gw_6, gw_849⟩⟩, ⟨by decide +kernel, by decide +kernel, by decide +kernel⟩, ⟨_, rfl, rfl⟩, ⟨by decide +kernel, rfl, rfl⟩⟩, fun h => absurd h (by decide), fun h => absurd h (by decide), fun h => absurd h (by decide), fun h => absurd h (by decide), fun h => absurd h (by decide), fun h => absurd h (by decide)⟩
theorem mp_0_211 (mi : aI) (h : iO mi = "FullHouse") : okM mi mI_28 211 0 1 1 := by
  unfold okM cV cS cI cN
  rw [h]
  exact ⟨fun _ => ⟨⟨gw_409, gw_410, gw_411, ⟨gw_4, gw_412⟩⟩, ⟨by decide +kernel, by decide +kernel, by decide +kernel⟩, ⟨_, rfl, rfl⟩, ⟨by decide +kernel, rfl, rfl⟩⟩, fun h => absurd h (by decide), fun h => absurd h (by decide), fun h => absurd h (by decide), fun h => absurd h (by decide), fun h => absurd h (by decide), fun h => absurd h (by decide)⟩
theorem mp_0_215 (mi : aI) (h : iO mi = "FullHouse") : okM mi mI_29 215 0 1 1 := by
  unfold okM cV cS cI cN
  rw [h]
  exact ⟨fun _ => ⟨⟨gw_413, gw_414, gw_415, ⟨gw_4, gw_416⟩⟩, ⟨by decide +kernel, by decide +kernel, by decide +kernel⟩, ⟨_, rfl, rfl⟩, ⟨by decide +kernel, rfl, rfl⟩⟩, fun h => absurd h (by decide), fun h => absurd h (by decide), fun h => absurd h (by decide), fun h => absurd h (by decide), fun h => absurd h (by decide), fun h => absurd h (by decide)⟩
theorem mp_0_218 (mi : aI) (h : iO mi = "FullHouse") : okM mi mI_122 218 0 2 9 := by
  unfold okM cV cS cI cN
  rw [h]
  exact ⟨fun _ => ⟨⟨gw_861, gw_863, gs_21, ⟨gw_1, gw_864⟩⟩, ⟨by decide +kernel, by decide +kernel, by decide +kernel⟩, ⟨_, rfl, rfl⟩, ⟨by decide +kernel, rfl, rfl⟩⟩, fun h => absurd h (by decide), fun h => absurd h (by decide), fun h => absurd h (by decide), fun h => absurd h (by decide), fun h => absurd h (by decide), fun h => absurd h (by decide)⟩
theorem mp_0_221 (mi : aI) (h : iO mi = "FullHouse") : okM mi mI_125 221 0 1 3 := by
  unfold okM cV cS cI cN
  rw [h]
  exact ⟨fun _ => ⟨⟨gw_873, gw_874, gw_875, ⟨gw_6, gw_876⟩⟩, ⟨by decide +kernel, by decide +kernel, by decide +kernel⟩, ⟨_, rfl, rfl⟩, ⟨by decide +kernel, rfl, rfl⟩⟩, fun h => absurd h (by decide), fun h => absurd h (by decide), fun h => absurd h (by decide), fun h => absurd h (by decide), fun h => absurd h (by decide), fun h => absurd h (by decide)⟩
theorem mp_0_225 (mi : aI) (h : iO mi = "FullHouse") : okM mi mI_126 225 0 1 3 := by
  unfold okM cV cS cI cN
  rw [h]
  exact ⟨fun _ => ⟨⟨gw_878, gw_879, gw_880, ⟨gw_6, gw_881⟩⟩, ⟨by decide +kernel, by decide +kernel, by decide +kernel⟩, ⟨_, rfl, rfl⟩, ⟨by decide +kernel, rfl, rfl⟩⟩, fun h => absurd h (by decide), fun h => absurd h (by decide), fun h => absurd h (by decide), fun h => absurd h (by decide), fun h => absurd h (by decide), fun h => absurd h (by decide)⟩
theorem mp_0_228 (mi : aI) (h : iO mi = "FullHouse") : okM mi mI_18 228 0 0 1 := by
  unfold okM cV cS cI cN
  rw [h]
  exact ⟨fun _ => ⟨⟨gw_429, gw_325, gw_326, ⟨gw_4, gw_327⟩⟩, ⟨by decide +kernel, by decide +kernel, by decide +kernel⟩, ⟨_, rfl, rfl⟩, ⟨by decide +kernel, rfl, rfl⟩⟩, fun h => absurd h (by decide), fun h => absurd h (by decide), fun h => absurd h (by decide), fun h => absurd h (by decide), fun h => absurd h (by decide), fun h => absurd h (by decide)⟩
theorem mp_0_232 (mi : aI) (h : iO mi = "FullHouse") : okM mi mI_31 232 0 0 1 := by
  unfold okM cV cS cI cN
  rw [h]
  exact ⟨fun _ => ⟨⟨gw_421, gw_422, gw_423, ⟨gw_4, gw_424⟩⟩, ⟨by decide +kernel, by decide +kernel, by decide +kernel⟩, ⟨_, rfl, rfl⟩, ⟨by decide +kernel, rfl, rfl⟩⟩, fun h => absurd h (by decide), fun h => absurd h (by decide), fun h => absurd h (by decide), fun h => absurd h (by decide), fun h => absurd h (by decide), fun h => absurd h (by decide)⟩
theorem mp_0_236 (mi : aI) (h : iO mi = "FullHouse") : okM mi mI_119 236 0 2 3 := by
  unfold okM cV cS cI cN
  rw [h]
  exact ⟨fun _ => ⟨⟨gw_882, gw_851, gw_852, ⟨gw_6, gw_853⟩⟩, ⟨by decide +kernel, by decide +kernel, by decide +kernel⟩, ⟨_, rfl, rfl⟩, ⟨by decide +kernel, rfl, rfl⟩⟩, fun h => absurd h (by decide), fun h => absurd h (by decide), fun h => absurd h (by decide), fun h => absurd h (by decide), fun h => absurd h (by decide), fun h => absurd h (by decide)⟩
theorem mp_0_240 (mi : aI) (h : iO mi = "FullHouse") : okM mi mI_127 240 0 0 1 := by
  unfold okM cV cS cI cN
  rw [h]
  exact ⟨fun _ => ⟨⟨gw_883, gw_884, gw_885, ⟨gw_4, gw_886⟩⟩, ⟨by decide +kernel, by decide +kernel, by decide +kernel⟩, ⟨_, rfl, rfl⟩, ⟨by decide +kernel, rfl, rfl⟩⟩, fun h => absurd h (by decide), fun h => absurd h (by decide), fun h => absurd h (by decide), fun h => absurd h (by decide), fun h => absurd h (by decide), fun h => absurd h (by decide)⟩
theorem mp_0_245 (mi : aI) (h : iO mi = "FullHouse") : okM mi mI_130 245 0 3 2 := by
  unfold okM cV cS cI cN
  rw [h]
  exact ⟨fun _ => ⟨⟨gw_896, gw_897, gw_898, ⟨gw_8, gw_899⟩⟩, ⟨by decide +kernel, by decide +kernel, by decide +kernel⟩, ⟨_, rfl, rfl⟩, ⟨by decide +kernel, rfl, rfl⟩⟩, fun h => absurd h (by decide), fun h => absurd h (by decide), fun h => absurd h (by decide), fun h => absurd h (by decide), fun h => absurd h (by decide), fun h => absurd h (by decide)⟩
theorem mp_0_249 (mi : aI) (h : iO mi = "FullHouse") : okM mi mI_131 249 0 3 2 := by
  unfold okM cV cS cI cN
  rw [h]
  exact ⟨fun _ => ⟨⟨gw_928, gw_901, gw_902, ⟨gw_8, gw_903⟩⟩, ⟨by decide +kernel, by decide +kernel, by decide +kernel⟩, ⟨_, rfl, rfl⟩, ⟨by decide +kernel, rfl, rfl⟩⟩, fun h => absurd h (by decide), fun h => absurd h (by decide), fun h => absurd h (by decide), fun h => absurd h (by decide), fun h => absurd h (by decide), fun h => absurd h (by decide)⟩
theorem mp_0_252 (mi : aI) (h : iO mi = "FullHouse") : okM mi mI_136 252 0 2 2 := by
  unfold okM cV cS cI cN
  rw [h]
  exact ⟨fun _ => ⟨⟨gw_929, gw_930, gw_931, ⟨gw_8, gw_932⟩⟩, ⟨by decide +kernel, by decide +kernel, by decide +kernel⟩, ⟨_, rfl, rfl⟩, ⟨by decide +kernel, rfl, rfl⟩⟩, fun h => absurd h (by decide), fun h => absurd h (by decide), fun h => absurd h (by decide), fun h => absurd h (by decide), fun h => absurd h (by decide), fun h => absurd h (by decide)⟩
theorem mp_0_257 (mi : aI) (h : iO mi = "FullHouse") : okM mi mI_21 257 1 1 0 := by
  unfold okM cV cS cI cN
  rw [h]
  exact ⟨fun h => absurd h (by decide), fun _ => ⟨⟨gw_430, gw_337, ⟨gw_12, gw_338⟩⟩, ⟨by decide +kernel, by decide +kernel, by decide +kernel⟩, ⟨by decide +kernel, rfl, rfl⟩⟩, fun h => absurd h (by decide), fun h => absurd h (by decide), fun h => absurd h (by decide), fun h => absurd h (by decide), fun h => absurd h (by decide)⟩
theorem mp_0_262 (mi : aI) (h : iO mi = "FullHouse") : okM mi mI_19 262 0 4 3 := by
  unfold okM cV cS cI cN
  rw [h]
  exact ⟨fun _ => ⟨⟨gw_431, gw_329, gw_330, ⟨gw_6, gw_331⟩⟩, ⟨by decide +kernel, by decide +kernel, by decide +kernel⟩, ⟨_, rfl, rfl⟩, ⟨by decide +kernel, rfl, rfl⟩⟩, fun h => absurd h (by decide), fun h => absurd h (by decide), fun h => absurd h (by decide), fun h => absurd h (by decide), fun h => absurd h (by decide), fun h => absurd h (by decide)⟩
theorem mp_0_271 (mi : aI) (h : iO mi = "FullHouse") : okM mi mI_140 271 0 1 9 := by
  unfold okM cV cS cI cN
  rw [h]
  exact ⟨fun _ => ⟨⟨gw_948, gw_950, gs_24, ⟨gw_1, gw_951⟩⟩, ⟨by decide +kernel, by decide +kernel, by decide +kernel⟩, ⟨_, rfl, rfl⟩, ⟨by decide +kernel, rfl, rfl⟩⟩, fun h => absurd h (by decide), fun h => absurd h (by decide), fun h => absurd h (by decide), fun h => absurd h (by decide), fun h => absurd h (by decide), fun h => absurd h (by decide)⟩
theorem mp_0_274 (mi : aI) (h : iO mi = "FullHouse") : okM mi mI_141 274 1 2 9 := by
  unfold okM cV cS cI cN
  rw [h]
  exact ⟨fun h => absurd h (by decide), fun _ => ⟨⟨gw_952, gw_953, ⟨gw_1, gw_954⟩⟩, ⟨by decide +kernel, by decide +kernel, by decide +kernel⟩, ⟨by decide +kernel, rfl, rfl⟩⟩, fun h => absurd h (by decide), fun h => absurd h (by decide), fun h => absurd h (by decide), fun h => absurd h (by decide), fun h => absurd h (by decide)⟩
theorem mp_0_279 (mi : aI) (h : iO mi = "FullHouse") : okM mi mI_145 279 0 4 0 := by
  unfold okM cV cS cI cN
  rw [h]
  exact ⟨fun _ => ⟨⟨gw_966, gw_967, gw_968, ⟨gw_9, gw_969⟩⟩, ⟨by decide +kernel, by decide +kernel, by decide +kernel⟩, ⟨_, rfl, rfl⟩, ⟨by decide +kernel, rfl, rfl⟩⟩, fun h => absurd h (by decide), fun h => absurd h (by decide), fun h => absurd h (by decide), fun h => absurd h (by decide), fun h => absurd h (by decide), fun h => absurd h (by decide)⟩
theorem mp_0_293 (mi : aI) (h : iO mi = "FullHouse") : okM mi mI_34 293 0 2 8 := by
  unfold okM cV cS cI cN
  rw [h]
  exact ⟨fun _ => ⟨⟨gw_436, gw_437, gw_438, ⟨gw_10, gw_439⟩⟩, ⟨by decide +kernel, by decide +kernel, by decide +kernel⟩, ⟨_, rfl, rfl⟩, ⟨by decide +kernel, rfl, rfl⟩⟩, fun h => absurd h (by decide), fun h => absurd h (by decide), fun h => absurd h (by decide), fun h => absurd h (by decide), fun h => absurd h (by decide), fun h => absurd h (by decide)⟩
theorem mp_0_303 (mi : aI) (h : iO mi = "FullHouse") : okM mi mI_157 303 0 3 8 := by
  unfold okM cV cS cI cN
  rw [h]
  exact ⟨fun _ => ⟨⟨gw_1021, gw_1022, gw_1023, ⟨gw_10, gw_1024⟩⟩, ⟨by decide +kernel, by decide +kernel, by decide +kernel⟩, ⟨_, rfl, rfl⟩, ⟨by decide +kernel, rfl, rfl⟩⟩, fun h => absurd h (by decide), fun h => absurd h (by decide), fun h => absurd h (by decide), fun h => absurd h (by decide), fun h => absurd h (by decide), fun h => absurd h (by decide)⟩
theorem mp_0_309 (mi : aI) (h : iO mi = "FullHouse") : okM mi mI_165 309 0 1 8 := by
  unfold okM cV cS cI cN
  rw [h]
  exact ⟨fun _ => ⟨⟨gw_1058, gw_1059, gw_1060, ⟨gw_10, gw_1061⟩⟩, ⟨by decide +kernel, by decide +kernel, by decide +kernel⟩, ⟨_, rfl, rfl⟩, ⟨by decide +kernel, rfl, rfl⟩⟩, fun h => absurd h (by decide), fun h => absurd h (by decide), fun h => absurd h (by decide), fun h => absurd h (by decide), fun h => absurd h (by decide), fun h => absurd h (by decide)⟩
theorem mp_0_312 (mi : aI) (h : iO mi = "FullHouse") : okM mi mI_166 312 0 2 8 := by
  unfold okM cV cS cI cN
  rw [h]
  exact ⟨fun _ => ⟨⟨gw_1062, gw_1063, gw_1064, ⟨gw_10, gw_1065⟩⟩, ⟨by decide +kernel, by decide +kernel, by decide +kernel⟩, ⟨_, rfl, rfl⟩, ⟨by decide +kernel, rfl, rfl⟩⟩, fun h => absurd h (by decide), fun h => absurd h (by decide), fun h => absurd h (by decide), fun h => absurd h (by decide), fun h => absurd h (by decide), fun h => absurd h (by decide)⟩
theorem mp_0_317 (mi : aI) (h : iO mi = "FullHouse") : okM mi mI_167 317 0 2 8 := by
  unfold okM cV cS cI cN
  rw [h]
  exact ⟨fun _ => ⟨⟨gw_1071, gw_1067, gw_1068, ⟨gw_10, gw_1069⟩⟩, ⟨by decide +kernel, by decide +kernel, by decide +kernel⟩, ⟨_, rfl, rfl⟩, ⟨by decide +kernel, rfl, rfl⟩⟩, fun h => absurd h (by decide), fun h => absurd h (by decide), fun h => absurd h (by decide), fun h => absurd h (by decide), fun h => absurd h (by decide), fun h => absurd h (by decide)⟩
theorem mp_0_323 (mi : aI) (h : iO mi = "FullHouse") : okM mi mI_36 323 0 1 8 := by
  unfold okM cV cS cI cN
  rw [h]
  exact ⟨fun _ => ⟨⟨gw_448, gw_449, gw_450, ⟨gw_10, gw_451⟩⟩, ⟨by decide +kernel, by decide +kernel, by decide +kernel⟩, ⟨_, rfl, rfl⟩, ⟨by decide +kernel, rfl, rfl⟩⟩, fun h => absurd h (by decide), fun h => absurd h (by decide), fun h => absurd h (by decide), fun h => absurd h (by decide), fun h => absurd h (by decide), fun h => absurd h (by decide)⟩
theorem mp_0_327 (mi : aI) (h : iO mi = "FullHouse") : okM mi mI_12 327 1 2 0 := by
  unfold okM cV cS cI cN
  rw [h]
  exact ⟨fun h => absurd h (by decide), fun _ => ⟨⟨gw_302, gw_303, ⟨gw_11, gw_304⟩⟩, ⟨by decide +kernel, by decide +kernel, by decide +kernel⟩, ⟨by decide +kernel, rfl, rfl⟩⟩, fun h => absurd h (by decide), fun h => absurd h (by decide), fun h => absurd h (by decide), fun h => absurd h (by decide), fun h => absurd h (by decide)⟩
theorem mp_0_333 (mi : aI) (h : iO mi = "FullHouse") : okM mi mI_13 333 0 0 8 := by
  unfold okM cV cS cI cN
  rw [h]
  exact ⟨fun _ => ⟨⟨gw_305, gw_306, gw_307, ⟨gw_10, gw_308⟩⟩, ⟨by decide +kernel, by decide +kernel, by decide +kernel⟩, ⟨_, rfl, rfl⟩, ⟨by decide +kernel, rfl, rfl⟩⟩, fun h => absurd h (by decide), fun h => absurd h (by decide), fun h => absurd h (by decide), fun h => absurd h (by decide), fun h => absurd h (by decide), fun h => absurd h (by decide)⟩
theorem mp_0_336 (mi : aI) (h : iO mi = "FullHouse") : okM mi mI_14 336 0 1 6 := by
  unfold okM cV cS cI cN
  rw [h]
  exact ⟨fun _ => ⟨⟨gw_309, gw_310, gw_311, ⟨gw_5, gw_312⟩⟩, ⟨by decide +kernel, by decide +kernel, by decide +kernel⟩, ⟨_, rfl, rfl⟩, ⟨by decide +kernel, rfl, rfl⟩⟩, fun h => absurd h (by decide), fun h => absurd h (by decide), fun h => absurd h (by decide), fun h => absurd h (by decide), fun h => absurd h (by decide), fun h => absurd h (by decide)⟩
theorem mp_0_340 (mi : aI) (h : iO mi = "FullHouse") : okM mi mI_16 340 0 3 3 := by
  unfold okM cV cS cI cN
  rw [h]
  exact ⟨fun _ => ⟨⟨gw_317, gw_318, gw_319, ⟨gw_6, gw_320⟩⟩, ⟨by decide +kernel, by decide +kernel, by decide +kernel⟩, ⟨_, rfl, rfl⟩, ⟨by decide +kernel, rfl, rfl⟩⟩, fun h => absurd h (by decide), fun h => absurd h (by decide), fun h => absurd h (by decide), fun h => absurd h (by decide), fun h => absurd h (by decide), fun h => absurd h (by decide)⟩
theorem mp_0_343 (mi : aI) (h : iO mi = "FullHouse") : okM mi mI_20 343 0 1 3 := by
  unfold okM cV cS cI cN
  rw [h]
  exact ⟨fun _ => ⟨⟨gw_332, gw_333, gw_334, ⟨gw_6, gw_335⟩⟩, ⟨by decide +kernel, by decide +kernel, by decide +kernel⟩, ⟨_, rfl, rfl⟩, ⟨by decide +kernel, rfl, rfl⟩⟩, fun h => absurd h (by decide), fun h => absurd h (by decide), fun h => absurd h (by decide), fun h => absurd h (by decide), fun h => absurd h (by decide), fun h => absurd h (by decide)⟩
theorem mp_0_346 (mi : aI) (h : iO mi = "FullHouse") : okM mi mI_22 346 0 0 2 := by
  unfold okM cV cS cI cN
  rw [h]
  exact ⟨fun _ => ⟨⟨gw_342, gw_343, gw_344, ⟨gw_8, gw_345⟩⟩, ⟨by decide +kernel, by decide +kernel, by decide +kernel⟩, ⟨_, rfl, rfl⟩, ⟨by decide +kernel, rfl, rfl⟩⟩, fun h => absurd h (by decide), fun h => absurd h (by decide), fun h => absurd h (by decide), fun h => absurd h (by decide), fun h => absurd h (by decide), fun h => absurd h (by decide)⟩
theorem mp_0_349 (mi : aI) (h : iO mi = "FullHouse") : okM mi mI_23 349 0 0 0 := by
  unfold okM cV cS cI cN
  rw [h]
  exact ⟨fun _ => ⟨⟨gw_346, gw_347, gw_348, ⟨gw_9, gw_349⟩⟩, ⟨by decide +kernel, by decide +kernel, by decide +kernel⟩, ⟨_, rfl, rfl⟩, ⟨by decide +kernel, rfl, rfl⟩⟩, fun h => absurd h (by decide), fun h => absurd h (by decide), fun h => absurd h (by decide), fun h => absurd h (by decide), fun h => absurd h (by decide), fun h => absurd h (by decide)⟩
theorem mp_0_354 (mi : aI) (h : iO mi = "FullHouse") : okM mi mI_32 354 0 0 1 := by
  unfold okM cV cS cI cN
  rw [h]
  exact ⟨fun _ => ⟨⟨gw_778, gw_426, gw_427, ⟨gw_4, gw_428⟩⟩, ⟨by decide +kernel, by decide +kernel, by decide +kernel⟩, ⟨_, rfl, rfl⟩, ⟨by decide +kernel, rfl, rfl⟩⟩, fun h => absurd h (by decide), fun h => absurd h (by decide), fun h => absurd h (by decide), fun h => absurd h (by decide), fun h => absurd h (by decide), fun h => absurd h (by decide)⟩
theorem mp_0_359 (mi : aI) (h : iO mi = "FullHouse") : okM mi mI_15 359 0 1 1 := by
  unfold okM cV cS cI cN
  rw [h]
  exact ⟨fun _ => ⟨⟨gw_865, gw_314, gw_315, ⟨gw_4, gw_316⟩⟩, ⟨by decide +kernel, by decide +kernel, by decide +kernel⟩, ⟨_, rfl, rfl⟩, ⟨by decide +kernel, rfl, rfl⟩⟩, fun h => absurd h (by decide), fun h => absurd h (by decide), fun h => absurd h (by decide), fun h => absurd h (by decide), fun h => absurd h (by decide), fun h => absurd h (by decide)⟩
def mL_1 : List (Nat × Nat × Nat × Nat) := []
def mL_2 : List (Nat × Nat × Nat × Nat) := [(3, 0, 4, 0), (11, 3, 3, 0), (18, 46, 0, 0), (23, 47, 0, 1), (34, 48, 0, 0), (40, 52, 0, 1), (46, 53, 0, 1), (50, 65, 0, 1), (55, 74, 0, 1), (60, 78, 0, 1), (65, 82, 0, 1), (70, 84, 0, 1), (73, 66, 0, 1), (80, 67, 0, 2), (86, 70, 0, 1), (90, 72, 0, 0), (94, 73, 0, 2), (98, 71, 0, 0), (110, 76, 0, 0), (113, 77, 0, 2), (116, 79, 0, 1), (119, 80, 0, 2), (123, 81, 0, 3), (130, 83, 0, 4), (137, 28, 0, 1), (141, 29, 0, 1), (151, 68, 0, 0), (154, 69, 0, 0)]
theorem mp_2_3 (mi mj : aI) (h : iO mi = "FullHouse$Reader") (cn : Nat) : okM mi mj 3 4 0 cn := by
  unfold okM
  rw [h]
  exact ⟨fun h => absurd h (by decide), fun h => absurd h (by decide), fun h => absurd h (by decide), fun h => absurd h (by decide), fun _ => ⟨gw_38, gw_31, gw_32⟩, fun h => absurd h (by decide), fun h => absurd h (by decide)⟩
theorem mp_2_11 (mi : aI) (h : iO mi = "FullHouse$Reader") : okM mi mI_3 11 3 0 7 := by
  unfold okM cV cS cI cN
  rw [h]
  exact ⟨fun h => absurd h (by decide), fun h => absurd h (by decide), fun h => absurd h (by decide), fun _ => ⟨⟨⟨_, List.mem_of_getElem? (i := 1) rfl⟩, gw_42, ⟨gw_3, gw_43⟩, rfl, rfl⟩, ⟨by decide +kernel, by decide +kernel, by decide +kernel⟩, ⟨by decide +kernel, rfl, rfl⟩⟩, fun h => absurd h (by decide), fun h => absurd h (by decide), fun h => absurd h (by decide)⟩
theorem mp_2_18 (mi : aI) (h : iO mi = "FullHouse$Reader") : okM mi mI_46 18 0 0 1 := by
  unfold okM cV cS cI cN
  rw [h]
  exact ⟨fun _ => ⟨⟨gw_534, gw_535, gw_536, ⟨gw_4, gw_537⟩⟩, ⟨by decide +kernel, by decide +kernel, by decide +kernel⟩, ⟨_, rfl, rfl⟩, ⟨by decide +kernel, rfl, rfl⟩⟩, fun h => absurd h (by decide), fun h => absurd h (by decide), fun h => absurd h (by decide), fun h => absurd h (by decide), fun h => absurd h (by decide), fun h => absurd h (by decide)⟩
theorem mp_2_23 (mi : aI) (h : iO mi = "FullHouse$Reader") : okM mi mI_47 23 0 1 7 := by
  unfold okM cV cS cI cN
  rw [h]
  exact ⟨fun _ => ⟨⟨gw_539, gw_540, gw_541, ⟨gw_3, gw_542⟩⟩, ⟨by decide +kernel, by decide +kernel, by decide +kernel⟩, ⟨_, rfl, rfl⟩, ⟨by decide +kernel, rfl, rfl⟩⟩, fun h => absurd h (by decide), fun h => absurd h (by decide), fun h => absurd h (by decide), fun h => absurd h (by decide), fun h => absurd h (by decide), fun h => absurd h (by decide)⟩
theorem mp_2_34 (mi : aI) (h : iO mi = "FullHouse$Reader") : okM mi mI_48 34 0 0 7 := by
  unfold okM cV cS cI cN
  rw [h]
  exact ⟨fun _ => ⟨⟨gw_543, gw_544, gw_545, ⟨gw_3, gw_546⟩⟩, ⟨by decide +kernel, by decide +kernel, by decide +kernel⟩, ⟨_, rfl, rfl⟩, ⟨by decide +kernel, rfl, rfl⟩⟩, fun h => absurd h (by decide), fun h => absurd h (by decide), fun h => absurd h (by decide), fun h => absurd h (by decide), fun h => absurd h (by decide), fun h => absurd h (by decide)⟩
theorem mp_2_40 (mi : aI) (h : iO mi = "FullHouse$Reader") : okM mi mI_52 40 0 1 4 := by
  unfold okM cV cS cI cN
  rw [h]
  exact ⟨fun _ => ⟨⟨gw_556, gw_558, gs_2, ⟨gw_2, gw_559⟩⟩, ⟨by decide +kernel, by decide +kernel, by decide +kernel⟩, ⟨_, rfl, rfl⟩, ⟨by decide +kernel, rfl, rfl⟩⟩, fun h => absurd h (by decide), fun h => absurd h (by decide), fun h => absurd h (by decide), fun h => absurd h (by decide), fun h => absurd h (by decide), fun h => absurd h (by decide)⟩
theorem mp_2_46 (mi : aI) (h : iO mi = "FullHouse$Reader") : okM mi mI_53 46 0 1 7 := by
  unfold okM cV cS cI cN
  rw [h]
  exact ⟨fun _ => ⟨⟨gw_561, gw_562, gw_563, ⟨gw_3, gw_564⟩⟩, ⟨by decide +kernel, by decide +kernel, by decide +kernel⟩, ⟨_, rfl, rfl⟩, ⟨by decide +kernel, rfl, rfl⟩⟩, fun h => absurd h (by decide), fun h => absurd h (by decide), fun h => absurd h (by decide), fun h => absurd h (by decide), fun h => absurd h (by decide), fun h => absurd h (by decide)⟩
theorem mp_2_50 (mi : aI) (h : iO mi = "FullHouse$Reader") : okM mi mI_65 50 0 1 4 := by
  unfold okM cV cS cI cN
  rw [h]
  exact ⟨fun _ => ⟨⟨gw_613, gw_615, gs_3, ⟨gw_2, gw_616⟩⟩, ⟨by decide +kernel, by decide +kernel, by decide +kernel⟩, ⟨_, rfl, rfl⟩, ⟨by decide +kernel, rfl, rfl⟩⟩, fun h => absurd h (by decide), fun h => absurd h (by decide), fun h => absurd h (by decide), fun h => absurd h (by decide), fun h => absurd h (by decide), fun h => absurd h (by decide)⟩
theorem mp_2_55 (mi : aI) (h : iO mi = "FullHouse$Reader") : okM mi mI_74 55 0 1 4 := by
  unfold okM cV cS cI cN
  rw [h]
  exact ⟨fun _ => ⟨⟨gw_651, gw_653, gs_8, ⟨gw_2, gw_654⟩⟩, ⟨by decide +kernel, by decide +kernel, by decide +kernel⟩, ⟨_, rfl, rfl⟩, ⟨by decide +kernel, rfl, rfl⟩⟩, fun h => absurd h (by decide), fun h => absurd h (by decide), fun h => absurd h (by decide), fun h => absurd h (by decide), fun h => absurd h (by decide), fun h => absurd h (by decide)⟩
theorem mp_2_60 (mi : aI) (h : iO mi = "FullHouse$Reader") : okM mi mI_78 60 0 1 4 := by
  unfold okM cV cS cI cN
  rw [h]
  exact ⟨fun _ => ⟨⟨gw_667, gw_669, gs_10, ⟨gw_2, gw_670⟩⟩, ⟨by decide +kernel, by decide +kernel, by decide +kernel⟩, ⟨_, rfl, rfl⟩, ⟨by decide +kernel, rfl, rfl⟩⟩, fun h => absurd h (by decide), fun h => absurd h (by decide), fun h => absurd h (by decide), fun h => absurd h (by decide), fun h => absurd h (by decide), fun h => absurd h (by decide)⟩
theorem mp_2_65 (mi : aI) (h : iO mi = "FullHouse$Reader") : okM mi mI_82 65 0 1 4 := by
  unfold okM cV cS cI cN
  rw [h]
  exact ⟨fun _ => ⟨⟨gw_688, gw_690, gs_13, ⟨gw_2, gw_691⟩⟩, ⟨by decide +kernel, by decide +kernel, by decide +kernel⟩, ⟨_, rfl, rfl⟩, ⟨by decide +kernel, rfl, rfl⟩⟩, fun h => absurd h (by decide), fun h => absurd h (by decide), fun h => absurd h (by decide), fun h => absurd h (by decide), fun h => absurd h (by decide), fun h => absurd h (by decide)⟩
theorem mp_2_70 (mi : aI) (h : iO mi = "FullHouse$Reader") : okM mi mI_84 70 0 1 4 := by
  unfold okM cV cS cI cN
  rw [h]
  exact ⟨fun _ => ⟨⟨gw_697, gw_699, gs_14, ⟨gw_2, gw_700⟩⟩, ⟨by decide +kernel, by decide +kernel, by decide +kernel⟩, ⟨_, rfl, rfl⟩, ⟨by decide +kernel, rfl, rfl⟩⟩, fun h => absurd h (by decide), fun h => absurd h (by decide), fun h => absurd h (by decide), fun h => absurd h (by decide), fun h => absurd h (by decide), fun h => absurd h (by decide)⟩
theorem mp_2_73 (mi : aI) (h : iO mi = "FullHouse$Reader") : okM mi mI_66 73 0 1 4 := by
  unfold okM cV cS cI cN
  rw [h]
  exact ⟨fun _ => ⟨⟨gw_617, gw_619, gs_4, ⟨gw_2, gw_620⟩⟩, ⟨by decide +kernel, by decide +kernel, by decide +kernel⟩, ⟨_, rfl, rfl⟩, ⟨by decide +kernel, rfl, rfl⟩⟩, fun h => absurd h (by decide), fun h => absurd h (by decide), fun h => absurd h (by decide), fun h => absurd h (by decide), fun h => absurd h (by decide), fun h => absurd h (by decide)⟩
theorem mp_2_80 (mi : aI) (h : iO mi = "FullHouse$Reader") : okM mi mI_67 80 0 2 4 := by
  unfold okM cV cS cI cN
  rw [h]
  exact ⟨fun _ => ⟨⟨gw_621, gw_623, gs_5, ⟨gw_2, gw_624⟩⟩, ⟨by decide +kernel, by decide +kernel, by decide +kernel⟩, ⟨_, rfl, rfl⟩, ⟨by decide +kernel, rfl, rfl⟩⟩, fun h => absurd h (by decide), fun h => absurd h (by decide), fun h => absurd h (by decide), fun h => absurd h (by decide), fun h => absurd h (by decide), fun h => absurd h (by decide)⟩
theorem mp_2_86 (mi : aI) (h : iO mi = "FullHouse$Reader") : okM mi mI_70 86 0 1 4 := by
  unfold okM cV cS cI cN
  rw [h]
  exact ⟨fun _ => ⟨⟨gw_634, gw_636, gs_6, ⟨gw_2, gw_637⟩⟩, ⟨by decide +kernel, by decide +kernel, by decide +kernel⟩, ⟨_, rfl, rfl⟩, ⟨by decide +kernel, rfl, rfl⟩⟩, fun h => absurd h (by decide), fun h => absurd h (by decide), fun h => absurd h (by decide), fun h => absurd h (by decide), fun h => absurd h (by decide), fun h => absurd h (by decide)⟩
theorem mp_2_90 (mi : aI) (h : iO mi = "FullHouse$Reader") : okM mi mI_72 90 0 0 4 := by
  unfold okM cV cS cI cN
  rw [h]
  exact ⟨fun _ => ⟨⟨gw_642, gw_644, gs_7, ⟨gw_2, gw_645⟩⟩, ⟨by decide +kernel, by decide +kernel, by decide +kernel⟩, ⟨_, rfl, rfl⟩, ⟨by decide +kernel, rfl, rfl⟩⟩, fun h => absurd h (by decide), fun h => absurd h (by decide), fun h => absurd h (by decide), fun h => absurd h (by decide), fun h => absurd h (by decide), fun h => absurd h (by decide)⟩
theorem mp_2_94 (mi : aI) (h : iO mi = "FullHouse$Reader") : okM mi mI_73 94 0 2 1 := by
  unfold okM cV cS cI cN
  rw [h]
  exact ⟨fun _ => ⟨⟨gw_646, gw_647, gw_648, ⟨gw_4, gw_649⟩⟩, ⟨by decide +kernel, by decide +kernel, by decide +kernel⟩, ⟨_, rfl, rfl⟩, ⟨by decide +kernel, rfl, rfl⟩⟩, fun h => absurd h (by decide), fun h => absurd h (by decide), fun h => absurd h (by decide), fun h => absurd h (by decide), fun h => absurd h (by decide), fun h => absurd h (by decide)⟩
theorem mp_2_98 (mi : aI) (h : iO mi = "FullHouse$Reader") : okM mi mI_71 98 0 0 1 := by
  unfold okM cV cS cI cN
  rw [h]
  exact ⟨fun _ => ⟨⟨gw_638, gw_639, gw_640, ⟨gw_4, gw_641⟩⟩, ⟨by decide +kernel, by decide +kernel, by decide +kernel⟩, ⟨_, rfl, rfl⟩, ⟨by decide +kernel, rfl, rfl⟩⟩, fun h => absurd h (by decide), fun h => absurd h (by decide), fun h => absurd h (by decide), fun h => absurd h (by decide), fun h => absurd h (by decide), fun h => absurd h (by decide)⟩
theorem mp_2_110 (mi : aI) (h : iO mi = "FullHouse$Reader") : okM mi mI_76 110 0 0 4 := by
  unfold okM cV cS cI cN
  rw [h]
  exact ⟨fun _ => ⟨⟨gw_658, gw_660, gs_9, ⟨gw_2, gw_661⟩⟩, ⟨by decide +kernel, by decide +kernel, by decide +kernel⟩, ⟨_, rfl, rfl⟩, ⟨by decide +kernel, rfl, rfl⟩⟩, fun h => absurd h (by decide), fun h => absurd h (by decide), fun h => absurd h (by decide), fun h => absurd h (by decide), fun h => absurd h (by decide), fun h => absurd h (by decide)⟩
theorem mp_2_113 (mi : aI) (h : iO mi = "FullHouse$Reader") : okM mi mI_77 113 0 2 1 := by
  unfold okM cV cS cI cN
  rw [h]
  exact ⟨fun _ => ⟨⟨gw_662, gw_663, gw_664, ⟨gw_4, gw_665⟩⟩, ⟨by decide +kernel, by decide +kernel, by decide +kernel⟩, ⟨_, rfl, rfl⟩, ⟨by decide +kernel, rfl, rfl⟩⟩, fun h => absurd h (by decide), fun h => absurd h (by decide), fun h => absurd h (by decide), fun h => absurd h (by decide), fun h => absurd h (by decide), fun h => absurd h (by decide)⟩
theorem mp_2_116 (mi : aI) (h : iO mi = "FullHouse$Reader") : okM mi mI_79 116 0 1 4 := by
  unfold okM cV cS cI cN
  rw [h]
  exact ⟨fun _ => ⟨⟨gw_671, gw_673, gs_11, ⟨gw_2, gw_674⟩⟩, ⟨by decide +kernel, by decide +kernel, by decide +kernel⟩, ⟨_, rfl, rfl⟩, ⟨by decide +kernel, rfl, rfl⟩⟩, fun h => absurd h (by decide), fun h => absurd h (by decide), fun h => absurd h (by decide), fun h => absurd h (by decide), fun h => absurd h (by decide), fun h => absurd h (by decide)⟩
theorem mp_2_119 (mi : aI) (h : iO mi = "FullHouse$Reader") : okM mi mI_80 119 0 2 4 := by
  unfold okM cV cS cI cN
  rw [h]
  exact ⟨fun _ => ⟨⟨gw_676, gw_678, gs_12, ⟨gw_2, gw_679⟩⟩, ⟨by decide +kernel, by decide +kernel, by decide +kernel⟩, ⟨_, rfl, rfl⟩, ⟨by decide +kernel, rfl, rfl⟩⟩, fun h => absurd h (by decide), fun h => absurd h (by decide), fun h => absurd h (by decide), fun h => absurd h (by decide), fun h => absurd h (by decide), fun h => absurd h (by decide)⟩
theorem mp_2_123 (mi : aI) (h : iO mi = "FullHouse$Reader") : okM mi mI_81 123 0 3 1 := by
  unfold okM cV cS cI cN
  rw [h]
  exact ⟨fun _ => ⟨⟨gw_681, gw_682, gw_683, ⟨gw_4, gw_684⟩⟩, ⟨by decide +kernel, by decide +kernel, by decide +kernel⟩, ⟨_, rfl, rfl⟩, ⟨by decide +kernel, rfl, rfl⟩⟩, fun h => absurd h (by decide), fun h => absurd h (by decide), fun h => absurd h (by decide), fun h => absurd h (by decide), fun h => absurd h (by decide), fun h => absurd h (by decide)⟩
theorem mp_2_130 (mi : aI) (h : iO mi = "FullHouse$Reader") : okM mi mI_83 130 0 4 1 := by
  unfold okM cV cS cI cN
  rw [h]
  exact ⟨fun _ => ⟨⟨gw_692, gw_693, gw_694, ⟨gw_4, gw_695⟩⟩, ⟨by decide +kernel, by decide +kernel, by decide +kernel⟩, ⟨_, rfl, rfl⟩, ⟨by decide +kernel, rfl, rfl⟩⟩, fun h => absurd h (by decide), fun h => absurd h (by decide), fun h => absurd h (by decide), fun h => absurd h (by decide), fun h => absurd h (by decide), fun h => absurd h (by decide)⟩
theorem mp_2_137 (mi : aI) (h : iO mi = "FullHouse$Reader") : okM mi mI_28 137 0 1 1 := by
  unfold okM cV cS cI cN
  rw [h]
  exact ⟨fun _ => ⟨⟨gw_675, gw_410, gw_411, ⟨gw_4, gw_412⟩⟩, ⟨by decide +kernel, by decide +kernel, by decide +kernel⟩, ⟨_, rfl, rfl⟩, ⟨by decide +kernel, rfl, rfl⟩⟩, fun h => absurd h (by decide), fun h => absurd h (by decide), fun h => absurd h (by decide), fun h => absurd h (by decide), fun h => absurd h (by decide), fun h => absurd h (by decide)⟩
theorem mp_2_141 (mi : aI) (h : iO mi = "FullHouse$Reader") : okM mi mI_29 141 0 1 1 := by
  unfold okM cV cS cI cN
  rw [h]
  exact ⟨fun _ => ⟨⟨gw_680, gw_414, gw_415, ⟨gw_4, gw_416⟩⟩, ⟨by decide +kernel, by decide +kernel, by decide +kernel⟩, ⟨_, rfl, rfl⟩, ⟨by decide +kernel, rfl, rfl⟩⟩, fun h => absurd h (by decide), fun h => absurd h (by decide), fun h => absurd h (by decide), fun h => absurd h (by decide), fun h => absurd h (by decide), fun h => absurd h (by decide)⟩
theorem mp_2_151 (mi : aI) (h : iO mi = "FullHouse$Reader") : okM mi mI_68 151 0 0 7 := by
  unfold okM cV cS cI cN
  rw [h]
  exact ⟨fun _ => ⟨⟨gw_625, gw_626, gw_627, ⟨gw_3, gw_628⟩⟩, ⟨by decide +kernel, by decide +kernel, by decide +kernel⟩, ⟨_, rfl, rfl⟩, ⟨by decide +kernel, rfl, rfl⟩⟩, fun h => absurd h (by decide), fun h => absurd h (by decide), fun h => absurd h (by decide), fun h => absurd h (by decide), fun h => absurd h (by decide), fun h => absurd h (by decide)⟩
theorem mp_2_154 (mi : aI) (h : iO mi = "FullHouse$Reader") : okM mi mI_69 154 0 0 7 := by
  unfold okM cV cS cI cN
  rw [h]
  exact ⟨fun _ => ⟨⟨gw_629, gw_630, gw_631, ⟨gw_3, gw_632⟩⟩, ⟨by decide +kernel, by decide +kernel, by decide +kernel⟩, ⟨_, rfl, rfl⟩, ⟨by decide +kernel, rfl, rfl⟩⟩, fun h => absurd h (by decide), fun h => absurd h (by decide), fun h => absurd h (by decide), fun h => absurd h (by decide), fun h => absurd h (by decide), fun h => absurd h (by decide)⟩
def mL_3 : List (Nat × Nat × Nat × Nat) := [(1, 0, 4, 0), (26, 49, 1, 1), (33, 50, 1, 1), (36, 51, 1, 1)]
theorem mp_3_1 (mi mj : aI) (h : iO mi = "FullHouse$Tokens") (cn : Nat) : okM mi mj 1 4 0 cn := by
  unfold okM
  rw [h]
  exact ⟨fun h => absurd h (by decide), fun h => absurd h (by decide), fun h => absurd h (by decide), fun h => absurd h (by decide), fun _ => ⟨gw_44, gw_31, gw_32⟩, fun h => absurd h (by decide), fun h => absurd h (by decide)⟩
theorem mp_3_26 (mi : aI) (h : iO mi = "FullHouse$Tokens") : okM mi mI_49 26 1 1 7 := by
  unfold okM cV cS cI cN
  rw [h]
  exact ⟨fun h => absurd h (by decide), fun _ => ⟨⟨gw_547, gw_548, ⟨gw_3, gw_549⟩⟩, ⟨by decide +kernel, by decide +kernel, by decide +kernel⟩, ⟨by decide +kernel, rfl, rfl⟩⟩, fun h => absurd h (by decide), fun h => absurd h (by decide), fun h => absurd h (by decide), fun h => absurd h (by decide), fun h => absurd h (by decide)⟩
theorem mp_3_33 (mi : aI) (h : iO mi = "FullHouse$Tokens") : okM mi mI_50 33 1 1 7 := by
  unfold okM cV cS cI cN
  rw [h]
  exact ⟨fun h => absurd h (by decide), fun _ => ⟨⟨gw_550, gw_551, ⟨gw_3, gw_552⟩⟩, ⟨by decide +kernel, by decide +kernel, by decide +kernel⟩, ⟨by decide +kernel, rfl, rfl⟩⟩, fun h => absurd h (by decide), fun h => absurd h (by decide), fun h => absurd h (by decide), fun h => absurd h (by decide), fun h => absurd h (by decide)⟩
theorem mp_3_36 (mi : aI) (h : iO mi = "FullHouse$Tokens") : okM mi mI_51 36 1 1 7 := by
  unfold okM cV cS cI cN
  rw [h]
  exact ⟨fun h => absurd h (by decide), fun _ => ⟨⟨gw_553, gw_554, ⟨gw_3, gw_555⟩⟩, ⟨by decide +kernel, by decide +kernel, by decide +kernel⟩, ⟨by decide +kernel, rfl, rfl⟩⟩, fun h => absurd h (by decide), fun h => absurd h (by decide), fun h => absurd h (by decide), fun h => absurd h (by decide), fun h => absurd h (by decide)⟩
def mL_4 : List (Nat × Nat × Nat × Nat) := [(3, 0, 4, 0), (61, 12, 1, 2), (67, 28, 0, 1), (71, 29, 0, 1), (74, 32, 0, 0), (78, 31, 0, 0)]
theorem mp_4_3 (mi mj : aI) (h : iO mi = "FullHouse$House") (cn : Nat) : okM mi mj 3 4 0 cn := by
  unfold okM
  rw [h]
  exact ⟨fun h => absurd h (by decide), fun h => absurd h (by decide), fun h => absurd h (by decide), fun h => absurd h (by decide), fun _ => ⟨gw_85, gw_31, gw_32⟩, fun h => absurd h (by decide), fun h => absurd h (by decide)⟩
theorem mp_4_61 (mi : aI) (h : iO mi = "FullHouse$House") : okM mi mI_12 61 1 2 0 := by
  unfold okM cV cS cI cN
  rw [h]
  exact ⟨fun h => absurd h (by decide), fun _ => ⟨⟨gw_538, gw_303, ⟨gw_11, gw_304⟩⟩, ⟨by decide +kernel, by decide +kernel, by decide +kernel⟩, ⟨by decide +kernel, rfl, rfl⟩⟩, fun h => absurd h (by decide), fun h => absurd h (by decide), fun h => absurd h (by decide), fun h => absurd h (by decide), fun h => absurd h (by decide)⟩
theorem mp_4_67 (mi : aI) (h : iO mi = "FullHouse$House") : okM mi mI_28 67 0 1 1 := by
  unfold okM cV cS cI cN
  rw [h]
  exact ⟨fun _ => ⟨⟨gw_685, gw_410, gw_411, ⟨gw_4, gw_412⟩⟩, ⟨by decide +kernel, by decide +kernel, by decide +kernel⟩, ⟨_, rfl, rfl⟩, ⟨by decide +kernel, rfl, rfl⟩⟩, fun h => absurd h (by decide), fun h => absurd h (by decide), fun h => absurd h (by decide), fun h => absurd h (by decide), fun h => absurd h (by decide), fun h => absurd h (by decide)⟩
theorem mp_4_71 (mi : aI) (h : iO mi = "FullHouse$House") : okM mi mI_29 71 0 1 1 := by
  unfold okM cV cS cI cN
  rw [h]
  exact ⟨fun _ => ⟨⟨gw_686, gw_414, gw_415, ⟨gw_4, gw_416⟩⟩, ⟨by decide +kernel, by decide +kernel, by decide +kernel⟩, ⟨_, rfl, rfl⟩, ⟨by decide +kernel, rfl, rfl⟩⟩, fun h => absurd h (by decide), fun h => absurd h (by decide), fun h => absurd h (by decide), fun h => absurd h (by decide), fun h => absurd h (by decide), fun h => absurd h (by decide)⟩
theorem mp_4_74 (mi : aI) (h : iO mi = "FullHouse$House") : okM mi mI_32 74 0 0 1 := by
  unfold okM cV cS cI cN
  rw [h]
  exact ⟨fun _ => ⟨⟨gw_425, gw_426, gw_427, ⟨gw_4, gw_428⟩⟩, ⟨by decide +kernel, by decide +kernel, by decide +kernel⟩, ⟨_, rfl, rfl⟩, ⟨by decide +kernel, rfl, rfl⟩⟩, fun h => absurd h (by decide), fun h => absurd h (by decide), fun h => absurd h (by decide), fun h => absurd h (by decide), fun h => absurd h (by decide), fun h => absurd h (by decide)⟩
theorem mp_4_78 (mi : aI) (h : iO mi = "FullHouse$House") : okM mi mI_31 78 0 0 1 := by
  unfold okM cV cS cI cN
  rw [h]
  exact ⟨fun _ => ⟨⟨gw_887, gw_422, gw_423, ⟨gw_4, gw_424⟩⟩, ⟨by decide +kernel, by decide +kernel, by decide +kernel⟩, ⟨_, rfl, rfl⟩, ⟨by decide +kernel, rfl, rfl⟩⟩, fun h => absurd h (by decide), fun h => absurd h (by decide), fun h => absurd h (by decide), fun h => absurd h (by decide), fun h => absurd h (by decide), fun h => absurd h (by decide)⟩
def mL_5 : List (Nat × Nat × Nat × Nat) := [(3, 0, 4, 0), (24, 15, 0, 1)]
theorem mp_5_3 (mi mj : aI) (h : iO mi = "FullHouse$Spans") (cn : Nat) : okM mi mj 3 4 0 cn := by
  unfold okM
  rw [h]
  exact ⟨fun h => absurd h (by decide), fun h => absurd h (by decide), fun h => absurd h (by decide), fun h => absurd h (by decide), fun _ => ⟨gw_187, gw_31, gw_32⟩, fun h => absurd h (by decide), fun h => absurd h (by decide)⟩
theorem mp_5_24 (mi : aI) (h : iO mi = "FullHouse$Spans") : okM mi mI_15 24 0 1 1 := by
  unfold okM cV cS cI cN
  rw [h]
  exact ⟨fun _ => ⟨⟨gw_313, gw_314, gw_315, ⟨gw_4, gw_316⟩⟩, ⟨by decide +kernel, by decide +kernel, by decide +kernel⟩, ⟨_, rfl, rfl⟩, ⟨by decide +kernel, rfl, rfl⟩⟩, fun h => absurd h (by decide), fun h => absurd h (by decide), fun h => absurd h (by decide), fun h => absurd h (by decide), fun h => absurd h (by decide), fun h => absurd h (by decide)⟩
def mL_6 : List (Nat × Nat × Nat × Nat) := [(3, 0, 4, 0), (18, 17, 1, 2), (30, 18, 0, 0), (38, 19, 0, 4), (45, 21, 1, 1), (51, 119, 0, 2), (55, 32, 0, 0)]
theorem mp_6_3 (mi mj : aI) (h : iO mi = "FullHouse$Lefts") (cn : Nat) : okM mi mj 3 4 0 cn := by
  unfold okM
  rw [h]
  exact ⟨fun h => absurd h (by decide), fun h => absurd h (by decide), fun h => absurd h (by decide), fun h => absurd h (by decide), fun _ => ⟨gw_202, gw_31, gw_32⟩, fun h => absurd h (by decide), fun h => absurd h (by decide)⟩
theorem mp_6_18 (mi : aI) (h : iO mi = "FullHouse$Lefts") : okM mi mI_17 18 1 2 0 := by
  unfold okM cV cS cI cN
  rw [h]
  exact ⟨fun h => absurd h (by decide), fun _ => ⟨⟨gw_321, gw_322, ⟨gw_11, gw_323⟩⟩, ⟨by decide +kernel, by decide +kernel, by decide +kernel⟩, ⟨by decide +kernel, rfl, rfl⟩⟩, fun h => absurd h (by decide), fun h => absurd h (by decide), fun h => absurd h (by decide), fun h => absurd h (by decide), fun h => absurd h (by decide)⟩
theorem mp_6_30 (mi : aI) (h : iO mi = "FullHouse$Lefts") : okM mi mI_18 30 0 0 1 := by
  unfold okM cV cS cI cN
  rw [h]
  exact ⟨fun _ => ⟨⟨gw_324, gw_325, gw_326, ⟨gw_4, gw_327⟩⟩, ⟨by decide +kernel, by decide +kernel, by decide +kernel⟩, ⟨_, rfl, rfl⟩, ⟨by decide +kernel, rfl, rfl⟩⟩, fun h => absurd h (by decide), fun h => absurd h (by decide), fun h => absurd h (by decide), fun h => absurd h (by decide), fun h => absurd h (by decide), fun h => absurd h (by decide)⟩
theorem mp_6_38 (mi : aI) (h : iO mi = "FullHouse$Lefts") : okM mi mI_19 38 0 4 3 := by
  unfold okM cV cS cI cN
  rw [h]
  exact ⟨fun _ => ⟨⟨gw_328, gw_329, gw_330, ⟨gw_6, gw_331⟩⟩, ⟨by decide +kernel, by decide +kernel, by decide +kernel⟩, ⟨_, rfl, rfl⟩, ⟨by decide +kernel, rfl, rfl⟩⟩, fun h => absurd h (by decide), fun h => absurd h (by decide), fun h => absurd h (by decide), fun h => absurd h (by decide), fun h => absurd h (by decide), fun h => absurd h (by decide)⟩
theorem mp_6_45 (mi : aI) (h : iO mi = "FullHouse$Lefts") : okM mi mI_21 45 1 1 0 := by
  unfold okM cV cS cI cN
  rw [h]
  exact ⟨fun h => absurd h (by decide), fun _ => ⟨⟨gw_336, gw_337, ⟨gw_12, gw_338⟩⟩, ⟨by decide +kernel, by decide +kernel, by decide +kernel⟩, ⟨by decide +kernel, rfl, rfl⟩⟩, fun h => absurd h (by decide), fun h => absurd h (by decide), fun h => absurd h (by decide), fun h => absurd h (by decide), fun h => absurd h (by decide)⟩
theorem mp_6_51 (mi : aI) (h : iO mi = "FullHouse$Lefts") : okM mi mI_119 51 0 2 3 := by
  unfold okM cV cS cI cN
  rw [h]
  exact ⟨fun _ => ⟨⟨gw_850, gw_851, gw_852, ⟨gw_6, gw_853⟩⟩, ⟨by decide +kernel, by decide +kernel, by decide +kernel⟩, ⟨_, rfl, rfl⟩, ⟨by decide +kernel, rfl, rfl⟩⟩, fun h => absurd h (by decide), fun h => absurd h (by decide), fun h => absurd h (by decide), fun h => absurd h (by decide), fun h => absurd h (by decide), fun h => absurd h (by decide)⟩
theorem mp_6_55 (mi : aI) (h : iO mi = "FullHouse$Lefts") : okM mi mI_32 55 0 0 1 := by
  unfold okM cV cS cI cN
  rw [h]
  exact ⟨fun _ => ⟨⟨gw_877, gw_426, gw_427, ⟨gw_4, gw_428⟩⟩, ⟨by decide +kernel, by decide +kernel, by decide +kernel⟩, ⟨_, rfl, rfl⟩, ⟨by decide +kernel, rfl, rfl⟩⟩, fun h => absurd h (by decide), fun h => absurd h (by decide), fun h => absurd h (by decide), fun h => absurd h (by decide), fun h => absurd h (by decide), fun h => absurd h (by decide)⟩
def mL_7 : List (Nat × Nat × Nat × Nat) := [(5, 0, 4, 0), (23, 104, 1, 1), (27, 102, 0, 0), (43, 103, 1, 3), (53, 105, 0, 3), (57, 18, 0, 0), (83, 108, 1, 1), (89, 17, 1, 2), (95, 106, 0, 3), (98, 107, 1, 1)]
theorem mp_7_5 (mi mj : aI) (h : iO mi = "FullHouse$Rows") (cn : Nat) : okM mi mj 5 4 0 cn := by
  unfold okM
  rw [h]
  exact ⟨fun h => absurd h (by decide), fun h => absurd h (by decide), fun h => absurd h (by decide), fun h => absurd h (by decide), fun _ => ⟨gw_216, gw_31, gw_32⟩, fun h => absurd h (by decide), fun h => absurd h (by decide)⟩
theorem mp_7_23 (mi : aI) (h : iO mi = "FullHouse$Rows") : okM mi mI_104 23 1 1 5 := by
  unfold okM cV cS cI cN
  rw [h]
  exact ⟨fun h => absurd h (by decide), fun _ => ⟨⟨gw_793, gw_794, ⟨gw_7, gw_795⟩⟩, ⟨by decide +kernel, by decide +kernel, by decide +kernel⟩, ⟨by decide +kernel, rfl, rfl⟩⟩, fun h => absurd h (by decide), fun h => absurd h (by decide), fun h => absurd h (by decide), fun h => absurd h (by decide), fun h => absurd h (by decide)⟩
theorem mp_7_27 (mi : aI) (h : iO mi = "FullHouse$Rows") : okM mi mI_102 27 0 0 5 := by
  unfold okM cV cS cI cN
  rw [h]
  exact ⟨fun _ => ⟨⟨gw_784, gw_786, gs_18, ⟨gw_7, gw_787⟩⟩, ⟨by decide +kernel, by decide +kernel, by decide +kernel⟩, ⟨_, rfl, rfl⟩, ⟨by decide +kernel, rfl, rfl⟩⟩, fun h => absurd h (by decide), fun h => absurd h (by decide), fun h => absurd h (by decide), fun h => absurd h (by decide), fun h => absurd h (by decide), fun h => absurd h (by decide)⟩
theorem mp_7_43 (mi : aI) (h : iO mi = "FullHouse$Rows") : okM mi mI_103 43 1 3 5 := by
  unfold okM cV cS cI cN
  rw [h]
  exact ⟨fun h => absurd h (by decide), fun _ => ⟨⟨gw_790, gw_791, ⟨gw_7, gw_792⟩⟩, ⟨by decide +kernel, by decide +kernel, by decide +kernel⟩, ⟨by decide +kernel, rfl, rfl⟩⟩, fun h => absurd h (by decide), fun h => absurd h (by decide), fun h => absurd h (by decide), fun h => absurd h (by decide), fun h => absurd h (by decide)⟩
theorem mp_7_53 (mi : aI) (h : iO mi = "FullHouse$Rows") : okM mi mI_105 53 0 3 5 := by
  unfold okM cV cS cI cN
  rw [h]
  exact ⟨fun _ => ⟨⟨gw_796, gw_798, gs_19, ⟨gw_7, gw_799⟩⟩, ⟨by decide +kernel, by decide +kernel, by decide +kernel⟩, ⟨_, rfl, rfl⟩, ⟨by decide +kernel, rfl, rfl⟩⟩, fun h => absurd h (by decide), fun h => absurd h (by decide), fun h => absurd h (by decide), fun h => absurd h (by decide), fun h => absurd h (by decide), fun h => absurd h (by decide)⟩
theorem mp_7_57 (mi : aI) (h : iO mi = "FullHouse$Rows") : okM mi mI_18 57 0 0 1 := by
  unfold okM cV cS cI cN
  rw [h]
  exact ⟨fun _ => ⟨⟨gw_808, gw_325, gw_326, ⟨gw_4, gw_327⟩⟩, ⟨by decide +kernel, by decide +kernel, by decide +kernel⟩, ⟨_, rfl, rfl⟩, ⟨by decide +kernel, rfl, rfl⟩⟩, fun h => absurd h (by decide), fun h => absurd h (by decide), fun h => absurd h (by decide), fun h => absurd h (by decide), fun h => absurd h (by decide), fun h => absurd h (by decide)⟩
theorem mp_7_83 (mi : aI) (h : iO mi = "FullHouse$Rows") : okM mi mI_108 83 1 1 5 := by
  unfold okM cV cS cI cN
  rw [h]
  exact ⟨fun h => absurd h (by decide), fun _ => ⟨⟨gw_1043, gw_811, ⟨gw_7, gw_812⟩⟩, ⟨by decide +kernel, by decide +kernel, by decide +kernel⟩, ⟨by decide +kernel, rfl, rfl⟩⟩, fun h => absurd h (by decide), fun h => absurd h (by decide), fun h => absurd h (by decide), fun h => absurd h (by decide), fun h => absurd h (by decide)⟩
theorem mp_7_89 (mi : aI) (h : iO mi = "FullHouse$Rows") : okM mi mI_17 89 1 2 0 := by
  unfold okM cV cS cI cN
  rw [h]
  exact ⟨fun h => absurd h (by decide), fun _ => ⟨⟨gw_789, gw_322, ⟨gw_11, gw_323⟩⟩, ⟨by decide +kernel, by decide +kernel, by decide +kernel⟩, ⟨by decide +kernel, rfl, rfl⟩⟩, fun h => absurd h (by decide), fun h => absurd h (by decide), fun h => absurd h (by decide), fun h => absurd h (by decide), fun h => absurd h (by decide)⟩
theorem mp_7_95 (mi : aI) (h : iO mi = "FullHouse$Rows") : okM mi mI_106 95 0 3 5 := by
  unfold okM cV cS cI cN
  rw [h]
  exact ⟨fun _ => ⟨⟨gw_800, gw_802, gs_20, ⟨gw_7, gw_803⟩⟩, ⟨by decide +kernel, by decide +kernel, by decide +kernel⟩, ⟨_, rfl, rfl⟩, ⟨by decide +kernel, rfl, rfl⟩⟩, fun h => absurd h (by decide), fun h => absurd h (by decide), fun h => absurd h (by decide), fun h => absurd h (by decide), fun h => absurd h (by decide), fun h => absurd h (by decide)⟩
theorem mp_7_98 (mi : aI) (h : iO mi = "FullHouse$Rows") : okM mi mI_107 98 1 1 0 := by
  unfold okM cV cS cI cN
  rw [h]
  exact ⟨fun h => absurd h (by decide), fun _ => ⟨⟨gw_804, gw_805, ⟨gw_12, gw_806⟩⟩, ⟨by decide +kernel, by decide +kernel, by decide +kernel⟩, ⟨by decide +kernel, rfl, rfl⟩⟩, fun h => absurd h (by decide), fun h => absurd h (by decide), fun h => absurd h (by decide), fun h => absurd h (by decide), fun h => absurd h (by decide)⟩
def mL_8 : List (Nat × Nat × Nat × Nat) := [(3, 0, 4, 0), (11, 6, 3, 0), (29, 131, 0, 3), (33, 135, 0, 1), (39, 127, 0, 0), (43, 132, 0, 3), (47, 31, 0, 0), (50, 133, 0, 0), (54, 134, 0, 4), (65, 0, 5, 5), (74, 28, 0, 1), (81, 16, 0, 3), (85, 18, 0, 0), (88, 119, 0, 2), (98, 21, 1, 1), (101, 137, 1, 3)]
theorem mp_8_3 (mi mj : aI) (h : iO mi = "FullHouse$Learning") (cn : Nat) : okM mi mj 3 4 0 cn := by
  unfold okM
  rw [h]
  exact ⟨fun h => absurd h (by decide), fun h => absurd h (by decide), fun h => absurd h (by decide), fun h => absurd h (by decide), fun _ => ⟨gw_235, gw_31, gw_32⟩, fun h => absurd h (by decide), fun h => absurd h (by decide)⟩
theorem mp_8_11 (mi : aI) (h : iO mi = "FullHouse$Learning") : okM mi mI_6 11 3 0 3 := by
  unfold okM cV cS cI cN
  rw [h]
  exact ⟨fun h => absurd h (by decide), fun h => absurd h (by decide), fun h => absurd h (by decide), fun _ => ⟨⟨⟨_, List.mem_of_getElem? (i := 7) rfl⟩, gw_200, ⟨gw_6, gw_201⟩, rfl, rfl⟩, ⟨by decide +kernel, by decide +kernel, by decide +kernel⟩, ⟨by decide +kernel, rfl, rfl⟩⟩, fun h => absurd h (by decide), fun h => absurd h (by decide), fun h => absurd h (by decide)⟩
theorem mp_8_29 (mi : aI) (h : iO mi = "FullHouse$Learning") : okM mi mI_131 29 0 3 2 := by
  unfold okM cV cS cI cN
  rw [h]
  exact ⟨fun _ => ⟨⟨gw_900, gw_901, gw_902, ⟨gw_8, gw_903⟩⟩, ⟨by decide +kernel, by decide +kernel, by decide +kernel⟩, ⟨_, rfl, rfl⟩, ⟨by decide +kernel, rfl, rfl⟩⟩, fun h => absurd h (by decide), fun h => absurd h (by decide), fun h => absurd h (by decide), fun h => absurd h (by decide), fun h => absurd h (by decide), fun h => absurd h (by decide)⟩
theorem mp_8_33 (mi : aI) (h : iO mi = "FullHouse$Learning") : okM mi mI_135 33 0 1 1 := by
  unfold okM cV cS cI cN
  rw [h]
  exact ⟨fun _ => ⟨⟨gw_923, gw_924, gw_925, ⟨gw_4, gw_926⟩⟩, ⟨by decide +kernel, by decide +kernel, by decide +kernel⟩, ⟨_, rfl, rfl⟩, ⟨by decide +kernel, rfl, rfl⟩⟩, fun h => absurd h (by decide), fun h => absurd h (by decide), fun h => absurd h (by decide), fun h => absurd h (by decide), fun h => absurd h (by decide), fun h => absurd h (by decide)⟩
theorem mp_8_39 (mi : aI) (h : iO mi = "FullHouse$Learning") : okM mi mI_127 39 0 0 1 := by
  unfold okM cV cS cI cN
  rw [h]
  exact ⟨fun _ => ⟨⟨gw_904, gw_884, gw_885, ⟨gw_4, gw_886⟩⟩, ⟨by decide +kernel, by decide +kernel, by decide +kernel⟩, ⟨_, rfl, rfl⟩, ⟨by decide +kernel, rfl, rfl⟩⟩, fun h => absurd h (by decide), fun h => absurd h (by decide), fun h => absurd h (by decide), fun h => absurd h (by decide), fun h => absurd h (by decide), fun h => absurd h (by decide)⟩
theorem mp_8_43 (mi : aI) (h : iO mi = "FullHouse$Learning") : okM mi mI_132 43 0 3 2 := by
  unfold okM cV cS cI cN
  rw [h]
  exact ⟨fun _ => ⟨⟨gw_905, gw_907, gs_22, ⟨gw_8, gw_908⟩⟩, ⟨by decide +kernel, by decide +kernel, by decide +kernel⟩, ⟨_, rfl, rfl⟩, ⟨by decide +kernel, rfl, rfl⟩⟩, fun h => absurd h (by decide), fun h => absurd h (by decide), fun h => absurd h (by decide), fun h => absurd h (by decide), fun h => absurd h (by decide), fun h => absurd h (by decide)⟩
theorem mp_8_47 (mi : aI) (h : iO mi = "FullHouse$Learning") : okM mi mI_31 47 0 0 1 := by
  unfold okM cV cS cI cN
  rw [h]
  exact ⟨fun _ => ⟨⟨gw_927, gw_422, gw_423, ⟨gw_4, gw_424⟩⟩, ⟨by decide +kernel, by decide +kernel, by decide +kernel⟩, ⟨_, rfl, rfl⟩, ⟨by decide +kernel, rfl, rfl⟩⟩, fun h => absurd h (by decide), fun h => absurd h (by decide), fun h => absurd h (by decide), fun h => absurd h (by decide), fun h => absurd h (by decide), fun h => absurd h (by decide)⟩
theorem mp_8_50 (mi : aI) (h : iO mi = "FullHouse$Learning") : okM mi mI_133 50 0 0 1 := by
  unfold okM cV cS cI cN
  rw [h]
  exact ⟨fun _ => ⟨⟨gw_909, gw_910, gw_911, ⟨gw_4, gw_912⟩⟩, ⟨by decide +kernel, by decide +kernel, by decide +kernel⟩, ⟨_, rfl, rfl⟩, ⟨by decide +kernel, rfl, rfl⟩⟩, fun h => absurd h (by decide), fun h => absurd h (by decide), fun h => absurd h (by decide), fun h => absurd h (by decide), fun h => absurd h (by decide), fun h => absurd h (by decide)⟩
theorem mp_8_54 (mi : aI) (h : iO mi = "FullHouse$Learning") : okM mi mI_134 54 0 4 2 := by
  unfold okM cV cS cI cN
  rw [h]
  exact ⟨fun _ => ⟨⟨gw_913, gw_915, gs_23, ⟨gw_8, gw_916⟩⟩, ⟨by decide +kernel, by decide +kernel, by decide +kernel⟩, ⟨_, rfl, rfl⟩, ⟨by decide +kernel, rfl, rfl⟩⟩, fun h => absurd h (by decide), fun h => absurd h (by decide), fun h => absurd h (by decide), fun h => absurd h (by decide), fun h => absurd h (by decide), fun h => absurd h (by decide)⟩
theorem mp_8_65 (mi mj : aI) (h : iO mi = "FullHouse$Learning") (cn : Nat) : okM mi mj 65 5 5 cn := by
  unfold okM cY
  rw [h]
  exact ⟨fun h => absurd h (by decide), fun h => absurd h (by decide), fun h => absurd h (by decide), fun h => absurd h (by decide), fun h => absurd h (by decide), fun _ => ⟨gw_917, gw_443, gw_442, gw_24⟩, fun h => absurd h (by decide)⟩
theorem mp_8_74 (mi : aI) (h : iO mi = "FullHouse$Learning") : okM mi mI_28 74 0 1 1 := by
  unfold okM cV cS cI cN
  rw [h]
  exact ⟨fun _ => ⟨⟨gw_918, gw_410, gw_411, ⟨gw_4, gw_412⟩⟩, ⟨by decide +kernel, by decide +kernel, by decide +kernel⟩, ⟨_, rfl, rfl⟩, ⟨by decide +kernel, rfl, rfl⟩⟩, fun h => absurd h (by decide), fun h => absurd h (by decide), fun h => absurd h (by decide), fun h => absurd h (by decide), fun h => absurd h (by decide), fun h => absurd h (by decide)⟩
theorem mp_8_81 (mi : aI) (h : iO mi = "FullHouse$Learning") : okM mi mI_16 81 0 3 3 := by
  unfold okM cV cS cI cN
  rw [h]
  exact ⟨fun _ => ⟨⟨gw_919, gw_318, gw_319, ⟨gw_6, gw_320⟩⟩, ⟨by decide +kernel, by decide +kernel, by decide +kernel⟩, ⟨_, rfl, rfl⟩, ⟨by decide +kernel, rfl, rfl⟩⟩, fun h => absurd h (by decide), fun h => absurd h (by decide), fun h => absurd h (by decide), fun h => absurd h (by decide), fun h => absurd h (by decide), fun h => absurd h (by decide)⟩
theorem mp_8_85 (mi : aI) (h : iO mi = "FullHouse$Learning") : okM mi mI_18 85 0 0 1 := by
  unfold okM cV cS cI cN
  rw [h]
  exact ⟨fun _ => ⟨⟨gw_920, gw_325, gw_326, ⟨gw_4, gw_327⟩⟩, ⟨by decide +kernel, by decide +kernel, by decide +kernel⟩, ⟨_, rfl, rfl⟩, ⟨by decide +kernel, rfl, rfl⟩⟩, fun h => absurd h (by decide), fun h => absurd h (by decide), fun h => absurd h (by decide), fun h => absurd h (by decide), fun h => absurd h (by decide), fun h => absurd h (by decide)⟩
theorem mp_8_88 (mi : aI) (h : iO mi = "FullHouse$Learning") : okM mi mI_119 88 0 2 3 := by
  unfold okM cV cS cI cN
  rw [h]
  exact ⟨fun _ => ⟨⟨gw_921, gw_851, gw_852, ⟨gw_6, gw_853⟩⟩, ⟨by decide +kernel, by decide +kernel, by decide +kernel⟩, ⟨_, rfl, rfl⟩, ⟨by decide +kernel, rfl, rfl⟩⟩, fun h => absurd h (by decide), fun h => absurd h (by decide), fun h => absurd h (by decide), fun h => absurd h (by decide), fun h => absurd h (by decide), fun h => absurd h (by decide)⟩
theorem mp_8_98 (mi : aI) (h : iO mi = "FullHouse$Learning") : okM mi mI_21 98 1 1 0 := by
  unfold okM cV cS cI cN
  rw [h]
  exact ⟨fun h => absurd h (by decide), fun _ => ⟨⟨gw_933, gw_337, ⟨gw_12, gw_338⟩⟩, ⟨by decide +kernel, by decide +kernel, by decide +kernel⟩, ⟨by decide +kernel, rfl, rfl⟩⟩, fun h => absurd h (by decide), fun h => absurd h (by decide), fun h => absurd h (by decide), fun h => absurd h (by decide), fun h => absurd h (by decide)⟩
theorem mp_8_101 (mi : aI) (h : iO mi = "FullHouse$Learning") : okM mi mI_137 101 1 3 2 := by
  unfold okM cV cS cI cN
  rw [h]
  exact ⟨fun h => absurd h (by decide), fun _ => ⟨⟨gw_934, gw_935, ⟨gw_8, gw_936⟩⟩, ⟨by decide +kernel, by decide +kernel, by decide +kernel⟩, ⟨by decide +kernel, rfl, rfl⟩⟩, fun h => absurd h (by decide), fun h => absurd h (by decide), fun h => absurd h (by decide), fun h => absurd h (by decide), fun h => absurd h (by decide)⟩
def mL_9 : List (Nat × Nat × Nat × Nat) := [(3, 0, 4, 0), (22, 146, 0, 3), (26, 148, 1, 2), (36, 32, 0, 0), (40, 101, 0, 3), (46, 147, 1, 2), (51, 71, 0, 0), (59, 108, 1, 1), (63, 112, 1, 2), (67, 28, 0, 1)]
theorem mp_9_3 (mi mj : aI) (h : iO mi = "FullHouse$Guest") (cn : Nat) : okM mi mj 3 4 0 cn := by
  unfold okM
  rw [h]
  exact ⟨fun h => absurd h (by decide), fun h => absurd h (by decide), fun h => absurd h (by decide), fun h => absurd h (by decide), fun _ => ⟨gw_256, gw_31, gw_32⟩, fun h => absurd h (by decide), fun h => absurd h (by decide)⟩
theorem mp_9_22 (mi : aI) (h : iO mi = "FullHouse$Guest") : okM mi mI_146 22 0 3 0 := by
  unfold okM cV cS cI cN
  rw [h]
  exact ⟨fun _ => ⟨⟨gw_970, gw_972, gs_25, ⟨gw_9, gw_973⟩⟩, ⟨by decide +kernel, by decide +kernel, by decide +kernel⟩, ⟨_, rfl, rfl⟩, ⟨by decide +kernel, rfl, rfl⟩⟩, fun h => absurd h (by decide), fun h => absurd h (by decide), fun h => absurd h (by decide), fun h => absurd h (by decide), fun h => absurd h (by decide), fun h => absurd h (by decide)⟩
theorem mp_9_26 (mi : aI) (h : iO mi = "FullHouse$Guest") : okM mi mI_148 26 1 2 0 := by
  unfold okM cV cS cI cN
  rw [h]
  exact ⟨fun h => absurd h (by decide), fun _ => ⟨⟨gw_984, gw_985, ⟨gw_9, gw_986⟩⟩, ⟨by decide +kernel, by decide +kernel, by decide +kernel⟩, ⟨by decide +kernel, rfl, rfl⟩⟩, fun h => absurd h (by decide), fun h => absurd h (by decide), fun h => absurd h (by decide), fun h => absurd h (by decide), fun h => absurd h (by decide)⟩
theorem mp_9_36 (mi : aI) (h : iO mi = "FullHouse$Guest") : okM mi mI_32 36 0 0 1 := by
  unfold okM cV cS cI cN
  rw [h]
  exact ⟨fun _ => ⟨⟨gw_974, gw_426, gw_427, ⟨gw_4, gw_428⟩⟩, ⟨by decide +kernel, by decide +kernel, by decide +kernel⟩, ⟨_, rfl, rfl⟩, ⟨by decide +kernel, rfl, rfl⟩⟩, fun h => absurd h (by decide), fun h => absurd h (by decide), fun h => absurd h (by decide), fun h => absurd h (by decide), fun h => absurd h (by decide), fun h => absurd h (by decide)⟩
theorem mp_9_40 (mi : aI) (h : iO mi = "FullHouse$Guest") : okM mi mI_101 40 0 3 5 := by
  unfold okM cV cS cI cN
  rw [h]
  exact ⟨fun _ => ⟨⟨gw_975, gw_781, gw_782, ⟨gw_7, gw_783⟩⟩, ⟨by decide +kernel, by decide +kernel, by decide +kernel⟩, ⟨_, rfl, rfl⟩, ⟨by decide +kernel, rfl, rfl⟩⟩, fun h => absurd h (by decide), fun h => absurd h (by decide), fun h => absurd h (by decide), fun h => absurd h (by decide), fun h => absurd h (by decide), fun h => absurd h (by decide)⟩
theorem mp_9_46 (mi : aI) (h : iO mi = "FullHouse$Guest") : okM mi mI_147 46 1 2 0 := by
  unfold okM cV cS cI cN
  rw [h]
  exact ⟨fun h => absurd h (by decide), fun _ => ⟨⟨gw_976, gw_977, ⟨gw_9, gw_978⟩⟩, ⟨by decide +kernel, by decide +kernel, by decide +kernel⟩, ⟨by decide +kernel, rfl, rfl⟩⟩, fun h => absurd h (by decide), fun h => absurd h (by decide), fun h => absurd h (by decide), fun h => absurd h (by decide), fun h => absurd h (by decide)⟩
theorem mp_9_51 (mi : aI) (h : iO mi = "FullHouse$Guest") : okM mi mI_71 51 0 0 1 := by
  unfold okM cV cS cI cN
  rw [h]
  exact ⟨fun _ => ⟨⟨gw_983, gw_639, gw_640, ⟨gw_4, gw_641⟩⟩, ⟨by decide +kernel, by decide +kernel, by decide +kernel⟩, ⟨_, rfl, rfl⟩, ⟨by decide +kernel, rfl, rfl⟩⟩, fun h => absurd h (by decide), fun h => absurd h (by decide), fun h => absurd h (by decide), fun h => absurd h (by decide), fun h => absurd h (by decide), fun h => absurd h (by decide)⟩
theorem mp_9_59 (mi : aI) (h : iO mi = "FullHouse$Guest") : okM mi mI_108 59 1 1 5 := by
  unfold okM cV cS cI cN
  rw [h]
  exact ⟨fun h => absurd h (by decide), fun _ => ⟨⟨gw_980, gw_811, ⟨gw_7, gw_812⟩⟩, ⟨by decide +kernel, by decide +kernel, by decide +kernel⟩, ⟨by decide +kernel, rfl, rfl⟩⟩, fun h => absurd h (by decide), fun h => absurd h (by decide), fun h => absurd h (by decide), fun h => absurd h (by decide), fun h => absurd h (by decide)⟩
theorem mp_9_63 (mi : aI) (h : iO mi = "FullHouse$Guest") : okM mi mI_112 63 1 2 5 := by
  unfold okM cV cS cI cN
  rw [h]
  exact ⟨fun h => absurd h (by decide), fun _ => ⟨⟨gw_981, gw_826, ⟨gw_7, gw_827⟩⟩, ⟨by decide +kernel, by decide +kernel, by decide +kernel⟩, ⟨by decide +kernel, rfl, rfl⟩⟩, fun h => absurd h (by decide), fun h => absurd h (by decide), fun h => absurd h (by decide), fun h => absurd h (by decide), fun h => absurd h (by decide)⟩
theorem mp_9_67 (mi : aI) (h : iO mi = "FullHouse$Guest") : okM mi mI_28 67 0 1 1 := by
  unfold okM cV cS cI cN
  rw [h]
  exact ⟨fun _ => ⟨⟨gw_982, gw_410, gw_411, ⟨gw_4, gw_412⟩⟩, ⟨by decide +kernel, by decide +kernel, by decide +kernel⟩, ⟨_, rfl, rfl⟩, ⟨by decide +kernel, rfl, rfl⟩⟩, fun h => absurd h (by decide), fun h => absurd h (by decide), fun h => absurd h (by decide), fun h => absurd h (by decide), fun h => absurd h (by decide), fun h => absurd h (by decide)⟩
def mL_10 : List (Nat × Nat × Nat × Nat) := [(3, 0, 4, 0), (32, 12, 1, 2), (43, 0, 5, 5), (49, 158, 0, 1), (53, 160, 0, 4), (62, 112, 1, 2), (66, 28, 0, 1), (73, 162, 0, 1), (77, 159, 0, 1), (93, 167, 0, 2)]
theorem mp_10_3 (mi mj : aI) (h : iO mi = "FullHouse$Weeks") (cn : Nat) : okM mi mj 3 4 0 cn := by
  unfold okM
  rw [h]
  exact ⟨fun h => absurd h (by decide), fun h => absurd h (by decide), fun h => absurd h (by decide), fun h => absurd h (by decide), fun _ => ⟨gw_272, gw_31, gw_32⟩, fun h => absurd h (by decide), fun h => absurd h (by decide)⟩
theorem mp_10_32 (mi : aI) (h : iO mi = "FullHouse$Weeks") : okM mi mI_12 32 1 2 0 := by
  unfold okM cV cS cI cN
  rw [h]
  exact ⟨fun h => absurd h (by decide), fun _ => ⟨⟨gw_440, gw_303, ⟨gw_11, gw_304⟩⟩, ⟨by decide +kernel, by decide +kernel, by decide +kernel⟩, ⟨by decide +kernel, rfl, rfl⟩⟩, fun h => absurd h (by decide), fun h => absurd h (by decide), fun h => absurd h (by decide), fun h => absurd h (by decide), fun h => absurd h (by decide)⟩
theorem mp_10_43 (mi mj : aI) (h : iO mi = "FullHouse$Weeks") (cn : Nat) : okM mi mj 43 5 5 cn := by
  unfold okM cY
  rw [h]
  exact ⟨fun h => absurd h (by decide), fun h => absurd h (by decide), fun h => absurd h (by decide), fun h => absurd h (by decide), fun h => absurd h (by decide), fun _ => ⟨gw_441, gw_443, gw_442, gw_24⟩, fun h => absurd h (by decide)⟩
theorem mp_10_49 (mi : aI) (h : iO mi = "FullHouse$Weeks") : okM mi mI_158 49 0 1 8 := by
  unfold okM cV cS cI cN
  rw [h]
  exact ⟨fun _ => ⟨⟨gw_1025, gw_1027, gs_26, ⟨gw_10, gw_1028⟩⟩, ⟨by decide +kernel, by decide +kernel, by decide +kernel⟩, ⟨_, rfl, rfl⟩, ⟨by decide +kernel, rfl, rfl⟩⟩, fun h => absurd h (by decide), fun h => absurd h (by decide), fun h => absurd h (by decide), fun h => absurd h (by decide), fun h => absurd h (by decide), fun h => absurd h (by decide)⟩
theorem mp_10_53 (mi : aI) (h : iO mi = "FullHouse$Weeks") : okM mi mI_160 53 0 4 5 := by
  unfold okM cV cS cI cN
  rw [h]
  exact ⟨fun _ => ⟨⟨gw_1035, gw_1036, gw_1037, ⟨gw_7, gw_1038⟩⟩, ⟨by decide +kernel, by decide +kernel, by decide +kernel⟩, ⟨_, rfl, rfl⟩, ⟨by decide +kernel, rfl, rfl⟩⟩, fun h => absurd h (by decide), fun h => absurd h (by decide), fun h => absurd h (by decide), fun h => absurd h (by decide), fun h => absurd h (by decide), fun h => absurd h (by decide)⟩
theorem mp_10_62 (mi : aI) (h : iO mi = "FullHouse$Weeks") : okM mi mI_112 62 1 2 5 := by
  unfold okM cV cS cI cN
  rw [h]
  exact ⟨fun h => absurd h (by decide), fun _ => ⟨⟨gw_1044, gw_826, ⟨gw_7, gw_827⟩⟩, ⟨by decide +kernel, by decide +kernel, by decide +kernel⟩, ⟨by decide +kernel, rfl, rfl⟩⟩, fun h => absurd h (by decide), fun h => absurd h (by decide), fun h => absurd h (by decide), fun h => absurd h (by decide), fun h => absurd h (by decide)⟩
theorem mp_10_66 (mi : aI) (h : iO mi = "FullHouse$Weeks") : okM mi mI_28 66 0 1 1 := by
  unfold okM cV cS cI cN
  rw [h]
  exact ⟨fun _ => ⟨⟨gw_1045, gw_410, gw_411, ⟨gw_4, gw_412⟩⟩, ⟨by decide +kernel, by decide +kernel, by decide +kernel⟩, ⟨_, rfl, rfl⟩, ⟨by decide +kernel, rfl, rfl⟩⟩, fun h => absurd h (by decide), fun h => absurd h (by decide), fun h => absurd h (by decide), fun h => absurd h (by decide), fun h => absurd h (by decide), fun h => absurd h (by decide)⟩
theorem mp_10_73 (mi : aI) (h : iO mi = "FullHouse$Weeks") : okM mi mI_162 73 0 1 8 := by
  unfold okM cV cS cI cN
  rw [h]
  exact ⟨fun _ => ⟨⟨gw_1046, gw_1048, gs_28, ⟨gw_10, gw_1049⟩⟩, ⟨by decide +kernel, by decide +kernel, by decide +kernel⟩, ⟨_, rfl, rfl⟩, ⟨by decide +kernel, rfl, rfl⟩⟩, fun h => absurd h (by decide), fun h => absurd h (by decide), fun h => absurd h (by decide), fun h => absurd h (by decide), fun h => absurd h (by decide), fun h => absurd h (by decide)⟩
theorem mp_10_77 (mi : aI) (h : iO mi = "FullHouse$Weeks") : okM mi mI_159 77 0 1 8 := by
  unfold okM cV cS cI cN
  rw [h]
  exact ⟨fun _ => ⟨⟨gw_1029, gw_1031, gs_27, ⟨gw_10, gw_1032⟩⟩, ⟨by decide +kernel, by decide +kernel, by decide +kernel⟩, ⟨_, rfl, rfl⟩, ⟨by decide +kernel, rfl, rfl⟩⟩, fun h => absurd h (by decide), fun h => absurd h (by decide), fun h => absurd h (by decide), fun h => absurd h (by decide), fun h => absurd h (by decide), fun h => absurd h (by decide)⟩
theorem mp_10_93 (mi : aI) (h : iO mi = "FullHouse$Weeks") : okM mi mI_167 93 0 2 8 := by
  unfold okM cV cS cI cN
  rw [h]
  exact ⟨fun _ => ⟨⟨gw_1066, gw_1067, gw_1068, ⟨gw_10, gw_1069⟩⟩, ⟨by decide +kernel, by decide +kernel, by decide +kernel⟩, ⟨_, rfl, rfl⟩, ⟨by decide +kernel, rfl, rfl⟩⟩, fun h => absurd h (by decide), fun h => absurd h (by decide), fun h => absurd h (by decide), fun h => absurd h (by decide), fun h => absurd h (by decide), fun h => absurd h (by decide)⟩
def mL_11 : List (Nat × Nat × Nat × Nat) := []
def mL_12 : List (Nat × Nat × Nat × Nat) := []
def mL_13 : List (Nat × Nat × Nat × Nat) := [(7, 39, 0, 1), (15, 86, 0, 1), (20, 89, 0, 2), (24, 92, 0, 2), (27, 95, 0, 2), (30, 97, 0, 2), (33, 99, 0, 1), (36, 111, 0, 1), (39, 114, 0, 1), (42, 117, 0, 1), (45, 121, 0, 1), (48, 124, 0, 1), (51, 129, 0, 2), (55, 139, 0, 2), (58, 144, 0, 1), (61, 150, 0, 1), (64, 152, 0, 2), (67, 154, 0, 2), (70, 156, 0, 1), (73, 164, 0, 2), (76, 169, 0, 1), (79, 0, 2, 0), (82, 170, 2, 0), (83, 24, 0, 5), (87, 172, 0, 5), (88, 38, 6, 3), (93, 174, 0, 1), (94, 26, 0, 0), (98, 193, 0, 0), (99, 85, 6, 3), (101, 194, 0, 1), (102, 88, 6, 4), (105, 196, 0, 2), (106, 91, 6, 4), (108, 198, 0, 2), (109, 94, 6, 4), (111, 200, 0, 2), (112, 96, 6, 4), (114, 201, 0, 2), (115, 98, 6, 3), (117, 202, 0, 1), (118, 110, 6, 3), (120, 214, 0, 1), (121, 113, 6, 3), (123, 215, 0, 1), (124, 116, 6, 3), (126, 218, 0, 1), (127, 27, 0, 2), (131, 219, 0, 2), (132, 120, 6, 3), (134, 220, 0, 1), (135, 123, 6, 3), (137, 222, 0, 1), (138, 128, 6, 4), (141, 224, 0, 2), (142, 30, 0, 0), (145, 227, 0, 0), (146, 138, 6, 4), (148, 228, 0, 2), (149, 143, 6, 3), (151, 230, 0, 1), (152, 149, 6, 3), (154, 235, 0, 1), (155, 151, 6, 4), (157, 236, 0, 2), (158, 153, 6, 4), (160, 237, 0, 2), (161, 171, 0, 0), (164, 33, 0, 1), (168, 238, 0, 1), (169, 155, 6, 3), (171, 239, 0, 1), (172, 163, 6, 4), (174, 244, 0, 2), (175, 168, 6, 3), (177, 245, 0, 1), (178, 35, 0, 0), (182, 246, 0, 0), (183, 37, 0, 0), (186, 247, 0, 0)]
theorem mp_13_7 (mi : aI) (h : iO mi = "FullHouseLaw") : okM mi mI_39 7 0 1 9 := by
  unfold okM cV cS cI cN
  rw [h]
  exact ⟨fun _ => ⟨⟨gw_460, gw_461, gw_462, ⟨gw_1, gw_463⟩⟩, ⟨by decide +kernel, by decide +kernel, by decide +kernel⟩, ⟨_, rfl, rfl⟩, ⟨by decide +kernel, rfl, rfl⟩⟩, fun h => absurd h (by decide), fun h => absurd h (by decide), fun h => absurd h (by decide), fun h => absurd h (by decide), fun h => absurd h (by decide), fun h => absurd h (by decide)⟩
theorem mp_13_15 (mi : aI) (h : iO mi = "FullHouseLaw") : okM mi mI_86 15 0 1 9 := by
  unfold okM cV cS cI cN
  rw [h]
  exact ⟨fun _ => ⟨⟨gw_705, gw_706, gw_707, ⟨gw_1, gw_708⟩⟩, ⟨by decide +kernel, by decide +kernel, by decide +kernel⟩, ⟨_, rfl, rfl⟩, ⟨by decide +kernel, rfl, rfl⟩⟩, fun h => absurd h (by decide), fun h => absurd h (by decide), fun h => absurd h (by decide), fun h => absurd h (by decide), fun h => absurd h (by decide), fun h => absurd h (by decide)⟩
theorem mp_13_20 (mi : aI) (h : iO mi = "FullHouseLaw") : okM mi mI_89 20 0 2 9 := by
  unfold okM cV cS cI cN
  rw [h]
  exact ⟨fun _ => ⟨⟨gw_728, gw_729, gw_730, ⟨gw_1, gw_731⟩⟩, ⟨by decide +kernel, by decide +kernel, by decide +kernel⟩, ⟨_, rfl, rfl⟩, ⟨by decide +kernel, rfl, rfl⟩⟩, fun h => absurd h (by decide), fun h => absurd h (by decide), fun h => absurd h (by decide), fun h => absurd h (by decide), fun h => absurd h (by decide), fun h => absurd h (by decide)⟩
theorem mp_13_24 (mi : aI) (h : iO mi = "FullHouseLaw") : okM mi mI_92 24 0 2 9 := by
  unfold okM cV cS cI cN
  rw [h]
  exact ⟨fun _ => ⟨⟨gw_741, gw_742, gw_743, ⟨gw_1, gw_744⟩⟩, ⟨by decide +kernel, by decide +kernel, by decide +kernel⟩, ⟨_, rfl, rfl⟩, ⟨by decide +kernel, rfl, rfl⟩⟩, fun h => absurd h (by decide), fun h => absurd h (by decide), fun h => absurd h (by decide), fun h => absurd h (by decide), fun h => absurd h (by decide), fun h => absurd h (by decide)⟩
theorem mp_13_27 (mi : aI) (h : iO mi = "FullHouseLaw") : okM mi mI_95 27 0 2 9 := by
  unfold okM cV cS cI cN
  rw [h]
  exact ⟨fun _ => ⟨⟨gw_754, gw_755, gw_756, ⟨gw_1, gw_757⟩⟩, ⟨by decide +kernel, by decide +kernel, by decide +kernel⟩, ⟨_, rfl, rfl⟩, ⟨by decide +kernel, rfl, rfl⟩⟩, fun h => absurd h (by decide), fun h => absurd h (by decide), fun h => absurd h (by decide), fun h => absurd h (by decide), fun h => absurd h (by decide), fun h => absurd h (by decide)⟩
theorem mp_13_30 (mi : aI) (h : iO mi = "FullHouseLaw") : okM mi mI_97 30 0 2 9 := by
  unfold okM cV cS cI cN
  rw [h]
  exact ⟨fun _ => ⟨⟨gw_761, gw_762, gw_763, ⟨gw_1, gw_764⟩⟩, ⟨by decide +kernel, by decide +kernel, by decide +kernel⟩, ⟨_, rfl, rfl⟩, ⟨by decide +kernel, rfl, rfl⟩⟩, fun h => absurd h (by decide), fun h => absurd h (by decide), fun h => absurd h (by decide), fun h => absurd h (by decide), fun h => absurd h (by decide), fun h => absurd h (by decide)⟩
theorem mp_13_33 (mi : aI) (h : iO mi = "FullHouseLaw") : okM mi mI_99 33 0 1 9 := by
  unfold okM cV cS cI cN
  rw [h]
  exact ⟨fun _ => ⟨⟨gw_770, gw_771, gw_772, ⟨gw_1, gw_773⟩⟩, ⟨by decide +kernel, by decide +kernel, by decide +kernel⟩, ⟨_, rfl, rfl⟩, ⟨by decide +kernel, rfl, rfl⟩⟩, fun h => absurd h (by decide), fun h => absurd h (by decide), fun h => absurd h (by decide), fun h => absurd h (by decide), fun h => absurd h (by decide), fun h => absurd h (by decide)⟩
theorem mp_13_36 (mi : aI) (h : iO mi = "FullHouseLaw") : okM mi mI_111 36 0 1 9 := by
  unfold okM cV cS cI cN
  rw [h]
  exact ⟨fun _ => ⟨⟨gw_820, gw_821, gw_822, ⟨gw_1, gw_823⟩⟩, ⟨by decide +kernel, by decide +kernel, by decide +kernel⟩, ⟨_, rfl, rfl⟩, ⟨by decide +kernel, rfl, rfl⟩⟩, fun h => absurd h (by decide), fun h => absurd h (by decide), fun h => absurd h (by decide), fun h => absurd h (by decide), fun h => absurd h (by decide), fun h => absurd h (by decide)⟩
theorem mp_13_39 (mi : aI) (h : iO mi = "FullHouseLaw") : okM mi mI_114 39 0 1 9 := by
  unfold okM cV cS cI cN
  rw [h]
  exact ⟨fun _ => ⟨⟨gw_831, gw_832, gw_833, ⟨gw_1, gw_834⟩⟩, ⟨by decide +kernel, by decide +kernel, by decide +kernel⟩, ⟨_, rfl, rfl⟩, ⟨by decide +kernel, rfl, rfl⟩⟩, fun h => absurd h (by decide), fun h => absurd h (by decide), fun h => absurd h (by decide), fun h => absurd h (by decide), fun h => absurd h (by decide), fun h => absurd h (by decide)⟩
theorem mp_13_42 (mi : aI) (h : iO mi = "FullHouseLaw") : okM mi mI_117 42 0 1 9 := by
  unfold okM cV cS cI cN
  rw [h]
  exact ⟨fun _ => ⟨⟨gw_842, gw_843, gw_844, ⟨gw_1, gw_845⟩⟩, ⟨by decide +kernel, by decide +kernel, by decide +kernel⟩, ⟨_, rfl, rfl⟩, ⟨by decide +kernel, rfl, rfl⟩⟩, fun h => absurd h (by decide), fun h => absurd h (by decide), fun h => absurd h (by decide), fun h => absurd h (by decide), fun h => absurd h (by decide), fun h => absurd h (by decide)⟩
theorem mp_13_45 (mi : aI) (h : iO mi = "FullHouseLaw") : okM mi mI_121 45 0 1 9 := by
  unfold okM cV cS cI cN
  rw [h]
  exact ⟨fun _ => ⟨⟨gw_857, gw_858, gw_859, ⟨gw_1, gw_860⟩⟩, ⟨by decide +kernel, by decide +kernel, by decide +kernel⟩, ⟨_, rfl, rfl⟩, ⟨by decide +kernel, rfl, rfl⟩⟩, fun h => absurd h (by decide), fun h => absurd h (by decide), fun h => absurd h (by decide), fun h => absurd h (by decide), fun h => absurd h (by decide), fun h => absurd h (by decide)⟩
theorem mp_13_48 (mi : aI) (h : iO mi = "FullHouseLaw") : okM mi mI_124 48 0 1 9 := by
  unfold okM cV cS cI cN
  rw [h]
  exact ⟨fun _ => ⟨⟨gw_869, gw_870, gw_871, ⟨gw_1, gw_872⟩⟩, ⟨by decide +kernel, by decide +kernel, by decide +kernel⟩, ⟨_, rfl, rfl⟩, ⟨by decide +kernel, rfl, rfl⟩⟩, fun h => absurd h (by decide), fun h => absurd h (by decide), fun h => absurd h (by decide), fun h => absurd h (by decide), fun h => absurd h (by decide), fun h => absurd h (by decide)⟩
theorem mp_13_51 (mi : aI) (h : iO mi = "FullHouseLaw") : okM mi mI_129 51 0 2 9 := by
  unfold okM cV cS cI cN
  rw [h]
  exact ⟨fun _ => ⟨⟨gw_892, gw_893, gw_894, ⟨gw_1, gw_895⟩⟩, ⟨by decide +kernel, by decide +kernel, by decide +kernel⟩, ⟨_, rfl, rfl⟩, ⟨by decide +kernel, rfl, rfl⟩⟩, fun h => absurd h (by decide), fun h => absurd h (by decide), fun h => absurd h (by decide), fun h => absurd h (by decide), fun h => absurd h (by decide), fun h => absurd h (by decide)⟩
theorem mp_13_55 (mi : aI) (h : iO mi = "FullHouseLaw") : okM mi mI_139 55 0 2 9 := by
  unfold okM cV cS cI cN
  rw [h]
  exact ⟨fun _ => ⟨⟨gw_941, gw_942, gw_943, ⟨gw_1, gw_944⟩⟩, ⟨by decide +kernel, by decide +kernel, by decide +kernel⟩, ⟨_, rfl, rfl⟩, ⟨by decide +kernel, rfl, rfl⟩⟩, fun h => absurd h (by decide), fun h => absurd h (by decide), fun h => absurd h (by decide), fun h => absurd h (by decide), fun h => absurd h (by decide), fun h => absurd h (by decide)⟩
theorem mp_13_58 (mi : aI) (h : iO mi = "FullHouseLaw") : okM mi mI_144 58 0 1 9 := by
  unfold okM cV cS cI cN
  rw [h]
  exact ⟨fun _ => ⟨⟨gw_961, gw_962, gw_963, ⟨gw_1, gw_964⟩⟩, ⟨by decide +kernel, by decide +kernel, by decide +kernel⟩, ⟨_, rfl, rfl⟩, ⟨by decide +kernel, rfl, rfl⟩⟩, fun h => absurd h (by decide), fun h => absurd h (by decide), fun h => absurd h (by decide), fun h => absurd h (by decide), fun h => absurd h (by decide), fun h => absurd h (by decide)⟩
theorem mp_13_61 (mi : aI) (h : iO mi = "FullHouseLaw") : okM mi mI_150 61 0 1 9 := by
  unfold okM cV cS cI cN
  rw [h]
  exact ⟨fun _ => ⟨⟨gw_990, gw_991, gw_992, ⟨gw_1, gw_993⟩⟩, ⟨by decide +kernel, by decide +kernel, by decide +kernel⟩, ⟨_, rfl, rfl⟩, ⟨by decide +kernel, rfl, rfl⟩⟩, fun h => absurd h (by decide), fun h => absurd h (by decide), fun h => absurd h (by decide), fun h => absurd h (by decide), fun h => absurd h (by decide), fun h => absurd h (by decide)⟩
theorem mp_13_64 (mi : aI) (h : iO mi = "FullHouseLaw") : okM mi mI_152 64 0 2 9 := by
  unfold okM cV cS cI cN
  rw [h]
  exact ⟨fun _ => ⟨⟨gw_998, gw_999, gw_1000, ⟨gw_1, gw_1001⟩⟩, ⟨by decide +kernel, by decide +kernel, by decide +kernel⟩, ⟨_, rfl, rfl⟩, ⟨by decide +kernel, rfl, rfl⟩⟩, fun h => absurd h (by decide), fun h => absurd h (by decide), fun h => absurd h (by decide), fun h => absurd h (by decide), fun h => absurd h (by decide), fun h => absurd h (by decide)⟩
theorem mp_13_67 (mi : aI) (h : iO mi = "FullHouseLaw") : okM mi mI_154 67 0 2 9 := by
  unfold okM cV cS cI cN
  rw [h]
  exact ⟨fun _ => ⟨⟨gw_1006, gw_1007, gw_1008, ⟨gw_1, gw_1009⟩⟩, ⟨by decide +kernel, by decide +kernel, by decide +kernel⟩, ⟨_, rfl, rfl⟩, ⟨by decide +kernel, rfl, rfl⟩⟩, fun h => absurd h (by decide), fun h => absurd h (by decide), fun h => absurd h (by decide), fun h => absurd h (by decide), fun h => absurd h (by decide), fun h => absurd h (by decide)⟩
theorem mp_13_70 (mi : aI) (h : iO mi = "FullHouseLaw") : okM mi mI_156 70 0 1 9 := by
  unfold okM cV cS cI cN
  rw [h]
  exact ⟨fun _ => ⟨⟨gw_1016, gw_1017, gw_1018, ⟨gw_1, gw_1019⟩⟩, ⟨by decide +kernel, by decide +kernel, by decide +kernel⟩, ⟨_, rfl, rfl⟩, ⟨by decide +kernel, rfl, rfl⟩⟩, fun h => absurd h (by decide), fun h => absurd h (by decide), fun h => absurd h (by decide), fun h => absurd h (by decide), fun h => absurd h (by decide), fun h => absurd h (by decide)⟩
theorem mp_13_73 (mi : aI) (h : iO mi = "FullHouseLaw") : okM mi mI_164 73 0 2 9 := by
  unfold okM cV cS cI cN
  rw [h]
  exact ⟨fun _ => ⟨⟨gw_1053, gw_1054, gw_1055, ⟨gw_1, gw_1056⟩⟩, ⟨by decide +kernel, by decide +kernel, by decide +kernel⟩, ⟨_, rfl, rfl⟩, ⟨by decide +kernel, rfl, rfl⟩⟩, fun h => absurd h (by decide), fun h => absurd h (by decide), fun h => absurd h (by decide), fun h => absurd h (by decide), fun h => absurd h (by decide), fun h => absurd h (by decide)⟩
theorem mp_13_76 (mi : aI) (h : iO mi = "FullHouseLaw") : okM mi mI_169 76 0 1 9 := by
  unfold okM cV cS cI cN
  rw [h]
  exact ⟨fun _ => ⟨⟨gw_1075, gw_1076, gw_1077, ⟨gw_1, gw_1078⟩⟩, ⟨by decide +kernel, by decide +kernel, by decide +kernel⟩, ⟨_, rfl, rfl⟩, ⟨by decide +kernel, rfl, rfl⟩⟩, fun h => absurd h (by decide), fun h => absurd h (by decide), fun h => absurd h (by decide), fun h => absurd h (by decide), fun h => absurd h (by decide), fun h => absurd h (by decide)⟩
theorem mp_13_79 (mi : aI) (h : iO mi = "FullHouseLaw") : okM mi mI_0 79 2 0 9 := by
  unfold okM cV cS cI cN
  rw [h]
  exact ⟨fun h => absurd h (by decide), fun h => absurd h (by decide), fun _ => ⟨⟨gw_27, gw_28, ⟨gw_1, gw_29⟩, rfl, rfl⟩, ⟨by decide +kernel, by decide +kernel, by decide +kernel⟩, ⟨by decide +kernel, rfl, rfl⟩⟩, fun h => absurd h (by decide), fun h => absurd h (by decide), fun h => absurd h (by decide), fun h => absurd h (by decide)⟩
theorem mp_13_82 (mi : aI) (h : iO mi = "FullHouseLaw") : okM mi mI_170 82 2 0 10 := by
  unfold okM cV cS cI cN
  rw [h]
  exact ⟨fun h => absurd h (by decide), fun h => absurd h (by decide), fun _ => ⟨⟨gw_1082, gw_1083, ⟨gw_13, gw_1084⟩, rfl, rfl⟩, ⟨by decide +kernel, by decide +kernel, by decide +kernel⟩, ⟨by decide +kernel, rfl, rfl⟩⟩, fun h => absurd h (by decide), fun h => absurd h (by decide), fun h => absurd h (by decide), fun h => absurd h (by decide)⟩
theorem mp_13_83 (mi : aI) (h : iO mi = "FullHouseLaw") : okM mi mI_24 83 0 5 9 := by
  unfold okM cV cS cI cN
  rw [h]
  exact ⟨fun _ => ⟨⟨gw_393, gw_394, gw_395, ⟨gw_1, gw_396⟩⟩, ⟨by decide +kernel, by decide +kernel, by decide +kernel⟩, ⟨_, rfl, rfl⟩, ⟨by decide +kernel, rfl, rfl⟩⟩, fun h => absurd h (by decide), fun h => absurd h (by decide), fun h => absurd h (by decide), fun h => absurd h (by decide), fun h => absurd h (by decide), fun h => absurd h (by decide)⟩
theorem mp_13_87 (mi : aI) (h : iO mi = "FullHouseLaw") : okM mi mI_172 87 0 5 10 := by
  unfold okM cV cS cI cN
  rw [h]
  exact ⟨fun _ => ⟨⟨gw_1284, gw_1285, gw_1286, ⟨gw_13, gw_1287⟩⟩, ⟨by decide +kernel, by decide +kernel, by decide +kernel⟩, ⟨_, rfl, rfl⟩, ⟨by decide +kernel, rfl, rfl⟩⟩, fun h => absurd h (by decide), fun h => absurd h (by decide), fun h => absurd h (by decide), fun h => absurd h (by decide), fun h => absurd h (by decide), fun h => absurd h (by decide)⟩
theorem mp_13_88 (mi : aI) (h : iO mi = "FullHouseLaw") : okM mi mI_38 88 6 3 0 := by
  unfold okM cV cS cI cN
  rw [h]
  exact ⟨fun h => absurd h (by decide), fun h => absurd h (by decide), fun h => absurd h (by decide), fun h => absurd h (by decide), fun h => absurd h (by decide), fun h => absurd h (by decide), fun _ => ⟨_, ⟨(by rw [h]; exact gw_456), gw_457, gw_0, gw_458⟩, ⟨by decide +kernel, by decide +kernel, by decide +kernel⟩, by decide +kernel, rfl, rfl⟩⟩
theorem mp_13_93 (mi : aI) (h : iO mi = "FullHouseLaw") : okM mi mI_174 93 0 1 10 := by
  unfold okM cV cS cI cN
  rw [h]
  exact ⟨fun _ => ⟨⟨gw_1292, gw_1293, gw_1294, ⟨gw_13, gw_1295⟩⟩, ⟨by decide +kernel, by decide +kernel, by decide +kernel⟩, ⟨_, rfl, rfl⟩, ⟨by decide +kernel, rfl, rfl⟩⟩, fun h => absurd h (by decide), fun h => absurd h (by decide), fun h => absurd h (by decide), fun h => absurd h (by decide), fun h => absurd h (by decide), fun h => absurd h (by decide)⟩
theorem mp_13_94 (mi : aI) (h : iO mi = "FullHouseLaw") : okM mi mI_26 94 0 0 9 := by
  unfold okM cV cS cI cN
  rw [h]
  exact ⟨fun _ => ⟨⟨gw_401, gw_402, gw_403, ⟨gw_1, gw_404⟩⟩, ⟨by decide +kernel, by decide +kernel, by decide +kernel⟩, ⟨_, rfl, rfl⟩, ⟨by decide +kernel, rfl, rfl⟩⟩, fun h => absurd h (by decide), fun h => absurd h (by decide), fun h => absurd h (by decide), fun h => absurd h (by decide), fun h => absurd h (by decide), fun h => absurd h (by decide)⟩
theorem mp_13_98 (mi : aI) (h : iO mi = "FullHouseLaw") : okM mi mI_193 98 0 0 10 := by
  unfold okM cV cS cI cN
  rw [h]
  exact ⟨fun _ => ⟨⟨gw_1366, gw_1367, gw_1368, ⟨gw_13, gw_1369⟩⟩, ⟨by decide +kernel, by decide +kernel, by decide +kernel⟩, ⟨_, rfl, rfl⟩, ⟨by decide +kernel, rfl, rfl⟩⟩, fun h => absurd h (by decide), fun h => absurd h (by decide), fun h => absurd h (by decide), fun h => absurd h (by decide), fun h => absurd h (by decide), fun h => absurd h (by decide)⟩
theorem mp_13_99 (mi : aI) (h : iO mi = "FullHouseLaw") : okM mi mI_85 99 6 3 0 := by
  unfold okM cV cS cI cN
  rw [h]
  exact ⟨fun h => absurd h (by decide), fun h => absurd h (by decide), fun h => absurd h (by decide), fun h => absurd h (by decide), fun h => absurd h (by decide), fun h => absurd h (by decide), fun _ => ⟨_, ⟨(by rw [h]; exact gw_701), gw_702, gw_0, gw_703⟩, ⟨by decide +kernel, by decide +kernel, by decide +kernel⟩, by decide +kernel, rfl, rfl⟩⟩
theorem mp_13_101 (mi : aI) (h : iO mi = "FullHouseLaw") : okM mi mI_194 101 0 1 10 := by
  unfold okM cV cS cI cN
  rw [h]
  exact ⟨fun _ => ⟨⟨gw_1370, gw_1371, gw_1372, ⟨gw_13, gw_1373⟩⟩, ⟨by decide +kernel, by decide +kernel, by decide +kernel⟩, ⟨_, rfl, rfl⟩, ⟨by decide +kernel, rfl, rfl⟩⟩, fun h => absurd h (by decide), fun h => absurd h (by decide), fun h => absurd h (by decide), fun h => absurd h (by decide), fun h => absurd h (by decide), fun h => absurd h (by decide)⟩
theorem mp_13_102 (mi : aI) (h : iO mi = "FullHouseLaw") : okM mi mI_88 102 6 4 0 := by
  unfold okM cV cS cI cN
  rw [h]
  exact ⟨fun h => absurd h (by decide), fun h => absurd h (by decide), fun h => absurd h (by decide), fun h => absurd h (by decide), fun h => absurd h (by decide), fun h => absurd h (by decide), fun _ => ⟨_, ⟨(by rw [h]; exact gw_725), gw_726, gw_0, gw_727⟩, ⟨by decide +kernel, by decide +kernel, by decide +kernel⟩, by decide +kernel, rfl, rfl⟩⟩
theorem mp_13_105 (mi : aI) (h : iO mi = "FullHouseLaw") : okM mi mI_196 105 0 2 10 := by
  unfold okM cV cS cI cN
  rw [h]
  exact ⟨fun _ => ⟨⟨gw_1377, gw_1378, gw_1379, ⟨gw_13, gw_1380⟩⟩, ⟨by decide +kernel, by decide +kernel, by decide +kernel⟩, ⟨_, rfl, rfl⟩, ⟨by decide +kernel, rfl, rfl⟩⟩, fun h => absurd h (by decide), fun h => absurd h (by decide), fun h => absurd h (by decide), fun h => absurd h (by decide), fun h => absurd h (by decide), fun h => absurd h (by decide)⟩
theorem mp_13_106 (mi : aI) (h : iO mi = "FullHouseLaw") : okM mi mI_91 106 6 4 0 := by
  unfold okM cV cS cI cN
  rw [h]
  exact ⟨fun h => absurd h (by decide), fun h => absurd h (by decide), fun h => absurd h (by decide), fun h => absurd h (by decide), fun h => absurd h (by decide), fun h => absurd h (by decide), fun _ => ⟨_, ⟨(by rw [h]; exact gw_738), gw_739, gw_0, gw_740⟩, ⟨by decide +kernel, by decide +kernel, by decide +kernel⟩, by decide +kernel, rfl, rfl⟩⟩
theorem mp_13_108 (mi : aI) (h : iO mi = "FullHouseLaw") : okM mi mI_198 108 0 2 10 := by
  unfold okM cV cS cI cN
  rw [h]
  exact ⟨fun _ => ⟨⟨gw_1385, gw_1386, gw_1387, ⟨gw_13, gw_1388⟩⟩, ⟨by decide +kernel, by decide +kernel, by decide +kernel⟩, ⟨_, rfl, rfl⟩, ⟨by decide +kernel, rfl, rfl⟩⟩, fun h => absurd h (by decide), fun h => absurd h (by decide), fun h => absurd h (by decide), fun h => absurd h (by decide), fun h => absurd h (by decide), fun h => absurd h (by decide)⟩
theorem mp_13_109 (mi : aI) (h : iO mi = "FullHouseLaw") : okM mi mI_94 109 6 4 0 := by
  unfold okM cV cS cI cN
  rw [h]
  exact ⟨fun h => absurd h (by decide), fun h => absurd h (by decide), fun h => absurd h (by decide), fun h => absurd h (by decide), fun h => absurd h (by decide), fun h => absurd h (by decide), fun _ => ⟨_, ⟨(by rw [h]; exact gw_751), gw_752, gw_0, gw_753⟩, ⟨by decide +kernel, by decide +kernel, by decide +kernel⟩, by decide +kernel, rfl, rfl⟩⟩
theorem mp_13_111 (mi : aI) (h : iO mi = "FullHouseLaw") : okM mi mI_200 111 0 2 10 := by
  unfold okM cV cS cI cN
  rw [h]
  exact ⟨fun _ => ⟨⟨gw_1393, gw_1394, gw_1395, ⟨gw_13, gw_1396⟩⟩, ⟨by decide +kernel, by decide +kernel, by decide +kernel⟩, ⟨_, rfl, rfl⟩, ⟨by decide +kernel, rfl, rfl⟩⟩, fun h => absurd h (by decide), fun h => absurd h (by decide), fun h => absurd h (by decide), fun h => absurd h (by decide), fun h => absurd h (by decide), fun h => absurd h (by decide)⟩
theorem mp_13_112 (mi : aI) (h : iO mi = "FullHouseLaw") : okM mi mI_96 112 6 4 0 := by
  unfold okM cV cS cI cN
  rw [h]
  exact ⟨fun h => absurd h (by decide), fun h => absurd h (by decide), fun h => absurd h (by decide), fun h => absurd h (by decide), fun h => absurd h (by decide), fun h => absurd h (by decide), fun _ => ⟨_, ⟨(by rw [h]; exact gw_758), gw_759, gw_0, gw_760⟩, ⟨by decide +kernel, by decide +kernel, by decide +kernel⟩, by decide +kernel, rfl, rfl⟩⟩
theorem mp_13_114 (mi : aI) (h : iO mi = "FullHouseLaw") : okM mi mI_201 114 0 2 10 := by
  unfold okM cV cS cI cN
  rw [h]
  exact ⟨fun _ => ⟨⟨gw_1397, gw_1398, gw_1399, ⟨gw_13, gw_1400⟩⟩, ⟨by decide +kernel, by decide +kernel, by decide +kernel⟩, ⟨_, rfl, rfl⟩, ⟨by decide +kernel, rfl, rfl⟩⟩, fun h => absurd h (by decide), fun h => absurd h (by decide), fun h => absurd h (by decide), fun h => absurd h (by decide), fun h => absurd h (by decide), fun h => absurd h (by decide)⟩
theorem mp_13_115 (mi : aI) (h : iO mi = "FullHouseLaw") : okM mi mI_98 115 6 3 0 := by
  unfold okM cV cS cI cN
  rw [h]
  exact ⟨fun h => absurd h (by decide), fun h => absurd h (by decide), fun h => absurd h (by decide), fun h => absurd h (by decide), fun h => absurd h (by decide), fun h => absurd h (by decide), fun _ => ⟨_, ⟨(by rw [h]; exact gw_767), gw_768, gw_0, gw_769⟩, ⟨by decide +kernel, by decide +kernel, by decide +kernel⟩, by decide +kernel, rfl, rfl⟩⟩
theorem mp_13_117 (mi : aI) (h : iO mi = "FullHouseLaw") : okM mi mI_202 117 0 1 10 := by
  unfold okM cV cS cI cN
  rw [h]
  exact ⟨fun _ => ⟨⟨gw_1401, gw_1402, gw_1403, ⟨gw_13, gw_1404⟩⟩, ⟨by decide +kernel, by decide +kernel, by decide +kernel⟩, ⟨_, rfl, rfl⟩, ⟨by decide +kernel, rfl, rfl⟩⟩, fun h => absurd h (by decide), fun h => absurd h (by decide), fun h => absurd h (by decide), fun h => absurd h (by decide), fun h => absurd h (by decide), fun h => absurd h (by decide)⟩
theorem mp_13_118 (mi : aI) (h : iO mi = "FullHouseLaw") : okM mi mI_110 118 6 3 0 := by
  unfold okM cV cS cI cN
  rw [h]
  exact ⟨fun h => absurd h (by decide), fun h => absurd h (by decide), fun h => absurd h (by decide), fun h => absurd h (by decide), fun h => absurd h (by decide), fun h => absurd h (by decide), fun _ => ⟨_, ⟨(by rw [h]; exact gw_817), gw_818, gw_0, gw_819⟩, ⟨by decide +kernel, by decide +kernel, by decide +kernel⟩, by decide +kernel, rfl, rfl⟩⟩
theorem mp_13_120 (mi : aI) (h : iO mi = "FullHouseLaw") : okM mi mI_214 120 0 1 10 := by
  unfold okM cV cS cI cN
  rw [h]
  exact ⟨fun _ => ⟨⟨gw_1449, gw_1450, gw_1451, ⟨gw_13, gw_1452⟩⟩, ⟨by decide +kernel, by decide +kernel, by decide +kernel⟩, ⟨_, rfl, rfl⟩, ⟨by decide +kernel, rfl, rfl⟩⟩, fun h => absurd h (by decide), fun h => absurd h (by decide), fun h => absurd h (by decide), fun h => absurd h (by decide), fun h => absurd h (by decide), fun h => absurd h (by decide)⟩
theorem mp_13_121 (mi : aI) (h : iO mi = "FullHouseLaw") : okM mi mI_113 121 6 3 0 := by
  unfold okM cV cS cI cN
  rw [h]
  exact ⟨fun h => absurd h (by decide), fun h => absurd h (by decide), fun h => absurd h (by decide), fun h => absurd h (by decide), fun h => absurd h (by decide), fun h => absurd h (by decide), fun _ => ⟨_, ⟨(by rw [h]; exact gw_828), gw_829, gw_0, gw_830⟩, ⟨by decide +kernel, by decide +kernel, by decide +kernel⟩, by decide +kernel, rfl, rfl⟩⟩
theorem mp_13_123 (mi : aI) (h : iO mi = "FullHouseLaw") : okM mi mI_215 123 0 1 10 := by
  unfold okM cV cS cI cN
  rw [h]
  exact ⟨fun _ => ⟨⟨gw_1453, gw_1454, gw_1455, ⟨gw_13, gw_1456⟩⟩, ⟨by decide +kernel, by decide +kernel, by decide +kernel⟩, ⟨_, rfl, rfl⟩, ⟨by decide +kernel, rfl, rfl⟩⟩, fun h => absurd h (by decide), fun h => absurd h (by decide), fun h => absurd h (by decide), fun h => absurd h (by decide), fun h => absurd h (by decide), fun h => absurd h (by decide)⟩
theorem mp_13_124 (mi : aI) (h : iO mi = "FullHouseLaw") : okM mi mI_116 124 6 3 0 := by
  unfold okM cV cS cI cN
  rw [h]
  exact ⟨fun h => absurd h (by decide), fun h => absurd h (by decide), fun h => absurd h (by decide), fun h => absurd h (by decide), fun h => absurd h (by decide), fun h => absurd h (by decide), fun _ => ⟨_, ⟨(by rw [h]; exact gw_839), gw_840, gw_0, gw_841⟩, ⟨by decide +kernel, by decide +kernel, by decide +kernel⟩, by decide +kernel, rfl, rfl⟩⟩
theorem mp_13_126 (mi : aI) (h : iO mi = "FullHouseLaw") : okM mi mI_218 126 0 1 10 := by
  unfold okM cV cS cI cN
  rw [h]
  exact ⟨fun _ => ⟨⟨gw_1464, gw_1465, gw_1466, ⟨gw_13, gw_1467⟩⟩, ⟨by decide +kernel, by decide +kernel, by decide +kernel⟩, ⟨_, rfl, rfl⟩, ⟨by decide +kernel, rfl, rfl⟩⟩, fun h => absurd h (by decide), fun h => absurd h (by decide), fun h => absurd h (by decide), fun h => absurd h (by decide), fun h => absurd h (by decide), fun h => absurd h (by decide)⟩
theorem mp_13_127 (mi : aI) (h : iO mi = "FullHouseLaw") : okM mi mI_27 127 0 2 9 := by
  unfold okM cV cS cI cN
  rw [h]
  exact ⟨fun _ => ⟨⟨gw_405, gw_406, gw_407, ⟨gw_1, gw_408⟩⟩, ⟨by decide +kernel, by decide +kernel, by decide +kernel⟩, ⟨_, rfl, rfl⟩, ⟨by decide +kernel, rfl, rfl⟩⟩, fun h => absurd h (by decide), fun h => absurd h (by decide), fun h => absurd h (by decide), fun h => absurd h (by decide), fun h => absurd h (by decide), fun h => absurd h (by decide)⟩
theorem mp_13_131 (mi : aI) (h : iO mi = "FullHouseLaw") : okM mi mI_219 131 0 2 10 := by
  unfold okM cV cS cI cN
  rw [h]
  exact ⟨fun _ => ⟨⟨gw_1468, gw_1469, gw_1470, ⟨gw_13, gw_1471⟩⟩, ⟨by decide +kernel, by decide +kernel, by decide +kernel⟩, ⟨_, rfl, rfl⟩, ⟨by decide +kernel, rfl, rfl⟩⟩, fun h => absurd h (by decide), fun h => absurd h (by decide), fun h => absurd h (by decide), fun h => absurd h (by decide), fun h => absurd h (by decide), fun h => absurd h (by decide)⟩
theorem mp_13_132 (mi : aI) (h : iO mi = "FullHouseLaw") : okM mi mI_120 132 6 3 0 := by
  unfold okM cV cS cI cN
  rw [h]
  exact ⟨fun h => absurd h (by decide), fun h => absurd h (by decide), fun h => absurd h (by decide), fun h => absurd h (by decide), fun h => absurd h (by decide), fun h => absurd h (by decide), fun _ => ⟨_, ⟨(by rw [h]; exact gw_854), gw_855, gw_0, gw_856⟩, ⟨by decide +kernel, by decide +kernel, by decide +kernel⟩, by decide +kernel, rfl, rfl⟩⟩
theorem mp_13_134 (mi : aI) (h : iO mi = "FullHouseLaw") : okM mi mI_220 134 0 1 10 := by
  unfold okM cV cS cI cN
  rw [h]
  exact ⟨fun _ => ⟨⟨gw_1472, gw_1473, gw_1474, ⟨gw_13, gw_1475⟩⟩, ⟨by decide +kernel, by decide +kernel, by decide +kernel⟩, ⟨_, rfl, rfl⟩, ⟨by decide +kernel, rfl, rfl⟩⟩, fun h => absurd h (by decide), fun h => absurd h (by decide), fun h => absurd h (by decide), fun h => absurd h (by decide), fun h => absurd h (by decide), fun h => absurd h (by decide)⟩
theorem mp_13_135 (mi : aI) (h : iO mi = "FullHouseLaw") : okM mi mI_123 135 6 3 0 := by
  unfold okM cV cS cI cN
  rw [h]
  exact ⟨fun h => absurd h (by decide), fun h => absurd h (by decide), fun h => absurd h (by decide), fun h => absurd h (by decide), fun h => absurd h (by decide), fun h => absurd h (by decide), fun _ => ⟨_, ⟨(by rw [h]; exact gw_866), gw_867, gw_0, gw_868⟩, ⟨by decide +kernel, by decide +kernel, by decide +kernel⟩, by decide +kernel, rfl, rfl⟩⟩
theorem mp_13_137 (mi : aI) (h : iO mi = "FullHouseLaw") : okM mi mI_222 137 0 1 10 := by
  unfold okM cV cS cI cN
  rw [h]
  exact ⟨fun _ => ⟨⟨gw_1480, gw_1481, gw_1482, ⟨gw_13, gw_1483⟩⟩, ⟨by decide +kernel, by decide +kernel, by decide +kernel⟩, ⟨_, rfl, rfl⟩, ⟨by decide +kernel, rfl, rfl⟩⟩, fun h => absurd h (by decide), fun h => absurd h (by decide), fun h => absurd h (by decide), fun h => absurd h (by decide), fun h => absurd h (by decide), fun h => absurd h (by decide)⟩
theorem mp_13_138 (mi : aI) (h : iO mi = "FullHouseLaw") : okM mi mI_128 138 6 4 0 := by
  unfold okM cV cS cI cN
  rw [h]
  exact ⟨fun h => absurd h (by decide), fun h => absurd h (by decide), fun h => absurd h (by decide), fun h => absurd h (by decide), fun h => absurd h (by decide), fun h => absurd h (by decide), fun _ => ⟨_, ⟨(by rw [h]; exact gw_889), gw_890, gw_0, gw_891⟩, ⟨by decide +kernel, by decide +kernel, by decide +kernel⟩, by decide +kernel, rfl, rfl⟩⟩
theorem mp_13_141 (mi : aI) (h : iO mi = "FullHouseLaw") : okM mi mI_224 141 0 2 10 := by
  unfold okM cV cS cI cN
  rw [h]
  exact ⟨fun _ => ⟨⟨gw_1488, gw_1489, gw_1490, ⟨gw_13, gw_1491⟩⟩, ⟨by decide +kernel, by decide +kernel, by decide +kernel⟩, ⟨_, rfl, rfl⟩, ⟨by decide +kernel, rfl, rfl⟩⟩, fun h => absurd h (by decide), fun h => absurd h (by decide), fun h => absurd h (by decide), fun h => absurd h (by decide), fun h => absurd h (by decide), fun h => absurd h (by decide)⟩
theorem mp_13_142 (mi : aI) (h : iO mi = "FullHouseLaw") : okM mi mI_30 142 0 0 9 := by
  unfold okM cV cS cI cN
  rw [h]
  exact ⟨fun _ => ⟨⟨gw_417, gw_418, gw_419, ⟨gw_1, gw_420⟩⟩, ⟨by decide +kernel, by decide +kernel, by decide +kernel⟩, ⟨_, rfl, rfl⟩, ⟨by decide +kernel, rfl, rfl⟩⟩, fun h => absurd h (by decide), fun h => absurd h (by decide), fun h => absurd h (by decide), fun h => absurd h (by decide), fun h => absurd h (by decide), fun h => absurd h (by decide)⟩
theorem mp_13_145 (mi : aI) (h : iO mi = "FullHouseLaw") : okM mi mI_227 145 0 0 10 := by
  unfold okM cV cS cI cN
  rw [h]
  exact ⟨fun _ => ⟨⟨gw_1500, gw_1501, gw_1502, ⟨gw_13, gw_1503⟩⟩, ⟨by decide +kernel, by decide +kernel, by decide +kernel⟩, ⟨_, rfl, rfl⟩, ⟨by decide +kernel, rfl, rfl⟩⟩, fun h => absurd h (by decide), fun h => absurd h (by decide), fun h => absurd h (by decide), fun h => absurd h (by decide), fun h => absurd h (by decide), fun h => absurd h (by decide)⟩
theorem mp_13_146 (mi : aI) (h : iO mi = "FullHouseLaw") : okM mi mI_138 146 6 4 0 := by
  unfold okM cV cS cI cN
  rw [h]
  exact ⟨fun h => absurd h (by decide), fun h => absurd h (by decide), fun h => absurd h (by decide), fun h => absurd h (by decide), fun h => absurd h (by decide), fun h => absurd h (by decide), fun _ => ⟨_, ⟨(by rw [h]; exact gw_938), gw_939, gw_0, gw_940⟩, ⟨by decide +kernel, by decide +kernel, by decide +kernel⟩, by decide +kernel, rfl, rfl⟩⟩
theorem mp_13_148 (mi : aI) (h : iO mi = "FullHouseLaw") : okM mi mI_228 148 0 2 10 := by
  unfold okM cV cS cI cN
  rw [h]
  exact ⟨fun _ => ⟨⟨gw_1504, gw_1505, gw_1506, ⟨gw_13, gw_1507⟩⟩, ⟨by decide +kernel, by decide +kernel, by decide +kernel⟩, ⟨_, rfl, rfl⟩, ⟨by decide +kernel, rfl, rfl⟩⟩, fun h => absurd h (by decide), fun h => absurd h (by decide), fun h => absurd h (by decide), fun h => absurd h (by decide), fun h => absurd h (by decide), fun h => absurd h (by decide)⟩
theorem mp_13_149 (mi : aI) (h : iO mi = "FullHouseLaw") : okM mi mI_143 149 6 3 0 := by
  unfold okM cV cS cI cN
  rw [h]
  exact ⟨fun h => absurd h (by decide), fun h => absurd h (by decide), fun h => absurd h (by decide), fun h => absurd h (by decide), fun h => absurd h (by decide), fun h => absurd h (by decide), fun _ => ⟨_, ⟨(by rw [h]; exact gw_958), gw_959, gw_0, gw_960⟩, ⟨by decide +kernel, by decide +kernel, by decide +kernel⟩, by decide +kernel, rfl, rfl⟩⟩
theorem mp_13_151 (mi : aI) (h : iO mi = "FullHouseLaw") : okM mi mI_230 151 0 1 10 := by
  unfold okM cV cS cI cN
  rw [h]
  exact ⟨fun _ => ⟨⟨gw_1511, gw_1512, gw_1513, ⟨gw_13, gw_1514⟩⟩, ⟨by decide +kernel, by decide +kernel, by decide +kernel⟩, ⟨_, rfl, rfl⟩, ⟨by decide +kernel, rfl, rfl⟩⟩, fun h => absurd h (by decide), fun h => absurd h (by decide), fun h => absurd h (by decide), fun h => absurd h (by decide), fun h => absurd h (by decide), fun h => absurd h (by decide)⟩
theorem mp_13_152 (mi : aI) (h : iO mi = "FullHouseLaw") : okM mi mI_149 152 6 3 0 := by
  unfold okM cV cS cI cN
  rw [h]
  exact ⟨fun h => absurd h (by decide), fun h => absurd h (by decide), fun h => absurd h (by decide), fun h => absurd h (by decide), fun h => absurd h (by decide), fun h => absurd h (by decide), fun _ => ⟨_, ⟨(by rw [h]; exact gw_987), gw_988, gw_0, gw_989⟩, ⟨by decide +kernel, by decide +kernel, by decide +kernel⟩, by decide +kernel, rfl, rfl⟩⟩
theorem mp_13_154 (mi : aI) (h : iO mi = "FullHouseLaw") : okM mi mI_235 154 0 1 10 := by
  unfold okM cV cS cI cN
  rw [h]
  exact ⟨fun _ => ⟨⟨gw_1531, gw_1532, gw_1533, ⟨gw_13, gw_1534⟩⟩, ⟨by decide +kernel, by decide +kernel, by decide +kernel⟩, ⟨_, rfl, rfl⟩, ⟨by decide +kernel, rfl, rfl⟩⟩, fun h => absurd h (by decide), fun h => absurd h (by decide), fun h => absurd h (by decide), fun h => absurd h (by decide), fun h => absurd h (by decide), fun h => absurd h (by decide)⟩
theorem mp_13_155 (mi : aI) (h : iO mi = "FullHouseLaw") : okM mi mI_151 155 6 4 0 := by
  unfold okM cV cS cI cN
  rw [h]
  exact ⟨fun h => absurd h (by decide), fun h => absurd h (by decide), fun h => absurd h (by decide), fun h => absurd h (by decide), fun h => absurd h (by decide), fun h => absurd h (by decide), fun _ => ⟨_, ⟨(by rw [h]; exact gw_995), gw_996, gw_0, gw_997⟩, ⟨by decide +kernel, by decide +kernel, by decide +kernel⟩, by decide +kernel, rfl, rfl⟩⟩
theorem mp_13_157 (mi : aI) (h : iO mi = "FullHouseLaw") : okM mi mI_236 157 0 2 10 := by
  unfold okM cV cS cI cN
  rw [h]
  exact ⟨fun _ => ⟨⟨gw_1535, gw_1536, gw_1537, ⟨gw_13, gw_1538⟩⟩, ⟨by decide +kernel, by decide +kernel, by decide +kernel⟩, ⟨_, rfl, rfl⟩, ⟨by decide +kernel, rfl, rfl⟩⟩, fun h => absurd h (by decide), fun h => absurd h (by decide), fun h => absurd h (by decide), fun h => absurd h (by decide), fun h => absurd h (by decide), fun h => absurd h (by decide)⟩
theorem mp_13_158 (mi : aI) (h : iO mi = "FullHouseLaw") : okM mi mI_153 158 6 4 0 := by
  unfold okM cV cS cI cN
  rw [h]
  exact ⟨fun h => absurd h (by decide), fun h => absurd h (by decide), fun h => absurd h (by decide), fun h => absurd h (by decide), fun h => absurd h (by decide), fun h => absurd h (by decide), fun _ => ⟨_, ⟨(by rw [h]; exact gw_1003), gw_1004, gw_0, gw_1005⟩, ⟨by decide +kernel, by decide +kernel, by decide +kernel⟩, by decide +kernel, rfl, rfl⟩⟩
theorem mp_13_160 (mi : aI) (h : iO mi = "FullHouseLaw") : okM mi mI_237 160 0 2 10 := by
  unfold okM cV cS cI cN
  rw [h]
  exact ⟨fun _ => ⟨⟨gw_1540, gw_1541, gw_1542, ⟨gw_13, gw_1543⟩⟩, ⟨by decide +kernel, by decide +kernel, by decide +kernel⟩, ⟨_, rfl, rfl⟩, ⟨by decide +kernel, rfl, rfl⟩⟩, fun h => absurd h (by decide), fun h => absurd h (by decide), fun h => absurd h (by decide), fun h => absurd h (by decide), fun h => absurd h (by decide), fun h => absurd h (by decide)⟩
theorem mp_13_161 (mi : aI) (h : iO mi = "FullHouseLaw") : okM mi mI_171 161 0 0 10 := by
  unfold okM cV cS cI cN
  rw [h]
  exact ⟨fun _ => ⟨⟨gw_1280, gw_1281, gw_1282, ⟨gw_13, gw_1283⟩⟩, ⟨by decide +kernel, by decide +kernel, by decide +kernel⟩, ⟨_, rfl, rfl⟩, ⟨by decide +kernel, rfl, rfl⟩⟩, fun h => absurd h (by decide), fun h => absurd h (by decide), fun h => absurd h (by decide), fun h => absurd h (by decide), fun h => absurd h (by decide), fun h => absurd h (by decide)⟩
theorem mp_13_164 (mi : aI) (h : iO mi = "FullHouseLaw") : okM mi mI_33 164 0 1 9 := by
  unfold okM cV cS cI cN
  rw [h]
  exact ⟨fun _ => ⟨⟨gw_432, gw_433, gw_434, ⟨gw_1, gw_435⟩⟩, ⟨by decide +kernel, by decide +kernel, by decide +kernel⟩, ⟨_, rfl, rfl⟩, ⟨by decide +kernel, rfl, rfl⟩⟩, fun h => absurd h (by decide), fun h => absurd h (by decide), fun h => absurd h (by decide), fun h => absurd h (by decide), fun h => absurd h (by decide), fun h => absurd h (by decide)⟩
theorem mp_13_168 (mi : aI) (h : iO mi = "FullHouseLaw") : okM mi mI_238 168 0 1 10 := by
  unfold okM cV cS cI cN
  rw [h]
  exact ⟨fun _ => ⟨⟨gw_1545, gw_1546, gw_1547, ⟨gw_13, gw_1548⟩⟩, ⟨by decide +kernel, by decide +kernel, by decide +kernel⟩, ⟨_, rfl, rfl⟩, ⟨by decide +kernel, rfl, rfl⟩⟩, fun h => absurd h (by decide), fun h => absurd h (by decide), fun h => absurd h (by decide), fun h => absurd h (by decide), fun h => absurd h (by decide), fun h => absurd h (by decide)⟩
theorem mp_13_169 (mi : aI) (h : iO mi = "FullHouseLaw") : okM mi mI_155 169 6 3 0 := by
  unfold okM cV cS cI cN
  rw [h]
  exact ⟨fun h => absurd h (by decide), fun h => absurd h (by decide), fun h => absurd h (by decide), fun h => absurd h (by decide), fun h => absurd h (by decide), fun h => absurd h (by decide), fun _ => ⟨_, ⟨(by rw [h]; exact gw_1013), gw_1014, gw_0, gw_1015⟩, ⟨by decide +kernel, by decide +kernel, by decide +kernel⟩, by decide +kernel, rfl, rfl⟩⟩
theorem mp_13_171 (mi : aI) (h : iO mi = "FullHouseLaw") : okM mi mI_239 171 0 1 10 := by
  unfold okM cV cS cI cN
  rw [h]
  exact ⟨fun _ => ⟨⟨gw_1549, gw_1550, gw_1551, ⟨gw_13, gw_1552⟩⟩, ⟨by decide +kernel, by decide +kernel, by decide +kernel⟩, ⟨_, rfl, rfl⟩, ⟨by decide +kernel, rfl, rfl⟩⟩, fun h => absurd h (by decide), fun h => absurd h (by decide), fun h => absurd h (by decide), fun h => absurd h (by decide), fun h => absurd h (by decide), fun h => absurd h (by decide)⟩
theorem mp_13_172 (mi : aI) (h : iO mi = "FullHouseLaw") : okM mi mI_163 172 6 4 0 := by
  unfold okM cV cS cI cN
  rw [h]
  exact ⟨fun h => absurd h (by decide), fun h => absurd h (by decide), fun h => absurd h (by decide), fun h => absurd h (by decide), fun h => absurd h (by decide), fun h => absurd h (by decide), fun _ => ⟨_, ⟨(by rw [h]; exact gw_1050), gw_1051, gw_0, gw_1052⟩, ⟨by decide +kernel, by decide +kernel, by decide +kernel⟩, by decide +kernel, rfl, rfl⟩⟩
theorem mp_13_174 (mi : aI) (h : iO mi = "FullHouseLaw") : okM mi mI_244 174 0 2 10 := by
  unfold okM cV cS cI cN
  rw [h]
  exact ⟨fun _ => ⟨⟨gw_1570, gw_1571, gw_1572, ⟨gw_13, gw_1573⟩⟩, ⟨by decide +kernel, by decide +kernel, by decide +kernel⟩, ⟨_, rfl, rfl⟩, ⟨by decide +kernel, rfl, rfl⟩⟩, fun h => absurd h (by decide), fun h => absurd h (by decide), fun h => absurd h (by decide), fun h => absurd h (by decide), fun h => absurd h (by decide), fun h => absurd h (by decide)⟩
theorem mp_13_175 (mi : aI) (h : iO mi = "FullHouseLaw") : okM mi mI_168 175 6 3 0 := by
  unfold okM cV cS cI cN
  rw [h]
  exact ⟨fun h => absurd h (by decide), fun h => absurd h (by decide), fun h => absurd h (by decide), fun h => absurd h (by decide), fun h => absurd h (by decide), fun h => absurd h (by decide), fun _ => ⟨_, ⟨(by rw [h]; exact gw_1072), gw_1073, gw_0, gw_1074⟩, ⟨by decide +kernel, by decide +kernel, by decide +kernel⟩, by decide +kernel, rfl, rfl⟩⟩
theorem mp_13_177 (mi : aI) (h : iO mi = "FullHouseLaw") : okM mi mI_245 177 0 1 10 := by
  unfold okM cV cS cI cN
  rw [h]
  exact ⟨fun _ => ⟨⟨gw_1574, gw_1575, gw_1576, ⟨gw_13, gw_1577⟩⟩, ⟨by decide +kernel, by decide +kernel, by decide +kernel⟩, ⟨_, rfl, rfl⟩, ⟨by decide +kernel, rfl, rfl⟩⟩, fun h => absurd h (by decide), fun h => absurd h (by decide), fun h => absurd h (by decide), fun h => absurd h (by decide), fun h => absurd h (by decide), fun h => absurd h (by decide)⟩
theorem mp_13_178 (mi : aI) (h : iO mi = "FullHouseLaw") : okM mi mI_35 178 0 0 9 := by
  unfold okM cV cS cI cN
  rw [h]
  exact ⟨fun _ => ⟨⟨gw_444, gw_445, gw_446, ⟨gw_1, gw_447⟩⟩, ⟨by decide +kernel, by decide +kernel, by decide +kernel⟩, ⟨_, rfl, rfl⟩, ⟨by decide +kernel, rfl, rfl⟩⟩, fun h => absurd h (by decide), fun h => absurd h (by decide), fun h => absurd h (by decide), fun h => absurd h (by decide), fun h => absurd h (by decide), fun h => absurd h (by decide)⟩
theorem mp_13_182 (mi : aI) (h : iO mi = "FullHouseLaw") : okM mi mI_246 182 0 0 10 := by
  unfold okM cV cS cI cN
  rw [h]
  exact ⟨fun _ => ⟨⟨gw_1578, gw_1579, gw_1580, ⟨gw_13, gw_1581⟩⟩, ⟨by decide +kernel, by decide +kernel, by decide +kernel⟩, ⟨_, rfl, rfl⟩, ⟨by decide +kernel, rfl, rfl⟩⟩, fun h => absurd h (by decide), fun h => absurd h (by decide), fun h => absurd h (by decide), fun h => absurd h (by decide), fun h => absurd h (by decide), fun h => absurd h (by decide)⟩
theorem mp_13_183 (mi : aI) (h : iO mi = "FullHouseLaw") : okM mi mI_37 183 0 0 9 := by
  unfold okM cV cS cI cN
  rw [h]
  exact ⟨fun _ => ⟨⟨gw_452, gw_453, gw_454, ⟨gw_1, gw_455⟩⟩, ⟨by decide +kernel, by decide +kernel, by decide +kernel⟩, ⟨_, rfl, rfl⟩, ⟨by decide +kernel, rfl, rfl⟩⟩, fun h => absurd h (by decide), fun h => absurd h (by decide), fun h => absurd h (by decide), fun h => absurd h (by decide), fun h => absurd h (by decide), fun h => absurd h (by decide)⟩
theorem mp_13_186 (mi : aI) (h : iO mi = "FullHouseLaw") : okM mi mI_247 186 0 0 10 := by
  unfold okM cV cS cI cN
  rw [h]
  exact ⟨fun _ => ⟨⟨gw_1582, gw_1583, gw_1584, ⟨gw_13, gw_1585⟩⟩, ⟨by decide +kernel, by decide +kernel, by decide +kernel⟩, ⟨_, rfl, rfl⟩, ⟨by decide +kernel, rfl, rfl⟩⟩, fun h => absurd h (by decide), fun h => absurd h (by decide), fun h => absurd h (by decide), fun h => absurd h (by decide), fun h => absurd h (by decide), fun h => absurd h (by decide)⟩
def mL_14 : List (Nat × Nat × Nat × Nat) := [(1, 0, 4, 0)]
theorem mp_14_1 (mi mj : aI) (h : iO mi = "java/lang/Throwable") (cn : Nat) : okM mi mj 1 4 0 cn := by
  unfold okM
  rw [h]
  exact ⟨fun h => absurd h (by decide), fun h => absurd h (by decide), fun h => absurd h (by decide), fun h => absurd h (by decide), fun _ => ⟨gw_489, gw_31, gw_32⟩, fun h => absurd h (by decide), fun h => absurd h (by decide)⟩
def mL_15 : List (Nat × Nat × Nat × Nat) := [(7, 42, 2, 1)]
theorem mp_15_7 (mi : aI) (h : iO mi = "java/lang/IllegalArgumentException") : okM mi mI_42 7 2 1 0 := by
  unfold okM cV cS cI cN
  rw [h]
  exact ⟨fun h => absurd h (by decide), fun h => absurd h (by decide), fun _ => ⟨⟨gw_508, gw_509, ⟨gw_16, gw_510⟩, rfl, rfl⟩, ⟨by decide +kernel, by decide +kernel, by decide +kernel⟩, ⟨by decide +kernel, rfl, rfl⟩⟩, fun h => absurd h (by decide), fun h => absurd h (by decide), fun h => absurd h (by decide), fun h => absurd h (by decide)⟩
def mL_16 : List (Nat × Nat × Nat × Nat) := [(7, 43, 2, 1)]
theorem mp_16_7 (mi : aI) (h : iO mi = "java/lang/RuntimeException") : okM mi mI_43 7 2 1 0 := by
  unfold okM cV cS cI cN
  rw [h]
  exact ⟨fun h => absurd h (by decide), fun h => absurd h (by decide), fun _ => ⟨⟨gw_511, gw_512, ⟨gw_15, gw_513⟩, rfl, rfl⟩, ⟨by decide +kernel, by decide +kernel, by decide +kernel⟩, ⟨by decide +kernel, rfl, rfl⟩⟩, fun h => absurd h (by decide), fun h => absurd h (by decide), fun h => absurd h (by decide), fun h => absurd h (by decide)⟩
def mL_17 : List (Nat × Nat × Nat × Nat) := [(7, 44, 2, 1)]
theorem mp_17_7 (mi : aI) (h : iO mi = "java/lang/Exception") : okM mi mI_44 7 2 1 0 := by
  unfold okM cV cS cI cN
  rw [h]
  exact ⟨fun h => absurd h (by decide), fun h => absurd h (by decide), fun _ => ⟨⟨gw_514, gw_515, ⟨gw_14, gw_516⟩, rfl, rfl⟩, ⟨by decide +kernel, by decide +kernel, by decide +kernel⟩, ⟨by decide +kernel, rfl, rfl⟩⟩, fun h => absurd h (by decide), fun h => absurd h (by decide), fun h => absurd h (by decide), fun h => absurd h (by decide)⟩
def mL_18 : List (Nat × Nat × Nat × Nat) := [(495, 58, 1, 2), (498, 61, 1, 2), (1059, 60, 1, 3)]
theorem mp_18_495 (mi : aI) (h : iO mi = "java/lang/String") : okM mi mI_58 495 1 2 0 := by
  unfold okM cV cS cI cN
  rw [h]
  exact ⟨fun h => absurd h (by decide), fun _ => ⟨⟨gw_583, gw_584, ⟨gw_19, gw_585⟩⟩, ⟨by decide +kernel, by decide +kernel, by decide +kernel⟩, ⟨by decide +kernel, rfl, rfl⟩⟩, fun h => absurd h (by decide), fun h => absurd h (by decide), fun h => absurd h (by decide), fun h => absurd h (by decide), fun h => absurd h (by decide)⟩
theorem mp_18_498 (mi : aI) (h : iO mi = "java/lang/String") : okM mi mI_61 498 1 2 0 := by
  unfold okM cV cS cI cN
  rw [h]
  exact ⟨fun h => absurd h (by decide), fun _ => ⟨⟨gw_594, gw_595, ⟨gw_21, gw_596⟩⟩, ⟨by decide +kernel, by decide +kernel, by decide +kernel⟩, ⟨by decide +kernel, rfl, rfl⟩⟩, fun h => absurd h (by decide), fun h => absurd h (by decide), fun h => absurd h (by decide), fun h => absurd h (by decide), fun h => absurd h (by decide)⟩
theorem mp_18_1059 (mi : aI) (h : iO mi = "java/lang/String") : okM mi mI_60 1059 1 3 0 := by
  unfold okM cV cS cI cN
  rw [h]
  exact ⟨fun h => absurd h (by decide), fun _ => ⟨⟨gw_591, gw_592, ⟨gw_20, gw_593⟩⟩, ⟨by decide +kernel, by decide +kernel, by decide +kernel⟩, ⟨by decide +kernel, rfl, rfl⟩⟩, fun h => absurd h (by decide), fun h => absurd h (by decide), fun h => absurd h (by decide), fun h => absurd h (by decide), fun h => absurd h (by decide)⟩
def mL_19 : List (Nat × Nat × Nat × Nat) := [(9, 59, 1, 2)]
theorem mp_19_9 (mi : aI) (h : iO mi = "java/lang/StringLatin1") : okM mi mI_59 9 1 2 0 := by
  unfold okM cV cS cI cN
  rw [h]
  exact ⟨fun h => absurd h (by decide), fun _ => ⟨⟨gw_586, gw_587, ⟨gw_18, gw_588⟩⟩, ⟨by decide +kernel, by decide +kernel, by decide +kernel⟩, ⟨by decide +kernel, rfl, rfl⟩⟩, fun h => absurd h (by decide), fun h => absurd h (by decide), fun h => absurd h (by decide), fun h => absurd h (by decide), fun h => absurd h (by decide)⟩
def mL_20 : List (Nat × Nat × Nat × Nat) := []
def mL_21 : List (Nat × Nat × Nat × Nat) := [(48, 63, 1, 1), (67, 62, 1, 2), (71, 64, 1, 2), (414, 59, 1, 2)]
theorem mp_21_48 (mi : aI) (h : iO mi = "java/lang/StringUTF16") : okM mi mI_63 48 1 1 0 := by
  unfold okM cV cS cI cN
  rw [h]
  exact ⟨fun h => absurd h (by decide), fun _ => ⟨⟨gw_600, gw_601, ⟨gw_21, gw_602⟩⟩, ⟨by decide +kernel, by decide +kernel, by decide +kernel⟩, ⟨by decide +kernel, rfl, rfl⟩⟩, fun h => absurd h (by decide), fun h => absurd h (by decide), fun h => absurd h (by decide), fun h => absurd h (by decide), fun h => absurd h (by decide)⟩
theorem mp_21_67 (mi : aI) (h : iO mi = "java/lang/StringUTF16") : okM mi mI_62 67 1 2 0 := by
  unfold okM cV cS cI cN
  rw [h]
  exact ⟨fun h => absurd h (by decide), fun _ => ⟨⟨gw_597, gw_598, ⟨gw_21, gw_599⟩⟩, ⟨by decide +kernel, by decide +kernel, by decide +kernel⟩, ⟨by decide +kernel, rfl, rfl⟩⟩, fun h => absurd h (by decide), fun h => absurd h (by decide), fun h => absurd h (by decide), fun h => absurd h (by decide), fun h => absurd h (by decide)⟩
theorem mp_21_71 (mi : aI) (h : iO mi = "java/lang/StringUTF16") : okM mi mI_64 71 1 2 0 := by
  unfold okM cV cS cI cN
  rw [h]
  exact ⟨fun h => absurd h (by decide), fun _ => ⟨⟨gw_604, gw_605, ⟨gw_21, gw_606⟩⟩, ⟨by decide +kernel, by decide +kernel, by decide +kernel⟩, ⟨by decide +kernel, rfl, rfl⟩⟩, fun h => absurd h (by decide), fun h => absurd h (by decide), fun h => absurd h (by decide), fun h => absurd h (by decide), fun h => absurd h (by decide)⟩
theorem mp_21_414 (mi : aI) (h : iO mi = "java/lang/StringUTF16") : okM mi mI_59 414 1 2 0 := by
  unfold okM cV cS cI cN
  rw [h]
  exact ⟨fun h => absurd h (by decide), fun _ => ⟨⟨gw_603, gw_587, ⟨gw_18, gw_588⟩⟩, ⟨by decide +kernel, by decide +kernel, by decide +kernel⟩, ⟨by decide +kernel, rfl, rfl⟩⟩, fun h => absurd h (by decide), fun h => absurd h (by decide), fun h => absurd h (by decide), fun h => absurd h (by decide), fun h => absurd h (by decide)⟩
def mL_22 : List (Nat × Nat × Nat × Nat) := []
def mL_23 : List (Nat × Nat × Nat × Nat) := [(13, 42, 2, 1)]
theorem mp_23_13 (mi : aI) (h : iO mi = "java/util/NoSuchElementException") : okM mi mI_42 13 2 1 0 := by
  unfold okM cV cS cI cN
  rw [h]
  exact ⟨fun h => absurd h (by decide), fun h => absurd h (by decide), fun _ => ⟨⟨gw_722, gw_509, ⟨gw_16, gw_510⟩, rfl, rfl⟩, ⟨by decide +kernel, by decide +kernel, by decide +kernel⟩, ⟨by decide +kernel, rfl, rfl⟩⟩, fun h => absurd h (by decide), fun h => absurd h (by decide), fun h => absurd h (by decide), fun h => absurd h (by decide)⟩
def mL_24 : List (Nat × Nat × Nat × Nat) := [(1, 0, 4, 0), (126, 173, 0, 1), (136, 177, 0, 1), (153, 178, 1, 1), (157, 179, 1, 1), (165, 183, 1, 6), (172, 180, 0, 0), (176, 176, 0, 0), (179, 185, 0, 1), (185, 186, 0, 2), (189, 182, 0, 1), (198, 189, 0, 1), (210, 188, 0, 0), (213, 184, 0, 0), (216, 187, 0, 0), (219, 190, 0, 0), (229, 191, 0, 1), (233, 175, 0, 2), (237, 181, 0, 0), (252, 192, 0, 2), (262, 195, 1, 3), (266, 197, 0, 1), (269, 199, 0, 1), (272, 207, 0, 2), (276, 206, 0, 2), (279, 205, 0, 2), (283, 212, 0, 2), (286, 213, 0, 2), (289, 210, 0, 0), (292, 211, 0, 1), (295, 209, 0, 1), (301, 203, 0, 2), (304, 204, 0, 1), (307, 208, 0, 1), (310, 217, 1, 1), (313, 216, 0, 1), (316, 221, 0, 2), (319, 223, 0, 1), (323, 225, 0, 1), (326, 226, 0, 1), (329, 229, 1, 1), (332, 233, 0, 3), (335, 234, 0, 1), (338, 231, 0, 0), (341, 232, 0, 1), (352, 241, 0, 0), (356, 242, 0, 0), (359, 243, 0, 1), (362, 240, 0, 0)]
theorem mp_24_1 (mi mj : aI) (h : iO mi = "FullHouseModel") (cn : Nat) : okM mi mj 1 4 0 cn := by
  unfold okM
  rw [h]
  exact ⟨fun h => absurd h (by decide), fun h => absurd h (by decide), fun h => absurd h (by decide), fun h => absurd h (by decide), fun _ => ⟨gw_1085, gw_31, gw_32⟩, fun h => absurd h (by decide), fun h => absurd h (by decide)⟩
theorem mp_24_126 (mi : aI) (h : iO mi = "FullHouseModel") : okM mi mI_173 126 0 1 10 := by
  unfold okM cV cS cI cN
  rw [h]
  exact ⟨fun _ => ⟨⟨gw_1288, gw_1290, gs_29, ⟨gw_13, gw_1291⟩⟩, ⟨by decide +kernel, by decide +kernel, by decide +kernel⟩, ⟨_, rfl, rfl⟩, ⟨by decide +kernel, rfl, rfl⟩⟩, fun h => absurd h (by decide), fun h => absurd h (by decide), fun h => absurd h (by decide), fun h => absurd h (by decide), fun h => absurd h (by decide), fun h => absurd h (by decide)⟩
theorem mp_24_136 (mi : aI) (h : iO mi = "FullHouseModel") : okM mi mI_177 136 0 1 10 := by
  unfold okM cV cS cI cN
  rw [h]
  exact ⟨fun _ => ⟨⟨gw_1304, gw_1306, gs_32, ⟨gw_13, gw_1307⟩⟩, ⟨by decide +kernel, by decide +kernel, by decide +kernel⟩, ⟨_, rfl, rfl⟩, ⟨by decide +kernel, rfl, rfl⟩⟩, fun h => absurd h (by decide), fun h => absurd h (by decide), fun h => absurd h (by decide), fun h => absurd h (by decide), fun h => absurd h (by decide), fun h => absurd h (by decide)⟩
theorem mp_24_153 (mi : aI) (h : iO mi = "FullHouseModel") : okM mi mI_178 153 1 1 10 := by
  unfold okM cV cS cI cN
  rw [h]
  exact ⟨fun h => absurd h (by decide), fun _ => ⟨⟨gw_1308, gw_1309, ⟨gw_13, gw_1310⟩⟩, ⟨by decide +kernel, by decide +kernel, by decide +kernel⟩, ⟨by decide +kernel, rfl, rfl⟩⟩, fun h => absurd h (by decide), fun h => absurd h (by decide), fun h => absurd h (by decide), fun h => absurd h (by decide), fun h => absurd h (by decide)⟩
theorem mp_24_157 (mi : aI) (h : iO mi = "FullHouseModel") : okM mi mI_179 157 1 1 10 := by
  unfold okM cV cS cI cN
  rw [h]
  exact ⟨fun h => absurd h (by decide), fun _ => ⟨⟨gw_1311, gw_1312, ⟨gw_13, gw_1313⟩⟩, ⟨by decide +kernel, by decide +kernel, by decide +kernel⟩, ⟨by decide +kernel, rfl, rfl⟩⟩, fun h => absurd h (by decide), fun h => absurd h (by decide), fun h => absurd h (by decide), fun h => absurd h (by decide), fun h => absurd h (by decide)⟩
theorem mp_24_165 (mi : aI) (h : iO mi = "FullHouseModel") : okM mi mI_183 165 1 6 10 := by
  unfold okM cV cS cI cN
  rw [h]
  exact ⟨fun h => absurd h (by decide), fun _ => ⟨⟨gw_1326, gw_1327, ⟨gw_13, gw_1328⟩⟩, ⟨by decide +kernel, by decide +kernel, by decide +kernel⟩, ⟨by decide +kernel, rfl, rfl⟩⟩, fun h => absurd h (by decide), fun h => absurd h (by decide), fun h => absurd h (by decide), fun h => absurd h (by decide), fun h => absurd h (by decide)⟩
theorem mp_24_172 (mi : aI) (h : iO mi = "FullHouseModel") : okM mi mI_180 172 0 0 10 := by
  unfold okM cV cS cI cN
  rw [h]
  exact ⟨fun _ => ⟨⟨gw_1314, gw_1316, gs_33, ⟨gw_13, gw_1317⟩⟩, ⟨by decide +kernel, by decide +kernel, by decide +kernel⟩, ⟨_, rfl, rfl⟩, ⟨by decide +kernel, rfl, rfl⟩⟩, fun h => absurd h (by decide), fun h => absurd h (by decide), fun h => absurd h (by decide), fun h => absurd h (by decide), fun h => absurd h (by decide), fun h => absurd h (by decide)⟩
theorem mp_24_176 (mi : aI) (h : iO mi = "FullHouseModel") : okM mi mI_176 176 0 0 10 := by
  unfold okM cV cS cI cN
  rw [h]
  exact ⟨fun _ => ⟨⟨gw_1300, gw_1302, gs_31, ⟨gw_13, gw_1303⟩⟩, ⟨by decide +kernel, by decide +kernel, by decide +kernel⟩, ⟨_, rfl, rfl⟩, ⟨by decide +kernel, rfl, rfl⟩⟩, fun h => absurd h (by decide), fun h => absurd h (by decide), fun h => absurd h (by decide), fun h => absurd h (by decide), fun h => absurd h (by decide), fun h => absurd h (by decide)⟩
theorem mp_24_179 (mi : aI) (h : iO mi = "FullHouseModel") : okM mi mI_185 179 0 1 10 := by
  unfold okM cV cS cI cN
  rw [h]
  exact ⟨fun _ => ⟨⟨gw_1334, gw_1336, gs_37, ⟨gw_13, gw_1337⟩⟩, ⟨by decide +kernel, by decide +kernel, by decide +kernel⟩, ⟨_, rfl, rfl⟩, ⟨by decide +kernel, rfl, rfl⟩⟩, fun h => absurd h (by decide), fun h => absurd h (by decide), fun h => absurd h (by decide), fun h => absurd h (by decide), fun h => absurd h (by decide), fun h => absurd h (by decide)⟩
theorem mp_24_185 (mi : aI) (h : iO mi = "FullHouseModel") : okM mi mI_186 185 0 2 10 := by
  unfold okM cV cS cI cN
  rw [h]
  exact ⟨fun _ => ⟨⟨gw_1338, gw_1340, gs_38, ⟨gw_13, gw_1341⟩⟩, ⟨by decide +kernel, by decide +kernel, by decide +kernel⟩, ⟨_, rfl, rfl⟩, ⟨by decide +kernel, rfl, rfl⟩⟩, fun h => absurd h (by decide), fun h => absurd h (by decide), fun h => absurd h (by decide), fun h => absurd h (by decide), fun h => absurd h (by decide), fun h => absurd h (by decide)⟩
theorem mp_24_189 (mi : aI) (h : iO mi = "FullHouseModel") : okM mi mI_182 189 0 1 10 := by
  unfold okM cV cS cI cN
  rw [h]
  exact ⟨fun _ => ⟨⟨gw_1322, gw_1324, gs_35, ⟨gw_13, gw_1325⟩⟩, ⟨by decide +kernel, by decide +kernel, by decide +kernel⟩, ⟨_, rfl, rfl⟩, ⟨by decide +kernel, rfl, rfl⟩⟩, fun h => absurd h (by decide), fun h => absurd h (by decide), fun h => absurd h (by decide), fun h => absurd h (by decide), fun h => absurd h (by decide), fun h => absurd h (by decide)⟩
theorem mp_24_198 (mi : aI) (h : iO mi = "FullHouseModel") : okM mi mI_189 198 0 1 10 := by
  unfold okM cV cS cI cN
  rw [h]
  exact ⟨fun _ => ⟨⟨gw_1350, gw_1352, gs_41, ⟨gw_13, gw_1353⟩⟩, ⟨by decide +kernel, by decide +kernel, by decide +kernel⟩, ⟨_, rfl, rfl⟩, ⟨by decide +kernel, rfl, rfl⟩⟩, fun h => absurd h (by decide), fun h => absurd h (by decide), fun h => absurd h (by decide), fun h => absurd h (by decide), fun h => absurd h (by decide), fun h => absurd h (by decide)⟩
theorem mp_24_210 (mi : aI) (h : iO mi = "FullHouseModel") : okM mi mI_188 210 0 0 10 := by
  unfold okM cV cS cI cN
  rw [h]
  exact ⟨fun _ => ⟨⟨gw_1346, gw_1348, gs_40, ⟨gw_13, gw_1349⟩⟩, ⟨by decide +kernel, by decide +kernel, by decide +kernel⟩, ⟨_, rfl, rfl⟩, ⟨by decide +kernel, rfl, rfl⟩⟩, fun h => absurd h (by decide), fun h => absurd h (by decide), fun h => absurd h (by decide), fun h => absurd h (by decide), fun h => absurd h (by decide), fun h => absurd h (by decide)⟩
theorem mp_24_213 (mi : aI) (h : iO mi = "FullHouseModel") : okM mi mI_184 213 0 0 10 := by
  unfold okM cV cS cI cN
  rw [h]
  exact ⟨fun _ => ⟨⟨gw_1330, gw_1332, gs_36, ⟨gw_13, gw_1333⟩⟩, ⟨by decide +kernel, by decide +kernel, by decide +kernel⟩, ⟨_, rfl, rfl⟩, ⟨by decide +kernel, rfl, rfl⟩⟩, fun h => absurd h (by decide), fun h => absurd h (by decide), fun h => absurd h (by decide), fun h => absurd h (by decide), fun h => absurd h (by decide), fun h => absurd h (by decide)⟩
theorem mp_24_216 (mi : aI) (h : iO mi = "FullHouseModel") : okM mi mI_187 216 0 0 10 := by
  unfold okM cV cS cI cN
  rw [h]
  exact ⟨fun _ => ⟨⟨gw_1342, gw_1344, gs_39, ⟨gw_13, gw_1345⟩⟩, ⟨by decide +kernel, by decide +kernel, by decide +kernel⟩, ⟨_, rfl, rfl⟩, ⟨by decide +kernel, rfl, rfl⟩⟩, fun h => absurd h (by decide), fun h => absurd h (by decide), fun h => absurd h (by decide), fun h => absurd h (by decide), fun h => absurd h (by decide), fun h => absurd h (by decide)⟩
theorem mp_24_219 (mi : aI) (h : iO mi = "FullHouseModel") : okM mi mI_190 219 0 0 10 := by
  unfold okM cV cS cI cN
  rw [h]
  exact ⟨fun _ => ⟨⟨gw_1354, gw_1356, gs_42, ⟨gw_13, gw_1357⟩⟩, ⟨by decide +kernel, by decide +kernel, by decide +kernel⟩, ⟨_, rfl, rfl⟩, ⟨by decide +kernel, rfl, rfl⟩⟩, fun h => absurd h (by decide), fun h => absurd h (by decide), fun h => absurd h (by decide), fun h => absurd h (by decide), fun h => absurd h (by decide), fun h => absurd h (by decide)⟩
theorem mp_24_229 (mi : aI) (h : iO mi = "FullHouseModel") : okM mi mI_191 229 0 1 10 := by
  unfold okM cV cS cI cN
  rw [h]
  exact ⟨fun _ => ⟨⟨gw_1358, gw_1360, gs_43, ⟨gw_13, gw_1361⟩⟩, ⟨by decide +kernel, by decide +kernel, by decide +kernel⟩, ⟨_, rfl, rfl⟩, ⟨by decide +kernel, rfl, rfl⟩⟩, fun h => absurd h (by decide), fun h => absurd h (by decide), fun h => absurd h (by decide), fun h => absurd h (by decide), fun h => absurd h (by decide), fun h => absurd h (by decide)⟩
theorem mp_24_233 (mi : aI) (h : iO mi = "FullHouseModel") : okM mi mI_175 233 0 2 10 := by
  unfold okM cV cS cI cN
  rw [h]
  exact ⟨fun _ => ⟨⟨gw_1296, gw_1298, gs_30, ⟨gw_13, gw_1299⟩⟩, ⟨by decide +kernel, by decide +kernel, by decide +kernel⟩, ⟨_, rfl, rfl⟩, ⟨by decide +kernel, rfl, rfl⟩⟩, fun h => absurd h (by decide), fun h => absurd h (by decide), fun h => absurd h (by decide), fun h => absurd h (by decide), fun h => absurd h (by decide), fun h => absurd h (by decide)⟩
theorem mp_24_237 (mi : aI) (h : iO mi = "FullHouseModel") : okM mi mI_181 237 0 0 10 := by
  unfold okM cV cS cI cN
  rw [h]
  exact ⟨fun _ => ⟨⟨gw_1318, gw_1320, gs_34, ⟨gw_13, gw_1321⟩⟩, ⟨by decide +kernel, by decide +kernel, by decide +kernel⟩, ⟨_, rfl, rfl⟩, ⟨by decide +kernel, rfl, rfl⟩⟩, fun h => absurd h (by decide), fun h => absurd h (by decide), fun h => absurd h (by decide), fun h => absurd h (by decide), fun h => absurd h (by decide), fun h => absurd h (by decide)⟩
theorem mp_24_252 (mi : aI) (h : iO mi = "FullHouseModel") : okM mi mI_192 252 0 2 10 := by
  unfold okM cV cS cI cN
  rw [h]
  exact ⟨fun _ => ⟨⟨gw_1362, gw_1364, gs_44, ⟨gw_13, gw_1365⟩⟩, ⟨by decide +kernel, by decide +kernel, by decide +kernel⟩, ⟨_, rfl, rfl⟩, ⟨by decide +kernel, rfl, rfl⟩⟩, fun h => absurd h (by decide), fun h => absurd h (by decide), fun h => absurd h (by decide), fun h => absurd h (by decide), fun h => absurd h (by decide), fun h => absurd h (by decide)⟩
theorem mp_24_262 (mi : aI) (h : iO mi = "FullHouseModel") : okM mi mI_195 262 1 3 10 := by
  unfold okM cV cS cI cN
  rw [h]
  exact ⟨fun h => absurd h (by decide), fun _ => ⟨⟨gw_1374, gw_1375, ⟨gw_13, gw_1376⟩⟩, ⟨by decide +kernel, by decide +kernel, by decide +kernel⟩, ⟨by decide +kernel, rfl, rfl⟩⟩, fun h => absurd h (by decide), fun h => absurd h (by decide), fun h => absurd h (by decide), fun h => absurd h (by decide), fun h => absurd h (by decide)⟩
theorem mp_24_266 (mi : aI) (h : iO mi = "FullHouseModel") : okM mi mI_197 266 0 1 10 := by
  unfold okM cV cS cI cN
  rw [h]
  exact ⟨fun _ => ⟨⟨gw_1381, gw_1383, gs_45, ⟨gw_13, gw_1384⟩⟩, ⟨by decide +kernel, by decide +kernel, by decide +kernel⟩, ⟨_, rfl, rfl⟩, ⟨by decide +kernel, rfl, rfl⟩⟩, fun h => absurd h (by decide), fun h => absurd h (by decide), fun h => absurd h (by decide), fun h => absurd h (by decide), fun h => absurd h (by decide), fun h => absurd h (by decide)⟩
theorem mp_24_269 (mi : aI) (h : iO mi = "FullHouseModel") : okM mi mI_199 269 0 1 10 := by
  unfold okM cV cS cI cN
  rw [h]
  exact ⟨fun _ => ⟨⟨gw_1389, gw_1391, gs_46, ⟨gw_13, gw_1392⟩⟩, ⟨by decide +kernel, by decide +kernel, by decide +kernel⟩, ⟨_, rfl, rfl⟩, ⟨by decide +kernel, rfl, rfl⟩⟩, fun h => absurd h (by decide), fun h => absurd h (by decide), fun h => absurd h (by decide), fun h => absurd h (by decide), fun h => absurd h (by decide), fun h => absurd h (by decide)⟩
theorem mp_24_272 (mi : aI) (h : iO mi = "FullHouseModel") : okM mi mI_207 272 0 2 10 := by
  unfold okM cV cS cI cN
  rw [h]
  exact ⟨fun _ => ⟨⟨gw_1421, gw_1423, gs_51, ⟨gw_13, gw_1424⟩⟩, ⟨by decide +kernel, by decide +kernel, by decide +kernel⟩, ⟨_, rfl, rfl⟩, ⟨by decide +kernel, rfl, rfl⟩⟩, fun h => absurd h (by decide), fun h => absurd h (by decide), fun h => absurd h (by decide), fun h => absurd h (by decide), fun h => absurd h (by decide), fun h => absurd h (by decide)⟩
theorem mp_24_276 (mi : aI) (h : iO mi = "FullHouseModel") : okM mi mI_206 276 0 2 10 := by
  unfold okM cV cS cI cN
  rw [h]
  exact ⟨fun _ => ⟨⟨gw_1417, gw_1419, gs_50, ⟨gw_13, gw_1420⟩⟩, ⟨by decide +kernel, by decide +kernel, by decide +kernel⟩, ⟨_, rfl, rfl⟩, ⟨by decide +kernel, rfl, rfl⟩⟩, fun h => absurd h (by decide), fun h => absurd h (by decide), fun h => absurd h (by decide), fun h => absurd h (by decide), fun h => absurd h (by decide), fun h => absurd h (by decide)⟩
theorem mp_24_279 (mi : aI) (h : iO mi = "FullHouseModel") : okM mi mI_205 279 0 2 10 := by
  unfold okM cV cS cI cN
  rw [h]
  exact ⟨fun _ => ⟨⟨gw_1413, gw_1415, gs_49, ⟨gw_13, gw_1416⟩⟩, ⟨by decide +kernel, by decide +kernel, by decide +kernel⟩, ⟨_, rfl, rfl⟩, ⟨by decide +kernel, rfl, rfl⟩⟩, fun h => absurd h (by decide), fun h => absurd h (by decide), fun h => absurd h (by decide), fun h => absurd h (by decide), fun h => absurd h (by decide), fun h => absurd h (by decide)⟩
theorem mp_24_283 (mi : aI) (h : iO mi = "FullHouseModel") : okM mi mI_212 283 0 2 10 := by
  unfold okM cV cS cI cN
  rw [h]
  exact ⟨fun _ => ⟨⟨gw_1441, gw_1443, gs_56, ⟨gw_13, gw_1444⟩⟩, ⟨by decide +kernel, by decide +kernel, by decide +kernel⟩, ⟨_, rfl, rfl⟩, ⟨by decide +kernel, rfl, rfl⟩⟩, fun h => absurd h (by decide), fun h => absurd h (by decide), fun h => absurd h (by decide), fun h => absurd h (by decide), fun h => absurd h (by decide), fun h => absurd h (by decide)⟩
theorem mp_24_286 (mi : aI) (h : iO mi = "FullHouseModel") : okM mi mI_213 286 0 2 10 := by
  unfold okM cV cS cI cN
  rw [h]
  exact ⟨fun _ => ⟨⟨gw_1445, gw_1447, gs_57, ⟨gw_13, gw_1448⟩⟩, ⟨by decide +kernel, by decide +kernel, by decide +kernel⟩, ⟨_, rfl, rfl⟩, ⟨by decide +kernel, rfl, rfl⟩⟩, fun h => absurd h (by decide), fun h => absurd h (by decide), fun h => absurd h (by decide), fun h => absurd h (by decide), fun h => absurd h (by decide), fun h => absurd h (by decide)⟩
theorem mp_24_289 (mi : aI) (h : iO mi = "FullHouseModel") : okM mi mI_210 289 0 0 10 := by
  unfold okM cV cS cI cN
  rw [h]
  exact ⟨fun _ => ⟨⟨gw_1433, gw_1435, gs_54, ⟨gw_13, gw_1436⟩⟩, ⟨by decide +kernel, by decide +kernel, by decide +kernel⟩, ⟨_, rfl, rfl⟩, ⟨by decide +kernel, rfl, rfl⟩⟩, fun h => absurd h (by decide), fun h => absurd h (by decide), fun h => absurd h (by decide), fun h => absurd h (by decide), fun h => absurd h (by decide), fun h => absurd h (by decide)⟩
theorem mp_24_292 (mi : aI) (h : iO mi = "FullHouseModel") : okM mi mI_211 292 0 1 10 := by
  unfold okM cV cS cI cN
  rw [h]
  exact ⟨fun _ => ⟨⟨gw_1437, gw_1439, gs_55, ⟨gw_13, gw_1440⟩⟩, ⟨by decide +kernel, by decide +kernel, by decide +kernel⟩, ⟨_, rfl, rfl⟩, ⟨by decide +kernel, rfl, rfl⟩⟩, fun h => absurd h (by decide), fun h => absurd h (by decide), fun h => absurd h (by decide), fun h => absurd h (by decide), fun h => absurd h (by decide), fun h => absurd h (by decide)⟩
theorem mp_24_295 (mi : aI) (h : iO mi = "FullHouseModel") : okM mi mI_209 295 0 1 10 := by
  unfold okM cV cS cI cN
  rw [h]
  exact ⟨fun _ => ⟨⟨gw_1429, gw_1431, gs_53, ⟨gw_13, gw_1432⟩⟩, ⟨by decide +kernel, by decide +kernel, by decide +kernel⟩, ⟨_, rfl, rfl⟩, ⟨by decide +kernel, rfl, rfl⟩⟩, fun h => absurd h (by decide), fun h => absurd h (by decide), fun h => absurd h (by decide), fun h => absurd h (by decide), fun h => absurd h (by decide), fun h => absurd h (by decide)⟩
theorem mp_24_301 (mi : aI) (h : iO mi = "FullHouseModel") : okM mi mI_203 301 0 2 10 := by
  unfold okM cV cS cI cN
  rw [h]
  exact ⟨fun _ => ⟨⟨gw_1405, gw_1407, gs_47, ⟨gw_13, gw_1408⟩⟩, ⟨by decide +kernel, by decide +kernel, by decide +kernel⟩, ⟨_, rfl, rfl⟩, ⟨by decide +kernel, rfl, rfl⟩⟩, fun h => absurd h (by decide), fun h => absurd h (by decide), fun h => absurd h (by decide), fun h => absurd h (by decide), fun h => absurd h (by decide), fun h => absurd h (by decide)⟩
theorem mp_24_304 (mi : aI) (h : iO mi = "FullHouseModel") : okM mi mI_204 304 0 1 10 := by
  unfold okM cV cS cI cN
  rw [h]
  exact ⟨fun _ => ⟨⟨gw_1409, gw_1411, gs_48, ⟨gw_13, gw_1412⟩⟩, ⟨by decide +kernel, by decide +kernel, by decide +kernel⟩, ⟨_, rfl, rfl⟩, ⟨by decide +kernel, rfl, rfl⟩⟩, fun h => absurd h (by decide), fun h => absurd h (by decide), fun h => absurd h (by decide), fun h => absurd h (by decide), fun h => absurd h (by decide), fun h => absurd h (by decide)⟩
theorem mp_24_307 (mi : aI) (h : iO mi = "FullHouseModel") : okM mi mI_208 307 0 1 10 := by
  unfold okM cV cS cI cN
  rw [h]
  exact ⟨fun _ => ⟨⟨gw_1425, gw_1427, gs_52, ⟨gw_13, gw_1428⟩⟩, ⟨by decide +kernel, by decide +kernel, by decide +kernel⟩, ⟨_, rfl, rfl⟩, ⟨by decide +kernel, rfl, rfl⟩⟩, fun h => absurd h (by decide), fun h => absurd h (by decide), fun h => absurd h (by decide), fun h => absurd h (by decide), fun h => absurd h (by decide), fun h => absurd h (by decide)⟩
theorem mp_24_310 (mi : aI) (h : iO mi = "FullHouseModel") : okM mi mI_217 310 1 1 10 := by
  unfold okM cV cS cI cN
  rw [h]
  exact ⟨fun h => absurd h (by decide), fun _ => ⟨⟨gw_1461, gw_1462, ⟨gw_13, gw_1463⟩⟩, ⟨by decide +kernel, by decide +kernel, by decide +kernel⟩, ⟨by decide +kernel, rfl, rfl⟩⟩, fun h => absurd h (by decide), fun h => absurd h (by decide), fun h => absurd h (by decide), fun h => absurd h (by decide), fun h => absurd h (by decide)⟩
theorem mp_24_313 (mi : aI) (h : iO mi = "FullHouseModel") : okM mi mI_216 313 0 1 10 := by
  unfold okM cV cS cI cN
  rw [h]
  exact ⟨fun _ => ⟨⟨gw_1457, gw_1459, gs_58, ⟨gw_13, gw_1460⟩⟩, ⟨by decide +kernel, by decide +kernel, by decide +kernel⟩, ⟨_, rfl, rfl⟩, ⟨by decide +kernel, rfl, rfl⟩⟩, fun h => absurd h (by decide), fun h => absurd h (by decide), fun h => absurd h (by decide), fun h => absurd h (by decide), fun h => absurd h (by decide), fun h => absurd h (by decide)⟩
theorem mp_24_316 (mi : aI) (h : iO mi = "FullHouseModel") : okM mi mI_221 316 0 2 10 := by
  unfold okM cV cS cI cN
  rw [h]
  exact ⟨fun _ => ⟨⟨gw_1476, gw_1478, gs_59, ⟨gw_13, gw_1479⟩⟩, ⟨by decide +kernel, by decide +kernel, by decide +kernel⟩, ⟨_, rfl, rfl⟩, ⟨by decide +kernel, rfl, rfl⟩⟩, fun h => absurd h (by decide), fun h => absurd h (by decide), fun h => absurd h (by decide), fun h => absurd h (by decide), fun h => absurd h (by decide), fun h => absurd h (by decide)⟩
theorem mp_24_319 (mi : aI) (h : iO mi = "FullHouseModel") : okM mi mI_223 319 0 1 10 := by
  unfold okM cV cS cI cN
  rw [h]
  exact ⟨fun _ => ⟨⟨gw_1484, gw_1486, gs_60, ⟨gw_13, gw_1487⟩⟩, ⟨by decide +kernel, by decide +kernel, by decide +kernel⟩, ⟨_, rfl, rfl⟩, ⟨by decide +kernel, rfl, rfl⟩⟩, fun h => absurd h (by decide), fun h => absurd h (by decide), fun h => absurd h (by decide), fun h => absurd h (by decide), fun h => absurd h (by decide), fun h => absurd h (by decide)⟩
theorem mp_24_323 (mi : aI) (h : iO mi = "FullHouseModel") : okM mi mI_225 323 0 1 10 := by
  unfold okM cV cS cI cN
  rw [h]
  exact ⟨fun _ => ⟨⟨gw_1492, gw_1494, gs_61, ⟨gw_13, gw_1495⟩⟩, ⟨by decide +kernel, by decide +kernel, by decide +kernel⟩, ⟨_, rfl, rfl⟩, ⟨by decide +kernel, rfl, rfl⟩⟩, fun h => absurd h (by decide), fun h => absurd h (by decide), fun h => absurd h (by decide), fun h => absurd h (by decide), fun h => absurd h (by decide), fun h => absurd h (by decide)⟩
theorem mp_24_326 (mi : aI) (h : iO mi = "FullHouseModel") : okM mi mI_226 326 0 1 10 := by
  unfold okM cV cS cI cN
  rw [h]
  exact ⟨fun _ => ⟨⟨gw_1496, gw_1498, gs_62, ⟨gw_13, gw_1499⟩⟩, ⟨by decide +kernel, by decide +kernel, by decide +kernel⟩, ⟨_, rfl, rfl⟩, ⟨by decide +kernel, rfl, rfl⟩⟩, fun h => absurd h (by decide), fun h => absurd h (by decide), fun h => absurd h (by decide), fun h => absurd h (by decide), fun h => absurd h (by decide), fun h => absurd h (by decide)⟩
theorem mp_24_329 (mi : aI) (h : iO mi = "FullHouseModel") : okM mi mI_229 329 1 1 10 := by
  unfold okM cV cS cI cN
  rw [h]
  exact ⟨fun h => absurd h (by decide), fun _ => ⟨⟨gw_1508, gw_1509, ⟨gw_13, gw_1510⟩⟩, ⟨by decide +kernel, by decide +kernel, by decide +kernel⟩, ⟨by decide +kernel, rfl, rfl⟩⟩, fun h => absurd h (by decide), fun h => absurd h (by decide), fun h => absurd h (by decide), fun h => absurd h (by decide), fun h => absurd h (by decide)⟩
theorem mp_24_332 (mi : aI) (h : iO mi = "FullHouseModel") : okM mi mI_233 332 0 3 10 := by
  unfold okM cV cS cI cN
  rw [h]
  exact ⟨fun _ => ⟨⟨gw_1523, gw_1525, gs_65, ⟨gw_13, gw_1526⟩⟩, ⟨by decide +kernel, by decide +kernel, by decide +kernel⟩, ⟨_, rfl, rfl⟩, ⟨by decide +kernel, rfl, rfl⟩⟩, fun h => absurd h (by decide), fun h => absurd h (by decide), fun h => absurd h (by decide), fun h => absurd h (by decide), fun h => absurd h (by decide), fun h => absurd h (by decide)⟩
theorem mp_24_335 (mi : aI) (h : iO mi = "FullHouseModel") : okM mi mI_234 335 0 1 10 := by
  unfold okM cV cS cI cN
  rw [h]
  exact ⟨fun _ => ⟨⟨gw_1527, gw_1529, gs_66, ⟨gw_13, gw_1530⟩⟩, ⟨by decide +kernel, by decide +kernel, by decide +kernel⟩, ⟨_, rfl, rfl⟩, ⟨by decide +kernel, rfl, rfl⟩⟩, fun h => absurd h (by decide), fun h => absurd h (by decide), fun h => absurd h (by decide), fun h => absurd h (by decide), fun h => absurd h (by decide), fun h => absurd h (by decide)⟩
theorem mp_24_338 (mi : aI) (h : iO mi = "FullHouseModel") : okM mi mI_231 338 0 0 10 := by
  unfold okM cV cS cI cN
  rw [h]
  exact ⟨fun _ => ⟨⟨gw_1515, gw_1517, gs_63, ⟨gw_13, gw_1518⟩⟩, ⟨by decide +kernel, by decide +kernel, by decide +kernel⟩, ⟨_, rfl, rfl⟩, ⟨by decide +kernel, rfl, rfl⟩⟩, fun h => absurd h (by decide), fun h => absurd h (by decide), fun h => absurd h (by decide), fun h => absurd h (by decide), fun h => absurd h (by decide), fun h => absurd h (by decide)⟩
theorem mp_24_341 (mi : aI) (h : iO mi = "FullHouseModel") : okM mi mI_232 341 0 1 10 := by
  unfold okM cV cS cI cN
  rw [h]
  exact ⟨fun _ => ⟨⟨gw_1519, gw_1521, gs_64, ⟨gw_13, gw_1522⟩⟩, ⟨by decide +kernel, by decide +kernel, by decide +kernel⟩, ⟨_, rfl, rfl⟩, ⟨by decide +kernel, rfl, rfl⟩⟩, fun h => absurd h (by decide), fun h => absurd h (by decide), fun h => absurd h (by decide), fun h => absurd h (by decide), fun h => absurd h (by decide), fun h => absurd h (by decide)⟩
theorem mp_24_352 (mi : aI) (h : iO mi = "FullHouseModel") : okM mi mI_241 352 0 0 10 := by
  unfold okM cV cS cI cN
  rw [h]
  exact ⟨fun _ => ⟨⟨gw_1557, gw_1559, gs_68, ⟨gw_13, gw_1560⟩⟩, ⟨by decide +kernel, by decide +kernel, by decide +kernel⟩, ⟨_, rfl, rfl⟩, ⟨by decide +kernel, rfl, rfl⟩⟩, fun h => absurd h (by decide), fun h => absurd h (by decide), fun h => absurd h (by decide), fun h => absurd h (by decide), fun h => absurd h (by decide), fun h => absurd h (by decide)⟩
theorem mp_24_356 (mi : aI) (h : iO mi = "FullHouseModel") : okM mi mI_242 356 0 0 10 := by
  unfold okM cV cS cI cN
  rw [h]
  exact ⟨fun _ => ⟨⟨gw_1562, gw_1564, gs_69, ⟨gw_13, gw_1565⟩⟩, ⟨by decide +kernel, by decide +kernel, by decide +kernel⟩, ⟨_, rfl, rfl⟩, ⟨by decide +kernel, rfl, rfl⟩⟩, fun h => absurd h (by decide), fun h => absurd h (by decide), fun h => absurd h (by decide), fun h => absurd h (by decide), fun h => absurd h (by decide), fun h => absurd h (by decide)⟩
theorem mp_24_359 (mi : aI) (h : iO mi = "FullHouseModel") : okM mi mI_243 359 0 1 10 := by
  unfold okM cV cS cI cN
  rw [h]
  exact ⟨fun _ => ⟨⟨gw_1566, gw_1568, gs_70, ⟨gw_13, gw_1569⟩⟩, ⟨by decide +kernel, by decide +kernel, by decide +kernel⟩, ⟨_, rfl, rfl⟩, ⟨by decide +kernel, rfl, rfl⟩⟩, fun h => absurd h (by decide), fun h => absurd h (by decide), fun h => absurd h (by decide), fun h => absurd h (by decide), fun h => absurd h (by decide), fun h => absurd h (by decide)⟩
theorem mp_24_362 (mi : aI) (h : iO mi = "FullHouseModel") : okM mi mI_240 362 0 0 10 := by
  unfold okM cV cS cI cN
  rw [h]
  exact ⟨fun _ => ⟨⟨gw_1553, gw_1555, gs_67, ⟨gw_13, gw_1556⟩⟩, ⟨by decide +kernel, by decide +kernel, by decide +kernel⟩, ⟨_, rfl, rfl⟩, ⟨by decide +kernel, rfl, rfl⟩⟩, fun h => absurd h (by decide), fun h => absurd h (by decide), fun h => absurd h (by decide), fun h => absurd h (by decide), fun h => absurd h (by decide), fun h => absurd h (by decide)⟩
def kL_0 : List (Nat × Int32) := []
theorem kL_0_ok (mi : aI) (h : iO mi = "FullHouse") : ∀ x ∈ kL_0, Cond.constant (iO mi) x.1 x.2 ∈ GW := by
  rw [h]
  exact fun _ h => absurd h List.not_mem_nil
def kL_1 : List (Nat × Int32) := []
theorem kL_1_ok (mi : aI) (h : iO mi = "java/lang/Object") : ∀ x ∈ kL_1, Cond.constant (iO mi) x.1 x.2 ∈ GW := by
  rw [h]
  exact fun _ h => absurd h List.not_mem_nil
def kL_2 : List (Nat × Int32) := []
theorem kL_2_ok (mi : aI) (h : iO mi = "FullHouse$Reader") : ∀ x ∈ kL_2, Cond.constant (iO mi) x.1 x.2 ∈ GW := by
  rw [h]
  exact fun _ h => absurd h List.not_mem_nil
def kL_3 : List (Nat × Int32) := []
theorem kL_3_ok (mi : aI) (h : iO mi = "FullHouse$Tokens") : ∀ x ∈ kL_3, Cond.constant (iO mi) x.1 x.2 ∈ GW := by
  rw [h]
  exact fun _ h => absurd h List.not_mem_nil
def kL_4 : List (Nat × Int32) := []
theorem kL_4_ok (mi : aI) (h : iO mi = "FullHouse$House") : ∀ x ∈ kL_4, Cond.constant (iO mi) x.1 x.2 ∈ GW := by
  rw [h]
  exact fun _ h => absurd h List.not_mem_nil
def kL_5 : List (Nat × Int32) := []
theorem kL_5_ok (mi : aI) (h : iO mi = "FullHouse$Spans") : ∀ x ∈ kL_5, Cond.constant (iO mi) x.1 x.2 ∈ GW := by
  rw [h]
  exact fun _ h => absurd h List.not_mem_nil
def kL_6 : List (Nat × Int32) := []
theorem kL_6_ok (mi : aI) (h : iO mi = "FullHouse$Lefts") : ∀ x ∈ kL_6, Cond.constant (iO mi) x.1 x.2 ∈ GW := by
  rw [h]
  exact fun _ h => absurd h List.not_mem_nil
def kL_7 : List (Nat × Int32) := []
theorem kL_7_ok (mi : aI) (h : iO mi = "FullHouse$Rows") : ∀ x ∈ kL_7, Cond.constant (iO mi) x.1 x.2 ∈ GW := by
  rw [h]
  exact fun _ h => absurd h List.not_mem_nil
def kL_8 : List (Nat × Int32) := [(63, (2147483647 : Int32))]
theorem kL_8_ok (mi : aI) (h : iO mi = "FullHouse$Learning") : ∀ x ∈ kL_8, Cond.constant (iO mi) x.1 x.2 ∈ GW := by
  rw [h]
  exact List.forall_mem_cons.mpr ⟨gw_922, fun _ h => absurd h List.not_mem_nil⟩
def kL_9 : List (Nat × Int32) := []
theorem kL_9_ok (mi : aI) (h : iO mi = "FullHouse$Guest") : ∀ x ∈ kL_9, Cond.constant (iO mi) x.1 x.2 ∈ GW := by
  rw [h]
  exact fun _ h => absurd h List.not_mem_nil
def kL_10 : List (Nat × Int32) := [(87, (1103515245 : Int32))]
theorem kL_10_ok (mi : aI) (h : iO mi = "FullHouse$Weeks") : ∀ x ∈ kL_10, Cond.constant (iO mi) x.1 x.2 ∈ GW := by
  rw [h]
  exact List.forall_mem_cons.mpr ⟨gw_1033, fun _ h => absurd h List.not_mem_nil⟩
def kL_11 : List (Nat × Int32) := []
theorem kL_11_ok (mi : aI) (h : iO mi = "java/util/Arrays") : ∀ x ∈ kL_11, Cond.constant (iO mi) x.1 x.2 ∈ GW := by
  rw [h]
  exact fun _ h => absurd h List.not_mem_nil
def kL_12 : List (Nat × Int32) := [(265, (1431655765 : Int32)), (266, (858993459 : Int32)), (267, (252645135 : Int32)), (264, (65536 : Int32))]
theorem kL_12_ok (mi : aI) (h : iO mi = "java/lang/Integer") : ∀ x ∈ kL_12, Cond.constant (iO mi) x.1 x.2 ∈ GW := by
  rw [h]
  exact List.forall_mem_cons.mpr ⟨gw_339, List.forall_mem_cons.mpr ⟨gw_340, List.forall_mem_cons.mpr ⟨gw_341, List.forall_mem_cons.mpr ⟨gw_807, fun _ h => absurd h List.not_mem_nil⟩⟩⟩⟩
def kL_13 : List (Nat × Int32) := []
theorem kL_13_ok (mi : aI) (h : iO mi = "FullHouseLaw") : ∀ x ∈ kL_13, Cond.constant (iO mi) x.1 x.2 ∈ GW := by
  rw [h]
  exact fun _ h => absurd h List.not_mem_nil
def kL_14 : List (Nat × Int32) := []
theorem kL_14_ok (mi : aI) (h : iO mi = "java/lang/Throwable") : ∀ x ∈ kL_14, Cond.constant (iO mi) x.1 x.2 ∈ GW := by
  rw [h]
  exact fun _ h => absurd h List.not_mem_nil
def kL_15 : List (Nat × Int32) := []
theorem kL_15_ok (mi : aI) (h : iO mi = "java/lang/IllegalArgumentException") : ∀ x ∈ kL_15, Cond.constant (iO mi) x.1 x.2 ∈ GW := by
  rw [h]
  exact fun _ h => absurd h List.not_mem_nil
def kL_16 : List (Nat × Int32) := []
theorem kL_16_ok (mi : aI) (h : iO mi = "java/lang/RuntimeException") : ∀ x ∈ kL_16, Cond.constant (iO mi) x.1 x.2 ∈ GW := by
  rw [h]
  exact fun _ h => absurd h List.not_mem_nil
def kL_17 : List (Nat × Int32) := []
theorem kL_17_ok (mi : aI) (h : iO mi = "java/lang/Exception") : ∀ x ∈ kL_17, Cond.constant (iO mi) x.1 x.2 ∈ GW := by
  rw [h]
  exact fun _ h => absurd h List.not_mem_nil
def kL_18 : List (Nat × Int32) := []
theorem kL_18_ok (mi : aI) (h : iO mi = "java/lang/String") : ∀ x ∈ kL_18, Cond.constant (iO mi) x.1 x.2 ∈ GW := by
  rw [h]
  exact fun _ h => absurd h List.not_mem_nil
def kL_19 : List (Nat × Int32) := []
theorem kL_19_ok (mi : aI) (h : iO mi = "java/lang/StringLatin1") : ∀ x ∈ kL_19, Cond.constant (iO mi) x.1 x.2 ∈ GW := by
  rw [h]
  exact fun _ h => absurd h List.not_mem_nil
def kL_20 : List (Nat × Int32) := []
theorem kL_20_ok (mi : aI) (h : iO mi = "jdk/internal/util/Preconditions") : ∀ x ∈ kL_20, Cond.constant (iO mi) x.1 x.2 ∈ GW := by
  rw [h]
  exact fun _ h => absurd h List.not_mem_nil
def kL_21 : List (Nat × Int32) := []
theorem kL_21_ok (mi : aI) (h : iO mi = "java/lang/StringUTF16") : ∀ x ∈ kL_21, Cond.constant (iO mi) x.1 x.2 ∈ GW := by
  rw [h]
  exact fun _ h => absurd h List.not_mem_nil
def kL_22 : List (Nat × Int32) := []
theorem kL_22_ok (mi : aI) (h : iO mi = "java/lang/Math") : ∀ x ∈ kL_22, Cond.constant (iO mi) x.1 x.2 ∈ GW := by
  rw [h]
  exact fun _ h => absurd h List.not_mem_nil
def kL_23 : List (Nat × Int32) := []
theorem kL_23_ok (mi : aI) (h : iO mi = "java/util/NoSuchElementException") : ∀ x ∈ kL_23, Cond.constant (iO mi) x.1 x.2 ∈ GW := by
  rw [h]
  exact fun _ h => absurd h List.not_mem_nil
def kL_24 : List (Nat × Int32) := [(351, (1103515245 : Int32))]
theorem kL_24_ok (mi : aI) (h : iO mi = "FullHouseModel") : ∀ x ∈ kL_24, Cond.constant (iO mi) x.1 x.2 ∈ GW := by
  rw [h]
  exact List.forall_mem_cons.mpr ⟨gw_1561, fun _ h => absurd h List.not_mem_nil⟩
def jL_0 : List (Nat × Int64) := [(186, (-1 : Int64)), (289, (1000000000 : Int64)), (291, (1000 : Int64))]
theorem jL_0_ok (mi : aI) (h : iO mi = "FullHouse") : ∀ x ∈ jL_0, Cond.constantLong (iO mi) x.1 x.2 ∈ GW := by
  rw [h]
  exact List.forall_mem_cons.mpr ⟨gw_809, List.forall_mem_cons.mpr ⟨gw_1011, List.forall_mem_cons.mpr ⟨gw_1012, fun _ h => absurd h List.not_mem_nil⟩⟩⟩
def jL_1 : List (Nat × Int64) := []
theorem jL_1_ok (mi : aI) (h : iO mi = "java/lang/Object") : ∀ x ∈ jL_1, Cond.constantLong (iO mi) x.1 x.2 ∈ GW := by
  rw [h]
  exact fun _ h => absurd h List.not_mem_nil
def jL_2 : List (Nat × Int64) := []
theorem jL_2_ok (mi : aI) (h : iO mi = "FullHouse$Reader") : ∀ x ∈ jL_2, Cond.constantLong (iO mi) x.1 x.2 ∈ GW := by
  rw [h]
  exact fun _ h => absurd h List.not_mem_nil
def jL_3 : List (Nat × Int64) := []
theorem jL_3_ok (mi : aI) (h : iO mi = "FullHouse$Tokens") : ∀ x ∈ jL_3, Cond.constantLong (iO mi) x.1 x.2 ∈ GW := by
  rw [h]
  exact fun _ h => absurd h List.not_mem_nil
def jL_4 : List (Nat × Int64) := []
theorem jL_4_ok (mi : aI) (h : iO mi = "FullHouse$House") : ∀ x ∈ jL_4, Cond.constantLong (iO mi) x.1 x.2 ∈ GW := by
  rw [h]
  exact fun _ h => absurd h List.not_mem_nil
def jL_5 : List (Nat × Int64) := []
theorem jL_5_ok (mi : aI) (h : iO mi = "FullHouse$Spans") : ∀ x ∈ jL_5, Cond.constantLong (iO mi) x.1 x.2 ∈ GW := by
  rw [h]
  exact fun _ h => absurd h List.not_mem_nil
def jL_6 : List (Nat × Int64) := []
theorem jL_6_ok (mi : aI) (h : iO mi = "FullHouse$Lefts") : ∀ x ∈ jL_6, Cond.constantLong (iO mi) x.1 x.2 ∈ GW := by
  rw [h]
  exact fun _ h => absurd h List.not_mem_nil
def jL_7 : List (Nat × Int64) := [(87, (-1 : Int64)), (21, (16777215 : Int64)), (69, (4096 : Int64))]
theorem jL_7_ok (mi : aI) (h : iO mi = "FullHouse$Rows") : ∀ x ∈ jL_7, Cond.constantLong (iO mi) x.1 x.2 ∈ GW := by
  rw [h]
  exact List.forall_mem_cons.mpr ⟨gw_788, List.forall_mem_cons.mpr ⟨gw_813, List.forall_mem_cons.mpr ⟨gw_1039, fun _ h => absurd h List.not_mem_nil⟩⟩⟩
def jL_8 : List (Nat × Int64) := []
theorem jL_8_ok (mi : aI) (h : iO mi = "FullHouse$Learning") : ∀ x ∈ jL_8, Cond.constantLong (iO mi) x.1 x.2 ∈ GW := by
  rw [h]
  exact fun _ h => absurd h List.not_mem_nil
def jL_9 : List (Nat × Int64) := [(57, (-1 : Int64))]
theorem jL_9_ok (mi : aI) (h : iO mi = "FullHouse$Guest") : ∀ x ∈ jL_9, Cond.constantLong (iO mi) x.1 x.2 ∈ GW := by
  rw [h]
  exact List.forall_mem_cons.mpr ⟨gw_979, fun _ h => absurd h List.not_mem_nil⟩
def jL_10 : List (Nat × Int64) := []
theorem jL_10_ok (mi : aI) (h : iO mi = "FullHouse$Weeks") : ∀ x ∈ jL_10, Cond.constantLong (iO mi) x.1 x.2 ∈ GW := by
  rw [h]
  exact fun _ h => absurd h List.not_mem_nil
def jL_11 : List (Nat × Int64) := []
theorem jL_11_ok (mi : aI) (h : iO mi = "java/util/Arrays") : ∀ x ∈ jL_11, Cond.constantLong (iO mi) x.1 x.2 ∈ GW := by
  rw [h]
  exact fun _ h => absurd h List.not_mem_nil
def jL_12 : List (Nat × Int64) := []
theorem jL_12_ok (mi : aI) (h : iO mi = "java/lang/Integer") : ∀ x ∈ jL_12, Cond.constantLong (iO mi) x.1 x.2 ∈ GW := by
  rw [h]
  exact fun _ h => absurd h List.not_mem_nil
def jL_13 : List (Nat × Int64) := []
theorem jL_13_ok (mi : aI) (h : iO mi = "FullHouseLaw") : ∀ x ∈ jL_13, Cond.constantLong (iO mi) x.1 x.2 ∈ GW := by
  rw [h]
  exact fun _ h => absurd h List.not_mem_nil
def jL_14 : List (Nat × Int64) := []
theorem jL_14_ok (mi : aI) (h : iO mi = "java/lang/Throwable") : ∀ x ∈ jL_14, Cond.constantLong (iO mi) x.1 x.2 ∈ GW := by
  rw [h]
  exact fun _ h => absurd h List.not_mem_nil
def jL_15 : List (Nat × Int64) := []
theorem jL_15_ok (mi : aI) (h : iO mi = "java/lang/IllegalArgumentException") : ∀ x ∈ jL_15, Cond.constantLong (iO mi) x.1 x.2 ∈ GW := by
  rw [h]
  exact fun _ h => absurd h List.not_mem_nil
def jL_16 : List (Nat × Int64) := []
theorem jL_16_ok (mi : aI) (h : iO mi = "java/lang/RuntimeException") : ∀ x ∈ jL_16, Cond.constantLong (iO mi) x.1 x.2 ∈ GW := by
  rw [h]
  exact fun _ h => absurd h List.not_mem_nil
def jL_17 : List (Nat × Int64) := []
theorem jL_17_ok (mi : aI) (h : iO mi = "java/lang/Exception") : ∀ x ∈ jL_17, Cond.constantLong (iO mi) x.1 x.2 ∈ GW := by
  rw [h]
  exact fun _ h => absurd h List.not_mem_nil
def jL_18 : List (Nat × Int64) := []
theorem jL_18_ok (mi : aI) (h : iO mi = "java/lang/String") : ∀ x ∈ jL_18, Cond.constantLong (iO mi) x.1 x.2 ∈ GW := by
  rw [h]
  exact fun _ h => absurd h List.not_mem_nil
def jL_19 : List (Nat × Int64) := []
theorem jL_19_ok (mi : aI) (h : iO mi = "java/lang/StringLatin1") : ∀ x ∈ jL_19, Cond.constantLong (iO mi) x.1 x.2 ∈ GW := by
  rw [h]
  exact fun _ h => absurd h List.not_mem_nil
def jL_20 : List (Nat × Int64) := []
theorem jL_20_ok (mi : aI) (h : iO mi = "jdk/internal/util/Preconditions") : ∀ x ∈ jL_20, Cond.constantLong (iO mi) x.1 x.2 ∈ GW := by
  rw [h]
  exact fun _ h => absurd h List.not_mem_nil
def jL_21 : List (Nat × Int64) := []
theorem jL_21_ok (mi : aI) (h : iO mi = "java/lang/StringUTF16") : ∀ x ∈ jL_21, Cond.constantLong (iO mi) x.1 x.2 ∈ GW := by
  rw [h]
  exact fun _ h => absurd h List.not_mem_nil
def jL_22 : List (Nat × Int64) := []
theorem jL_22_ok (mi : aI) (h : iO mi = "java/lang/Math") : ∀ x ∈ jL_22, Cond.constantLong (iO mi) x.1 x.2 ∈ GW := by
  rw [h]
  exact fun _ h => absurd h List.not_mem_nil
def jL_23 : List (Nat × Int64) := []
theorem jL_23_ok (mi : aI) (h : iO mi = "java/util/NoSuchElementException") : ∀ x ∈ jL_23, Cond.constantLong (iO mi) x.1 x.2 ∈ GW := by
  rw [h]
  exact fun _ h => absurd h List.not_mem_nil
def jL_24 : List (Nat × Int64) := [(163, (96 : Int64)), (344, (1000 : Int64)), (346, (1000000000 : Int64))]
theorem jL_24_ok (mi : aI) (h : iO mi = "FullHouseModel") : ∀ x ∈ jL_24, Cond.constantLong (iO mi) x.1 x.2 ∈ GW := by
  rw [h]
  exact List.forall_mem_cons.mpr ⟨gw_1329, List.forall_mem_cons.mpr ⟨gw_1539, List.forall_mem_cons.mpr ⟨gw_1544, fun _ h => absurd h List.not_mem_nil⟩⟩⟩
def cL_0_ : List (Nat × Nat) := [(7, 4), (16, 1), (26, 6), (33, 3), (40, 5), (47, 2), (54, 0), (65, 8)]
theorem cL_0_ok (mi : aI) (h : iO mi = "FullHouse") : ∀ x ∈ cL_0_, okC mi x.1 x.2 := by
  unfold okC
  rw [h]
  exact List.forall_mem_cons.mpr ⟨⟨_, rfl, cl_4, gw_33, gw_34, gw_2⟩, List.forall_mem_cons.mpr ⟨⟨_, rfl, cl_1, gw_80, gw_81, gw_4⟩, List.forall_mem_cons.mpr ⟨⟨_, rfl, cl_6, gw_182, gw_183, gw_5⟩, List.forall_mem_cons.mpr ⟨⟨_, rfl, cl_3, gw_197, gw_198, gw_6⟩, List.forall_mem_cons.mpr ⟨⟨_, rfl, cl_5, gw_211, gw_212, gw_7⟩, List.forall_mem_cons.mpr ⟨⟨_, rfl, cl_2, gw_230, gw_231, gw_8⟩, List.forall_mem_cons.mpr ⟨⟨_, rfl, cl_0, gw_251, gw_252, gw_9⟩, List.forall_mem_cons.mpr ⟨⟨_, rfl, cl_8, gw_267, gw_268, gw_10⟩, fun _ h => absurd h List.not_mem_nil⟩⟩⟩⟩⟩⟩⟩⟩
def cL_1_ : List (Nat × Nat) := []
theorem cL_1_ok (mi : aI) (h : iO mi = "java/lang/Object") : ∀ x ∈ cL_1_, okC mi x.1 x.2 := by
  unfold okC
  rw [h]
  exact fun _ h => absurd h List.not_mem_nil
def cL_2_ : List (Nat × Nat) := [(9, 7)]
theorem cL_2_ok (mi : aI) (h : iO mi = "FullHouse$Reader") : ∀ x ∈ cL_2_, okC mi x.1 x.2 := by
  unfold okC
  rw [h]
  exact List.forall_mem_cons.mpr ⟨⟨_, rfl, cl_7, gw_39, gw_40, gw_3⟩, fun _ h => absurd h List.not_mem_nil⟩
def cL_3_ : List (Nat × Nat) := []
theorem cL_3_ok (mi : aI) (h : iO mi = "FullHouse$Tokens") : ∀ x ∈ cL_3_, okC mi x.1 x.2 := by
  unfold okC
  rw [h]
  exact fun _ h => absurd h List.not_mem_nil
def cL_4_ : List (Nat × Nat) := []
theorem cL_4_ok (mi : aI) (h : iO mi = "FullHouse$House") : ∀ x ∈ cL_4_, okC mi x.1 x.2 := by
  unfold okC
  rw [h]
  exact fun _ h => absurd h List.not_mem_nil
def cL_5_ : List (Nat × Nat) := []
theorem cL_5_ok (mi : aI) (h : iO mi = "FullHouse$Spans") : ∀ x ∈ cL_5_, okC mi x.1 x.2 := by
  unfold okC
  rw [h]
  exact fun _ h => absurd h List.not_mem_nil
def cL_6_ : List (Nat × Nat) := []
theorem cL_6_ok (mi : aI) (h : iO mi = "FullHouse$Lefts") : ∀ x ∈ cL_6_, okC mi x.1 x.2 := by
  unfold okC
  rw [h]
  exact fun _ h => absurd h List.not_mem_nil
def cL_7_ : List (Nat × Nat) := []
theorem cL_7_ok (mi : aI) (h : iO mi = "FullHouse$Rows") : ∀ x ∈ cL_7_, okC mi x.1 x.2 := by
  unfold okC
  rw [h]
  exact fun _ h => absurd h List.not_mem_nil
def cL_8_ : List (Nat × Nat) := [(9, 3)]
theorem cL_8_ok (mi : aI) (h : iO mi = "FullHouse$Learning") : ∀ x ∈ cL_8_, okC mi x.1 x.2 := by
  unfold okC
  rw [h]
  exact List.forall_mem_cons.mpr ⟨⟨_, rfl, cl_3, gw_236, gw_198, gw_6⟩, fun _ h => absurd h List.not_mem_nil⟩
def cL_9_ : List (Nat × Nat) := []
theorem cL_9_ok (mi : aI) (h : iO mi = "FullHouse$Guest") : ∀ x ∈ cL_9_, okC mi x.1 x.2 := by
  unfold okC
  rw [h]
  exact fun _ h => absurd h List.not_mem_nil
def cL_10_ : List (Nat × Nat) := []
theorem cL_10_ok (mi : aI) (h : iO mi = "FullHouse$Weeks") : ∀ x ∈ cL_10_, okC mi x.1 x.2 := by
  unfold okC
  rw [h]
  exact fun _ h => absurd h List.not_mem_nil
def cL_11_ : List (Nat × Nat) := []
theorem cL_11_ok (mi : aI) (h : iO mi = "java/util/Arrays") : ∀ x ∈ cL_11_, okC mi x.1 x.2 := by
  unfold okC
  rw [h]
  exact fun _ h => absurd h List.not_mem_nil
def cL_12_ : List (Nat × Nat) := []
theorem cL_12_ok (mi : aI) (h : iO mi = "java/lang/Integer") : ∀ x ∈ cL_12_, okC mi x.1 x.2 := by
  unfold okC
  rw [h]
  exact fun _ h => absurd h List.not_mem_nil
def cL_13_ : List (Nat × Nat) := [(8, 9), (80, 10)]
theorem cL_13_ok (mi : aI) (h : iO mi = "FullHouseLaw") : ∀ x ∈ cL_13_, okC mi x.1 x.2 := by
  unfold okC
  rw [h]
  exact List.forall_mem_cons.mpr ⟨⟨_, rfl, cl_9, gw_25, gw_26, gw_1⟩, List.forall_mem_cons.mpr ⟨⟨_, rfl, cl_10, gw_1080, gw_1081, gw_13⟩, fun _ h => absurd h List.not_mem_nil⟩⟩
def cL_14_ : List (Nat × Nat) := []
theorem cL_14_ok (mi : aI) (h : iO mi = "java/lang/Throwable") : ∀ x ∈ cL_14_, okC mi x.1 x.2 := by
  unfold okC
  rw [h]
  exact fun _ h => absurd h List.not_mem_nil
def cL_15_ : List (Nat × Nat) := []
theorem cL_15_ok (mi : aI) (h : iO mi = "java/lang/IllegalArgumentException") : ∀ x ∈ cL_15_, okC mi x.1 x.2 := by
  unfold okC
  rw [h]
  exact fun _ h => absurd h List.not_mem_nil
def cL_16_ : List (Nat × Nat) := []
theorem cL_16_ok (mi : aI) (h : iO mi = "java/lang/RuntimeException") : ∀ x ∈ cL_16_, okC mi x.1 x.2 := by
  unfold okC
  rw [h]
  exact fun _ h => absurd h List.not_mem_nil
def cL_17_ : List (Nat × Nat) := []
theorem cL_17_ok (mi : aI) (h : iO mi = "java/lang/Exception") : ∀ x ∈ cL_17_, okC mi x.1 x.2 := by
  unfold okC
  rw [h]
  exact fun _ h => absurd h List.not_mem_nil
def cL_18_ : List (Nat × Nat) := []
theorem cL_18_ok (mi : aI) (h : iO mi = "java/lang/String") : ∀ x ∈ cL_18_, okC mi x.1 x.2 := by
  unfold okC
  rw [h]
  exact fun _ h => absurd h List.not_mem_nil
def cL_19_ : List (Nat × Nat) := []
theorem cL_19_ok (mi : aI) (h : iO mi = "java/lang/StringLatin1") : ∀ x ∈ cL_19_, okC mi x.1 x.2 := by
  unfold okC
  rw [h]
  exact fun _ h => absurd h List.not_mem_nil
def cL_20_ : List (Nat × Nat) := []
theorem cL_20_ok (mi : aI) (h : iO mi = "jdk/internal/util/Preconditions") : ∀ x ∈ cL_20_, okC mi x.1 x.2 := by
  unfold okC
  rw [h]
  exact fun _ h => absurd h List.not_mem_nil
def cL_21_ : List (Nat × Nat) := []
theorem cL_21_ok (mi : aI) (h : iO mi = "java/lang/StringUTF16") : ∀ x ∈ cL_21_, okC mi x.1 x.2 := by
  unfold okC
  rw [h]
  exact fun _ h => absurd h List.not_mem_nil
def cL_22_ : List (Nat × Nat) := []
theorem cL_22_ok (mi : aI) (h : iO mi = "java/lang/Math") : ∀ x ∈ cL_22_, okC mi x.1 x.2 := by
  unfold okC
  rw [h]
  exact fun _ h => absurd h List.not_mem_nil
def cL_23_ : List (Nat × Nat) := []
theorem cL_23_ok (mi : aI) (h : iO mi = "java/util/NoSuchElementException") : ∀ x ∈ cL_23_, okC mi x.1 x.2 := by
  unfold okC
  rw [h]
  exact fun _ h => absurd h List.not_mem_nil
def cL_24_ : List (Nat × Nat) := []
theorem cL_24_ok (mi : aI) (h : iO mi = "FullHouseModel") : ∀ x ∈ cL_24_, okC mi x.1 x.2 := by
  unfold okC
  rw [h]
  exact fun _ h => absurd h List.not_mem_nil
