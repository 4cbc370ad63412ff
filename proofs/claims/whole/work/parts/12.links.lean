/-! Words of the tables by their places; class facts, field links, methods, method links: printed by wip/whole/gen_links.py. -/
theorem g_in1 {w : Cond} (h : w ∈ tables_1_1) (hg : goodWord w = true) : w ∈ gtbl := List.mem_filter.mpr ⟨List.mem_append_right _ (List.mem_append_left _ h), hg⟩
theorem g_in2 {w : Cond} (h : w ∈ tables_1_2) (hg : goodWord w = true) : w ∈ gtbl := List.mem_filter.mpr ⟨List.mem_append_right _ (List.mem_append_right _ (List.mem_append_left _ h)), hg⟩
theorem g_in3 {w : Cond} (h : w ∈ tables_1_3) (hg : goodWord w = true) : w ∈ gtbl := List.mem_filter.mpr ⟨List.mem_append_right _ (List.mem_append_right _ (List.mem_append_right _ (List.mem_append_left _ h))), hg⟩
theorem g_in4 {w : Cond} (h : w ∈ tables_1_4) (hg : goodWord w = true) : w ∈ gtbl := List.mem_filter.mpr ⟨List.mem_append_right _ (List.mem_append_right _ (List.mem_append_right _ (List.mem_append_right _ (List.mem_append_left _ h)))), hg⟩
theorem g_in5 {w : Cond} (h : w ∈ tables_1_5) (hg : goodWord w = true) : w ∈ gtbl := List.mem_filter.mpr ⟨List.mem_append_right _ (List.mem_append_right _ (List.mem_append_right _ (List.mem_append_right _ (List.mem_append_right _ (List.mem_append_left _ h))))), hg⟩
theorem g_in6 {w : Cond} (h : w ∈ tables_1_6) (hg : goodWord w = true) : w ∈ gtbl := List.mem_filter.mpr ⟨List.mem_append_right _ (List.mem_append_right _ (List.mem_append_right _ (List.mem_append_right _ (List.mem_append_right _ (List.mem_append_right _ (List.mem_append_left _ h)))))), hg⟩
theorem g_in7 {w : Cond} (h : w ∈ tables_1_7) (hg : goodWord w = true) : w ∈ gtbl := List.mem_filter.mpr ⟨List.mem_append_right _ (List.mem_append_right _ (List.mem_append_right _ (List.mem_append_right _ (List.mem_append_right _ (List.mem_append_right _ (List.mem_append_right _ (h))))))), hg⟩
theorem g_in0 {w : Cond} (h : w ∈ k2_sels lw_privs) (hg : goodWord w = true) : w ∈ gtbl := List.mem_filter.mpr ⟨List.mem_append_left _ h, hg⟩
theorem ly0_0 : u_lay RX0 TX0 0 ∈ gtbl := g_in1 (List.mem_of_getElem? (i := 156) rfl) rfl
theorem ly0_1 : u_lay RX0 TX0 1 ∈ gtbl := g_in1 (List.mem_of_getElem? (i := 158) rfl) rfl
theorem ly0_2 : u_lay RX0 TX0 2 ∈ gtbl := g_in1 (List.mem_of_getElem? (i := 160) rfl) rfl
theorem ly0_3 : u_lay RX0 TX0 3 ∈ gtbl := g_in1 (List.mem_of_getElem? (i := 162) rfl) rfl
theorem lys0 : ∀ k, k < 4 → u_lay RX0 TX0 k ∈ gtbl := by
  intro k hk
  match k, hk with
  | 0, _ => exact ly0_0
  | 1, _ => exact ly0_1
  | 2, _ => exact ly0_2
  | 3, _ => exact ly0_3
  | n + 4, h => exact absurd h (by omega)
theorem dv0 : ∀ k, k < 4 → (g_isR 0 k = true → defaultValue (tyX0 k) = .null) ∧ (g_isR 0 k = false → defaultValue (tyX0 k) = .int 0) := by
  intro k hk
  match k, hk with
  | 0, _ => exact ⟨fun _ => rfl, fun h => absurd h (by decide)⟩
  | 1, _ => exact ⟨fun _ => rfl, fun h => absurd h (by decide)⟩
  | 2, _ => exact ⟨fun h => absurd h (by decide), fun _ => rfl⟩
  | 3, _ => exact ⟨fun h => absurd h (by decide), fun _ => rfl⟩
  | n + 4, h => exact absurd h (by omega)
theorem gcl0 : g_Cl 0 RX0 TX0 4 tyX0 := ⟨rfl, fun w hw => by
    obtain ⟨k, hk, rfl⟩ := List.mem_map.mp hw
    exact lys0 k (List.mem_range.mp hk), tyX0_ok, nmX0, dv0⟩
theorem ly1_0 : u_lay RX1 TX1 0 ∈ gtbl := g_in1 (List.mem_of_getElem? (i := 203) rfl) rfl
theorem ly1_1 : u_lay RX1 TX1 1 ∈ gtbl := g_in1 (List.mem_of_getElem? (i := 205) rfl) rfl
theorem ly1_2 : u_lay RX1 TX1 2 ∈ gtbl := g_in1 (List.mem_of_getElem? (i := 207) rfl) rfl
theorem ly1_3 : u_lay RX1 TX1 3 ∈ gtbl := g_in1 (List.mem_of_getElem? (i := 209) rfl) rfl
theorem ly1_4 : u_lay RX1 TX1 4 ∈ gtbl := g_in1 (List.mem_of_getElem? (i := 211) rfl) rfl
theorem ly1_5 : u_lay RX1 TX1 5 ∈ gtbl := g_in1 (List.mem_of_getElem? (i := 213) rfl) rfl
theorem ly1_6 : u_lay RX1 TX1 6 ∈ gtbl := g_in1 (List.mem_of_getElem? (i := 215) rfl) rfl
theorem ly1_7 : u_lay RX1 TX1 7 ∈ gtbl := g_in1 (List.mem_of_getElem? (i := 217) rfl) rfl
theorem ly1_8 : u_lay RX1 TX1 8 ∈ gtbl := g_in1 (List.mem_of_getElem? (i := 219) rfl) rfl
theorem lys1 : ∀ k, k < 9 → u_lay RX1 TX1 k ∈ gtbl := by
  intro k hk
  match k, hk with
  | 0, _ => exact ly1_0
  | 1, _ => exact ly1_1
  | 2, _ => exact ly1_2
  | 3, _ => exact ly1_3
  | 4, _ => exact ly1_4
  | 5, _ => exact ly1_5
  | 6, _ => exact ly1_6
  | 7, _ => exact ly1_7
  | 8, _ => exact ly1_8
  | n + 9, h => exact absurd h (by omega)
theorem dv1 : ∀ k, k < 9 → (g_isR 1 k = true → defaultValue (tyX1 k) = .null) ∧ (g_isR 1 k = false → defaultValue (tyX1 k) = .int 0) := by
  intro k hk
  match k, hk with
  | 0, _ => exact ⟨fun _ => rfl, fun h => absurd h (by decide)⟩
  | 1, _ => exact ⟨fun _ => rfl, fun h => absurd h (by decide)⟩
  | 2, _ => exact ⟨fun _ => rfl, fun h => absurd h (by decide)⟩
  | 3, _ => exact ⟨fun _ => rfl, fun h => absurd h (by decide)⟩
  | 4, _ => exact ⟨fun _ => rfl, fun h => absurd h (by decide)⟩
  | 5, _ => exact ⟨fun _ => rfl, fun h => absurd h (by decide)⟩
  | 6, _ => exact ⟨fun _ => rfl, fun h => absurd h (by decide)⟩
  | 7, _ => exact ⟨fun _ => rfl, fun h => absurd h (by decide)⟩
  | 8, _ => exact ⟨fun h => absurd h (by decide), fun _ => rfl⟩
  | n + 9, h => exact absurd h (by omega)
theorem gcl1 : g_Cl 1 RX1 TX1 9 tyX1 := ⟨rfl, fun w hw => by
    obtain ⟨k, hk, rfl⟩ := List.mem_map.mp hw
    exact lys1 k (List.mem_range.mp hk), tyX1_ok, nmX1, dv1⟩
theorem ly2_0 : u_lay RX2 TX2 0 ∈ gtbl := g_in2 (List.mem_of_getElem? (i := 60) rfl) rfl
theorem ly2_1 : u_lay RX2 TX2 1 ∈ gtbl := g_in2 (List.mem_of_getElem? (i := 62) rfl) rfl
theorem ly2_2 : u_lay RX2 TX2 2 ∈ gtbl := g_in2 (List.mem_of_getElem? (i := 64) rfl) rfl
theorem ly2_3 : u_lay RX2 TX2 3 ∈ gtbl := g_in2 (List.mem_of_getElem? (i := 66) rfl) rfl
theorem ly2_4 : u_lay RX2 TX2 4 ∈ gtbl := g_in2 (List.mem_of_getElem? (i := 68) rfl) rfl
theorem ly2_5 : u_lay RX2 TX2 5 ∈ gtbl := g_in2 (List.mem_of_getElem? (i := 70) rfl) rfl
theorem ly2_6 : u_lay RX2 TX2 6 ∈ gtbl := g_in2 (List.mem_of_getElem? (i := 72) rfl) rfl
theorem ly2_7 : u_lay RX2 TX2 7 ∈ gtbl := g_in2 (List.mem_of_getElem? (i := 74) rfl) rfl
theorem ly2_8 : u_lay RX2 TX2 8 ∈ gtbl := g_in2 (List.mem_of_getElem? (i := 76) rfl) rfl
theorem ly2_9 : u_lay RX2 TX2 9 ∈ gtbl := g_in2 (List.mem_of_getElem? (i := 78) rfl) rfl
theorem ly2_10 : u_lay RX2 TX2 10 ∈ gtbl := g_in2 (List.mem_of_getElem? (i := 80) rfl) rfl
theorem ly2_11 : u_lay RX2 TX2 11 ∈ gtbl := g_in2 (List.mem_of_getElem? (i := 82) rfl) rfl
theorem ly2_12 : u_lay RX2 TX2 12 ∈ gtbl := g_in2 (List.mem_of_getElem? (i := 84) rfl) rfl
theorem lys2 : ∀ k, k < 13 → u_lay RX2 TX2 k ∈ gtbl := by
  intro k hk
  match k, hk with
  | 0, _ => exact ly2_0
  | 1, _ => exact ly2_1
  | 2, _ => exact ly2_2
  | 3, _ => exact ly2_3
  | 4, _ => exact ly2_4
  | 5, _ => exact ly2_5
  | 6, _ => exact ly2_6
  | 7, _ => exact ly2_7
  | 8, _ => exact ly2_8
  | 9, _ => exact ly2_9
  | 10, _ => exact ly2_10
  | 11, _ => exact ly2_11
  | 12, _ => exact ly2_12
  | n + 13, h => exact absurd h (by omega)
theorem dv2 : ∀ k, k < 13 → (g_isR 2 k = true → defaultValue (tyX2 k) = .null) ∧ (g_isR 2 k = false → defaultValue (tyX2 k) = .int 0) := by
  intro k hk
  match k, hk with
  | 0, _ => exact ⟨fun _ => rfl, fun h => absurd h (by decide)⟩
  | 1, _ => exact ⟨fun _ => rfl, fun h => absurd h (by decide)⟩
  | 2, _ => exact ⟨fun _ => rfl, fun h => absurd h (by decide)⟩
  | 3, _ => exact ⟨fun _ => rfl, fun h => absurd h (by decide)⟩
  | 4, _ => exact ⟨fun h => absurd h (by decide), fun _ => rfl⟩
  | 5, _ => exact ⟨fun h => absurd h (by decide), fun _ => rfl⟩
  | 6, _ => exact ⟨fun h => absurd h (by decide), fun _ => rfl⟩
  | 7, _ => exact ⟨fun _ => rfl, fun h => absurd h (by decide)⟩
  | 8, _ => exact ⟨fun _ => rfl, fun h => absurd h (by decide)⟩
  | 9, _ => exact ⟨fun _ => rfl, fun h => absurd h (by decide)⟩
  | 10, _ => exact ⟨fun h => absurd h (by decide), fun _ => rfl⟩
  | 11, _ => exact ⟨fun h => absurd h (by decide), fun _ => rfl⟩
  | 12, _ => exact ⟨fun h => absurd h (by decide), fun _ => rfl⟩
  | n + 13, h => exact absurd h (by omega)
theorem gcl2 : g_Cl 2 RX2 TX2 13 tyX2 := ⟨rfl, fun w hw => by
    obtain ⟨k, hk, rfl⟩ := List.mem_map.mp hw
    exact lys2 k (List.mem_range.mp hk), tyX2_ok, nmX2, dv2⟩
theorem ly3_0 : u_lay RX3 TX3 0 ∈ gtbl := g_in1 (List.mem_of_getElem? (i := 94) rfl) rfl
theorem ly3_1 : u_lay RX3 TX3 1 ∈ gtbl := g_in1 (List.mem_of_getElem? (i := 96) rfl) rfl
theorem ly3_2 : u_lay RX3 TX3 2 ∈ gtbl := g_in1 (List.mem_of_getElem? (i := 98) rfl) rfl
theorem ly3_3 : u_lay RX3 TX3 3 ∈ gtbl := g_in1 (List.mem_of_getElem? (i := 100) rfl) rfl
theorem ly3_4 : u_lay RX3 TX3 4 ∈ gtbl := g_in1 (List.mem_of_getElem? (i := 102) rfl) rfl
theorem ly3_5 : u_lay RX3 TX3 5 ∈ gtbl := g_in1 (List.mem_of_getElem? (i := 104) rfl) rfl
theorem lys3 : ∀ k, k < 6 → u_lay RX3 TX3 k ∈ gtbl := by
  intro k hk
  match k, hk with
  | 0, _ => exact ly3_0
  | 1, _ => exact ly3_1
  | 2, _ => exact ly3_2
  | 3, _ => exact ly3_3
  | 4, _ => exact ly3_4
  | 5, _ => exact ly3_5
  | n + 6, h => exact absurd h (by omega)
theorem dv3 : ∀ k, k < 6 → (g_isR 3 k = true → defaultValue (tyX3 k) = .null) ∧ (g_isR 3 k = false → defaultValue (tyX3 k) = .int 0) := by
  intro k hk
  match k, hk with
  | 0, _ => exact ⟨fun _ => rfl, fun h => absurd h (by decide)⟩
  | 1, _ => exact ⟨fun _ => rfl, fun h => absurd h (by decide)⟩
  | 2, _ => exact ⟨fun _ => rfl, fun h => absurd h (by decide)⟩
  | 3, _ => exact ⟨fun h => absurd h (by decide), fun _ => rfl⟩
  | 4, _ => exact ⟨fun h => absurd h (by decide), fun _ => rfl⟩
  | 5, _ => exact ⟨fun h => absurd h (by decide), fun _ => rfl⟩
  | n + 6, h => exact absurd h (by omega)
theorem gcl3 : g_Cl 3 RX3 TX3 6 tyX3 := ⟨rfl, fun w hw => by
    obtain ⟨k, hk, rfl⟩ := List.mem_map.mp hw
    exact lys3 k (List.mem_range.mp hk), tyX3_ok, nmX3, dv3⟩
theorem ly4_0 : u_lay RX4 TX4 0 ∈ gtbl := g_in1 (List.mem_of_getElem? (i := 176) rfl) rfl
theorem ly4_1 : u_lay RX4 TX4 1 ∈ gtbl := g_in1 (List.mem_of_getElem? (i := 178) rfl) rfl
theorem lys4 : ∀ k, k < 2 → u_lay RX4 TX4 k ∈ gtbl := by
  intro k hk
  match k, hk with
  | 0, _ => exact ly4_0
  | 1, _ => exact ly4_1
  | n + 2, h => exact absurd h (by omega)
theorem dv4 : ∀ k, k < 2 → (g_isR 4 k = true → defaultValue (tyX4 k) = .null) ∧ (g_isR 4 k = false → defaultValue (tyX4 k) = .int 0) := by
  intro k hk
  match k, hk with
  | 0, _ => exact ⟨fun _ => rfl, fun h => absurd h (by decide)⟩
  | 1, _ => exact ⟨fun _ => rfl, fun h => absurd h (by decide)⟩
  | n + 2, h => exact absurd h (by omega)
theorem gcl4 : g_Cl 4 RX4 TX4 2 tyX4 := ⟨rfl, fun w hw => by
    obtain ⟨k, hk, rfl⟩ := List.mem_map.mp hw
    exact lys4 k (List.mem_range.mp hk), tyX4_ok, nmX4, dv4⟩
theorem ly5_0 : u_lay RX5 TX5 0 ∈ gtbl := g_in1 (List.mem_of_getElem? (i := 56) rfl) rfl
theorem ly5_1 : u_lay RX5 TX5 1 ∈ gtbl := g_in1 (List.mem_of_getElem? (i := 58) rfl) rfl
theorem ly5_2 : u_lay RX5 TX5 2 ∈ gtbl := g_in1 (List.mem_of_getElem? (i := 60) rfl) rfl
theorem ly5_3 : u_lay RX5 TX5 3 ∈ gtbl := g_in1 (List.mem_of_getElem? (i := 62) rfl) rfl
theorem ly5_4 : u_lay RX5 TX5 4 ∈ gtbl := g_in1 (List.mem_of_getElem? (i := 64) rfl) rfl
theorem ly5_5 : u_lay RX5 TX5 5 ∈ gtbl := g_in1 (List.mem_of_getElem? (i := 66) rfl) rfl
theorem ly5_6 : u_lay RX5 TX5 6 ∈ gtbl := g_in1 (List.mem_of_getElem? (i := 68) rfl) rfl
theorem lys5 : ∀ k, k < 7 → u_lay RX5 TX5 k ∈ gtbl := by
  intro k hk
  match k, hk with
  | 0, _ => exact ly5_0
  | 1, _ => exact ly5_1
  | 2, _ => exact ly5_2
  | 3, _ => exact ly5_3
  | 4, _ => exact ly5_4
  | 5, _ => exact ly5_5
  | 6, _ => exact ly5_6
  | n + 7, h => exact absurd h (by omega)
theorem dv5 : ∀ k, k < 7 → (g_isR 5 k = true → defaultValue (tyX5 k) = .null) ∧ (g_isR 5 k = false → defaultValue (tyX5 k) = .int 0) := by
  intro k hk
  match k, hk with
  | 0, _ => exact ⟨fun _ => rfl, fun h => absurd h (by decide)⟩
  | 1, _ => exact ⟨fun _ => rfl, fun h => absurd h (by decide)⟩
  | 2, _ => exact ⟨fun _ => rfl, fun h => absurd h (by decide)⟩
  | 3, _ => exact ⟨fun h => absurd h (by decide), fun _ => rfl⟩
  | 4, _ => exact ⟨fun h => absurd h (by decide), fun _ => rfl⟩
  | 5, _ => exact ⟨fun h => absurd h (by decide), fun _ => rfl⟩
  | 6, _ => exact ⟨fun h => absurd h (by decide), fun _ => rfl⟩
  | n + 7, h => exact absurd h (by omega)
theorem gcl5 : g_Cl 5 RX5 TX5 7 tyX5 := ⟨rfl, fun w hw => by
    obtain ⟨k, hk, rfl⟩ := List.mem_map.mp hw
    exact lys5 k (List.mem_range.mp hk), tyX5_ok, nmX5, dv5⟩
theorem ly6_0 : u_lay RX6 TX6 0 ∈ gtbl := g_in2 (List.mem_of_getElem? (i := 23) rfl) rfl
theorem ly6_1 : u_lay RX6 TX6 1 ∈ gtbl := g_in2 (List.mem_of_getElem? (i := 25) rfl) rfl
theorem ly6_2 : u_lay RX6 TX6 2 ∈ gtbl := g_in2 (List.mem_of_getElem? (i := 27) rfl) rfl
theorem ly6_3 : u_lay RX6 TX6 3 ∈ gtbl := g_in2 (List.mem_of_getElem? (i := 29) rfl) rfl
theorem ly6_4 : u_lay RX6 TX6 4 ∈ gtbl := g_in2 (List.mem_of_getElem? (i := 31) rfl) rfl
theorem ly6_5 : u_lay RX6 TX6 5 ∈ gtbl := g_in2 (List.mem_of_getElem? (i := 33) rfl) rfl
theorem ly6_6 : u_lay RX6 TX6 6 ∈ gtbl := g_in2 (List.mem_of_getElem? (i := 35) rfl) rfl
theorem ly6_7 : u_lay RX6 TX6 7 ∈ gtbl := g_in2 (List.mem_of_getElem? (i := 37) rfl) rfl
theorem lys6 : ∀ k, k < 8 → u_lay RX6 TX6 k ∈ gtbl := by
  intro k hk
  match k, hk with
  | 0, _ => exact ly6_0
  | 1, _ => exact ly6_1
  | 2, _ => exact ly6_2
  | 3, _ => exact ly6_3
  | 4, _ => exact ly6_4
  | 5, _ => exact ly6_5
  | 6, _ => exact ly6_6
  | 7, _ => exact ly6_7
  | n + 8, h => exact absurd h (by omega)
theorem dv6 : ∀ k, k < 8 → (g_isR 6 k = true → defaultValue (tyX6 k) = .null) ∧ (g_isR 6 k = false → defaultValue (tyX6 k) = .int 0) := by
  intro k hk
  match k, hk with
  | 0, _ => exact ⟨fun _ => rfl, fun h => absurd h (by decide)⟩
  | 1, _ => exact ⟨fun _ => rfl, fun h => absurd h (by decide)⟩
  | 2, _ => exact ⟨fun _ => rfl, fun h => absurd h (by decide)⟩
  | 3, _ => exact ⟨fun _ => rfl, fun h => absurd h (by decide)⟩
  | 4, _ => exact ⟨fun _ => rfl, fun h => absurd h (by decide)⟩
  | 5, _ => exact ⟨fun _ => rfl, fun h => absurd h (by decide)⟩
  | 6, _ => exact ⟨fun h => absurd h (by decide), fun _ => rfl⟩
  | 7, _ => exact ⟨fun h => absurd h (by decide), fun _ => rfl⟩
  | n + 8, h => exact absurd h (by omega)
theorem gcl6 : g_Cl 6 RX6 TX6 8 tyX6 := ⟨rfl, fun w hw => by
    obtain ⟨k, hk, rfl⟩ := List.mem_map.mp hw
    exact lys6 k (List.mem_range.mp hk), tyX6_ok, nmX6, dv6⟩
theorem ly7_0 : u_lay RX7 TX7 0 ∈ gtbl := g_in1 (List.mem_of_getElem? (i := 124) rfl) rfl
theorem ly7_1 : u_lay RX7 TX7 1 ∈ gtbl := g_in1 (List.mem_of_getElem? (i := 126) rfl) rfl
theorem ly7_2 : u_lay RX7 TX7 2 ∈ gtbl := g_in1 (List.mem_of_getElem? (i := 128) rfl) rfl
theorem ly7_3 : u_lay RX7 TX7 3 ∈ gtbl := g_in1 (List.mem_of_getElem? (i := 130) rfl) rfl
theorem ly7_4 : u_lay RX7 TX7 4 ∈ gtbl := g_in1 (List.mem_of_getElem? (i := 132) rfl) rfl
theorem ly7_5 : u_lay RX7 TX7 5 ∈ gtbl := g_in1 (List.mem_of_getElem? (i := 134) rfl) rfl
theorem ly7_6 : u_lay RX7 TX7 6 ∈ gtbl := g_in1 (List.mem_of_getElem? (i := 136) rfl) rfl
theorem ly7_7 : u_lay RX7 TX7 7 ∈ gtbl := g_in1 (List.mem_of_getElem? (i := 138) rfl) rfl
theorem lys7 : ∀ k, k < 8 → u_lay RX7 TX7 k ∈ gtbl := by
  intro k hk
  match k, hk with
  | 0, _ => exact ly7_0
  | 1, _ => exact ly7_1
  | 2, _ => exact ly7_2
  | 3, _ => exact ly7_3
  | 4, _ => exact ly7_4
  | 5, _ => exact ly7_5
  | 6, _ => exact ly7_6
  | 7, _ => exact ly7_7
  | n + 8, h => exact absurd h (by omega)
theorem dv7 : ∀ k, k < 8 → (g_isR 7 k = true → defaultValue (tyX7 k) = .null) ∧ (g_isR 7 k = false → defaultValue (tyX7 k) = .int 0) := by
  intro k hk
  match k, hk with
  | 0, _ => exact ⟨fun _ => rfl, fun h => absurd h (by decide)⟩
  | 1, _ => exact ⟨fun _ => rfl, fun h => absurd h (by decide)⟩
  | 2, _ => exact ⟨fun _ => rfl, fun h => absurd h (by decide)⟩
  | 3, _ => exact ⟨fun _ => rfl, fun h => absurd h (by decide)⟩
  | 4, _ => exact ⟨fun h => absurd h (by decide), fun _ => rfl⟩
  | 5, _ => exact ⟨fun h => absurd h (by decide), fun _ => rfl⟩
  | 6, _ => exact ⟨fun h => absurd h (by decide), fun _ => rfl⟩
  | 7, _ => exact ⟨fun h => absurd h (by decide), fun _ => rfl⟩
  | n + 8, h => exact absurd h (by omega)
theorem gcl7 : g_Cl 7 RX7 TX7 8 tyX7 := ⟨rfl, fun w hw => by
    obtain ⟨k, hk, rfl⟩ := List.mem_map.mp hw
    exact lys7 k (List.mem_range.mp hk), tyX7_ok, nmX7, dv7⟩
theorem ly8_0 : u_lay RX8 TX8 0 ∈ gtbl := g_in2 (List.mem_of_getElem? (i := 110) rfl) rfl
theorem ly8_1 : u_lay RX8 TX8 1 ∈ gtbl := g_in2 (List.mem_of_getElem? (i := 112) rfl) rfl
theorem ly8_2 : u_lay RX8 TX8 2 ∈ gtbl := g_in2 (List.mem_of_getElem? (i := 114) rfl) rfl
theorem ly8_3 : u_lay RX8 TX8 3 ∈ gtbl := g_in2 (List.mem_of_getElem? (i := 116) rfl) rfl
theorem ly8_4 : u_lay RX8 TX8 4 ∈ gtbl := g_in2 (List.mem_of_getElem? (i := 118) rfl) rfl
theorem ly8_5 : u_lay RX8 TX8 5 ∈ gtbl := g_in2 (List.mem_of_getElem? (i := 120) rfl) rfl
theorem ly8_6 : u_lay RX8 TX8 6 ∈ gtbl := g_in2 (List.mem_of_getElem? (i := 122) rfl) rfl
theorem ly8_7 : u_lay RX8 TX8 7 ∈ gtbl := g_in2 (List.mem_of_getElem? (i := 124) rfl) rfl
theorem ly8_8 : u_lay RX8 TX8 8 ∈ gtbl := g_in2 (List.mem_of_getElem? (i := 126) rfl) rfl
theorem ly8_9 : u_lay RX8 TX8 9 ∈ gtbl := g_in2 (List.mem_of_getElem? (i := 128) rfl) rfl
theorem ly8_10 : u_lay RX8 TX8 10 ∈ gtbl := g_in2 (List.mem_of_getElem? (i := 130) rfl) rfl
theorem ly8_11 : u_lay RX8 TX8 11 ∈ gtbl := g_in2 (List.mem_of_getElem? (i := 132) rfl) rfl
theorem ly8_12 : u_lay RX8 TX8 12 ∈ gtbl := g_in2 (List.mem_of_getElem? (i := 134) rfl) rfl
theorem ly8_13 : u_lay RX8 TX8 13 ∈ gtbl := g_in2 (List.mem_of_getElem? (i := 136) rfl) rfl
theorem ly8_14 : u_lay RX8 TX8 14 ∈ gtbl := g_in2 (List.mem_of_getElem? (i := 138) rfl) rfl
theorem ly8_15 : u_lay RX8 TX8 15 ∈ gtbl := g_in2 (List.mem_of_getElem? (i := 140) rfl) rfl
theorem ly8_16 : u_lay RX8 TX8 16 ∈ gtbl := g_in2 (List.mem_of_getElem? (i := 142) rfl) rfl
theorem lys8 : ∀ k, k < 17 → u_lay RX8 TX8 k ∈ gtbl := by
  intro k hk
  match k, hk with
  | 0, _ => exact ly8_0
  | 1, _ => exact ly8_1
  | 2, _ => exact ly8_2
  | 3, _ => exact ly8_3
  | 4, _ => exact ly8_4
  | 5, _ => exact ly8_5
  | 6, _ => exact ly8_6
  | 7, _ => exact ly8_7
  | 8, _ => exact ly8_8
  | 9, _ => exact ly8_9
  | 10, _ => exact ly8_10
  | 11, _ => exact ly8_11
  | 12, _ => exact ly8_12
  | 13, _ => exact ly8_13
  | 14, _ => exact ly8_14
  | 15, _ => exact ly8_15
  | 16, _ => exact ly8_16
  | n + 17, h => exact absurd h (by omega)
theorem dv8 : ∀ k, k < 17 → (g_isR 8 k = true → defaultValue (tyX8 k) = .null) ∧ (g_isR 8 k = false → defaultValue (tyX8 k) = .int 0) := by
  intro k hk
  match k, hk with
  | 0, _ => exact ⟨fun _ => rfl, fun h => absurd h (by decide)⟩
  | 1, _ => exact ⟨fun _ => rfl, fun h => absurd h (by decide)⟩
  | 2, _ => exact ⟨fun _ => rfl, fun h => absurd h (by decide)⟩
  | 3, _ => exact ⟨fun _ => rfl, fun h => absurd h (by decide)⟩
  | 4, _ => exact ⟨fun _ => rfl, fun h => absurd h (by decide)⟩
  | 5, _ => exact ⟨fun _ => rfl, fun h => absurd h (by decide)⟩
  | 6, _ => exact ⟨fun _ => rfl, fun h => absurd h (by decide)⟩
  | 7, _ => exact ⟨fun _ => rfl, fun h => absurd h (by decide)⟩
  | 8, _ => exact ⟨fun _ => rfl, fun h => absurd h (by decide)⟩
  | 9, _ => exact ⟨fun _ => rfl, fun h => absurd h (by decide)⟩
  | 10, _ => exact ⟨fun _ => rfl, fun h => absurd h (by decide)⟩
  | 11, _ => exact ⟨fun _ => rfl, fun h => absurd h (by decide)⟩
  | 12, _ => exact ⟨fun _ => rfl, fun h => absurd h (by decide)⟩
  | 13, _ => exact ⟨fun _ => rfl, fun h => absurd h (by decide)⟩
  | 14, _ => exact ⟨fun h => absurd h (by decide), fun _ => rfl⟩
  | 15, _ => exact ⟨fun h => absurd h (by decide), fun _ => rfl⟩
  | 16, _ => exact ⟨fun h => absurd h (by decide), fun _ => rfl⟩
  | n + 17, h => exact absurd h (by omega)
theorem gcl8 : g_Cl 8 RX8 TX8 17 tyX8 := ⟨rfl, fun w hw => by
    obtain ⟨k, hk, rfl⟩ := List.mem_map.mp hw
    exact lys8 k (List.mem_range.mp hk), tyX8_ok, nmX8, dv8⟩
theorem ly9_0 : u_lay RX9 TX9 0 ∈ gtbl := g_in5 (List.mem_of_getElem? (i := 52) rfl) rfl
theorem ly9_1 : u_lay RX9 TX9 1 ∈ gtbl := g_in5 (List.mem_of_getElem? (i := 54) rfl) rfl
theorem ly9_2 : u_lay RX9 TX9 2 ∈ gtbl := g_in5 (List.mem_of_getElem? (i := 56) rfl) rfl
theorem ly9_3 : u_lay RX9 TX9 3 ∈ gtbl := g_in5 (List.mem_of_getElem? (i := 58) rfl) rfl
theorem ly9_4 : u_lay RX9 TX9 4 ∈ gtbl := g_in5 (List.mem_of_getElem? (i := 60) rfl) rfl
theorem ly9_5 : u_lay RX9 TX9 5 ∈ gtbl := g_in5 (List.mem_of_getElem? (i := 62) rfl) rfl
theorem ly9_6 : u_lay RX9 TX9 6 ∈ gtbl := g_in5 (List.mem_of_getElem? (i := 64) rfl) rfl
theorem ly9_7 : u_lay RX9 TX9 7 ∈ gtbl := g_in5 (List.mem_of_getElem? (i := 66) rfl) rfl
theorem ly9_8 : u_lay RX9 TX9 8 ∈ gtbl := g_in5 (List.mem_of_getElem? (i := 68) rfl) rfl
theorem ly9_9 : u_lay RX9 TX9 9 ∈ gtbl := g_in5 (List.mem_of_getElem? (i := 70) rfl) rfl
theorem ly9_10 : u_lay RX9 TX9 10 ∈ gtbl := g_in5 (List.mem_of_getElem? (i := 72) rfl) rfl
theorem ly9_11 : u_lay RX9 TX9 11 ∈ gtbl := g_in5 (List.mem_of_getElem? (i := 74) rfl) rfl
theorem ly9_12 : u_lay RX9 TX9 12 ∈ gtbl := g_in5 (List.mem_of_getElem? (i := 76) rfl) rfl
theorem ly9_13 : u_lay RX9 TX9 13 ∈ gtbl := g_in5 (List.mem_of_getElem? (i := 78) rfl) rfl
theorem ly9_14 : u_lay RX9 TX9 14 ∈ gtbl := g_in5 (List.mem_of_getElem? (i := 80) rfl) rfl
theorem ly9_15 : u_lay RX9 TX9 15 ∈ gtbl := g_in5 (List.mem_of_getElem? (i := 82) rfl) rfl
theorem ly9_16 : u_lay RX9 TX9 16 ∈ gtbl := g_in5 (List.mem_of_getElem? (i := 84) rfl) rfl
theorem ly9_17 : u_lay RX9 TX9 17 ∈ gtbl := g_in5 (List.mem_of_getElem? (i := 86) rfl) rfl
theorem ly9_18 : u_lay RX9 TX9 18 ∈ gtbl := g_in5 (List.mem_of_getElem? (i := 88) rfl) rfl
theorem ly9_19 : u_lay RX9 TX9 19 ∈ gtbl := g_in5 (List.mem_of_getElem? (i := 90) rfl) rfl
theorem ly9_20 : u_lay RX9 TX9 20 ∈ gtbl := g_in5 (List.mem_of_getElem? (i := 92) rfl) rfl
theorem ly9_21 : u_lay RX9 TX9 21 ∈ gtbl := g_in5 (List.mem_of_getElem? (i := 94) rfl) rfl
theorem ly9_22 : u_lay RX9 TX9 22 ∈ gtbl := g_in5 (List.mem_of_getElem? (i := 96) rfl) rfl
theorem ly9_23 : u_lay RX9 TX9 23 ∈ gtbl := g_in5 (List.mem_of_getElem? (i := 98) rfl) rfl
theorem ly9_24 : u_lay RX9 TX9 24 ∈ gtbl := g_in5 (List.mem_of_getElem? (i := 100) rfl) rfl
theorem ly9_25 : u_lay RX9 TX9 25 ∈ gtbl := g_in5 (List.mem_of_getElem? (i := 102) rfl) rfl
theorem ly9_26 : u_lay RX9 TX9 26 ∈ gtbl := g_in5 (List.mem_of_getElem? (i := 104) rfl) rfl
theorem ly9_27 : u_lay RX9 TX9 27 ∈ gtbl := g_in5 (List.mem_of_getElem? (i := 106) rfl) rfl
theorem ly9_28 : u_lay RX9 TX9 28 ∈ gtbl := g_in5 (List.mem_of_getElem? (i := 108) rfl) rfl
theorem ly9_29 : u_lay RX9 TX9 29 ∈ gtbl := g_in5 (List.mem_of_getElem? (i := 110) rfl) rfl
theorem ly9_30 : u_lay RX9 TX9 30 ∈ gtbl := g_in5 (List.mem_of_getElem? (i := 112) rfl) rfl
theorem ly9_31 : u_lay RX9 TX9 31 ∈ gtbl := g_in5 (List.mem_of_getElem? (i := 114) rfl) rfl
theorem ly9_32 : u_lay RX9 TX9 32 ∈ gtbl := g_in5 (List.mem_of_getElem? (i := 116) rfl) rfl
theorem ly9_33 : u_lay RX9 TX9 33 ∈ gtbl := g_in5 (List.mem_of_getElem? (i := 118) rfl) rfl
theorem ly9_34 : u_lay RX9 TX9 34 ∈ gtbl := g_in5 (List.mem_of_getElem? (i := 120) rfl) rfl
theorem ly9_35 : u_lay RX9 TX9 35 ∈ gtbl := g_in5 (List.mem_of_getElem? (i := 122) rfl) rfl
theorem ly9_36 : u_lay RX9 TX9 36 ∈ gtbl := g_in5 (List.mem_of_getElem? (i := 124) rfl) rfl
theorem ly9_37 : u_lay RX9 TX9 37 ∈ gtbl := g_in5 (List.mem_of_getElem? (i := 126) rfl) rfl
theorem ly9_38 : u_lay RX9 TX9 38 ∈ gtbl := g_in5 (List.mem_of_getElem? (i := 128) rfl) rfl
theorem ly9_39 : u_lay RX9 TX9 39 ∈ gtbl := g_in5 (List.mem_of_getElem? (i := 130) rfl) rfl
theorem ly9_40 : u_lay RX9 TX9 40 ∈ gtbl := g_in5 (List.mem_of_getElem? (i := 132) rfl) rfl
theorem ly9_41 : u_lay RX9 TX9 41 ∈ gtbl := g_in5 (List.mem_of_getElem? (i := 134) rfl) rfl
theorem ly9_42 : u_lay RX9 TX9 42 ∈ gtbl := g_in5 (List.mem_of_getElem? (i := 136) rfl) rfl
theorem ly9_43 : u_lay RX9 TX9 43 ∈ gtbl := g_in5 (List.mem_of_getElem? (i := 138) rfl) rfl
theorem ly9_44 : u_lay RX9 TX9 44 ∈ gtbl := g_in5 (List.mem_of_getElem? (i := 140) rfl) rfl
theorem ly9_45 : u_lay RX9 TX9 45 ∈ gtbl := g_in5 (List.mem_of_getElem? (i := 142) rfl) rfl
theorem ly9_46 : u_lay RX9 TX9 46 ∈ gtbl := g_in5 (List.mem_of_getElem? (i := 144) rfl) rfl
theorem ly9_47 : u_lay RX9 TX9 47 ∈ gtbl := g_in5 (List.mem_of_getElem? (i := 146) rfl) rfl
theorem ly9_48 : u_lay RX9 TX9 48 ∈ gtbl := g_in5 (List.mem_of_getElem? (i := 148) rfl) rfl
theorem ly9_49 : u_lay RX9 TX9 49 ∈ gtbl := g_in5 (List.mem_of_getElem? (i := 150) rfl) rfl
theorem lys9 : ∀ k, k < 50 → u_lay RX9 TX9 k ∈ gtbl := by
  intro k hk
  match k, hk with
  | 0, _ => exact ly9_0
  | 1, _ => exact ly9_1
  | 2, _ => exact ly9_2
  | 3, _ => exact ly9_3
  | 4, _ => exact ly9_4
  | 5, _ => exact ly9_5
  | 6, _ => exact ly9_6
  | 7, _ => exact ly9_7
  | 8, _ => exact ly9_8
  | 9, _ => exact ly9_9
  | 10, _ => exact ly9_10
  | 11, _ => exact ly9_11
  | 12, _ => exact ly9_12
  | 13, _ => exact ly9_13
  | 14, _ => exact ly9_14
  | 15, _ => exact ly9_15
  | 16, _ => exact ly9_16
  | 17, _ => exact ly9_17
  | 18, _ => exact ly9_18
  | 19, _ => exact ly9_19
  | 20, _ => exact ly9_20
  | 21, _ => exact ly9_21
  | 22, _ => exact ly9_22
  | 23, _ => exact ly9_23
  | 24, _ => exact ly9_24
  | 25, _ => exact ly9_25
  | 26, _ => exact ly9_26
  | 27, _ => exact ly9_27
  | 28, _ => exact ly9_28
  | 29, _ => exact ly9_29
  | 30, _ => exact ly9_30
  | 31, _ => exact ly9_31
  | 32, _ => exact ly9_32
  | 33, _ => exact ly9_33
  | 34, _ => exact ly9_34
  | 35, _ => exact ly9_35
  | 36, _ => exact ly9_36
  | 37, _ => exact ly9_37
  | 38, _ => exact ly9_38
  | 39, _ => exact ly9_39
  | 40, _ => exact ly9_40
  | 41, _ => exact ly9_41
  | 42, _ => exact ly9_42
  | 43, _ => exact ly9_43
  | 44, _ => exact ly9_44
  | 45, _ => exact ly9_45
  | 46, _ => exact ly9_46
  | 47, _ => exact ly9_47
  | 48, _ => exact ly9_48
  | 49, _ => exact ly9_49
  | n + 50, h => exact absurd h (by omega)
theorem dv9 : ∀ k, k < 50 → (g_isR 9 k = true → defaultValue (tyX9 k) = .null) ∧ (g_isR 9 k = false → defaultValue (tyX9 k) = .int 0) := by
  intro k hk
  match k, hk with
  | 0, _ => exact ⟨fun h => absurd h (by decide), fun _ => rfl⟩
  | 1, _ => exact ⟨fun _ => rfl, fun h => absurd h (by decide)⟩
  | 2, _ => exact ⟨fun _ => rfl, fun h => absurd h (by decide)⟩
  | 3, _ => exact ⟨fun _ => rfl, fun h => absurd h (by decide)⟩
  | 4, _ => exact ⟨fun _ => rfl, fun h => absurd h (by decide)⟩
  | 5, _ => exact ⟨fun _ => rfl, fun h => absurd h (by decide)⟩
  | 6, _ => exact ⟨fun h => absurd h (by decide), fun _ => rfl⟩
  | 7, _ => exact ⟨fun _ => rfl, fun h => absurd h (by decide)⟩
  | 8, _ => exact ⟨fun h => absurd h (by decide), fun _ => rfl⟩
  | 9, _ => exact ⟨fun h => absurd h (by decide), fun _ => rfl⟩
  | 10, _ => exact ⟨fun h => absurd h (by decide), fun _ => rfl⟩
  | 11, _ => exact ⟨fun _ => rfl, fun h => absurd h (by decide)⟩
  | 12, _ => exact ⟨fun _ => rfl, fun h => absurd h (by decide)⟩
  | 13, _ => exact ⟨fun h => absurd h (by decide), fun _ => rfl⟩
  | 14, _ => exact ⟨fun h => absurd h (by decide), fun _ => rfl⟩
  | 15, _ => exact ⟨fun _ => rfl, fun h => absurd h (by decide)⟩
  | 16, _ => exact ⟨fun _ => rfl, fun h => absurd h (by decide)⟩
  | 17, _ => exact ⟨fun _ => rfl, fun h => absurd h (by decide)⟩
  | 18, _ => exact ⟨fun h => absurd h (by decide), fun _ => rfl⟩
  | 19, _ => exact ⟨fun h => absurd h (by decide), fun _ => rfl⟩
  | 20, _ => exact ⟨fun h => absurd h (by decide), fun _ => rfl⟩
  | 21, _ => exact ⟨fun h => absurd h (by decide), fun _ => rfl⟩
  | 22, _ => exact ⟨fun h => absurd h (by decide), fun _ => rfl⟩
  | 23, _ => exact ⟨fun h => absurd h (by decide), fun _ => rfl⟩
  | 24, _ => exact ⟨fun h => absurd h (by decide), fun _ => rfl⟩
  | 25, _ => exact ⟨fun h => absurd h (by decide), fun _ => rfl⟩
  | 26, _ => exact ⟨fun _ => rfl, fun h => absurd h (by decide)⟩
  | 27, _ => exact ⟨fun h => absurd h (by decide), fun _ => rfl⟩
  | 28, _ => exact ⟨fun h => absurd h (by decide), fun _ => rfl⟩
  | 29, _ => exact ⟨fun _ => rfl, fun h => absurd h (by decide)⟩
  | 30, _ => exact ⟨fun _ => rfl, fun h => absurd h (by decide)⟩
  | 31, _ => exact ⟨fun _ => rfl, fun h => absurd h (by decide)⟩
  | 32, _ => exact ⟨fun _ => rfl, fun h => absurd h (by decide)⟩
  | 33, _ => exact ⟨fun _ => rfl, fun h => absurd h (by decide)⟩
  | 34, _ => exact ⟨fun _ => rfl, fun h => absurd h (by decide)⟩
  | 35, _ => exact ⟨fun h => absurd h (by decide), fun _ => rfl⟩
  | 36, _ => exact ⟨fun _ => rfl, fun h => absurd h (by decide)⟩
  | 37, _ => exact ⟨fun _ => rfl, fun h => absurd h (by decide)⟩
  | 38, _ => exact ⟨fun h => absurd h (by decide), fun _ => rfl⟩
  | 39, _ => exact ⟨fun _ => rfl, fun h => absurd h (by decide)⟩
  | 40, _ => exact ⟨fun h => absurd h (by decide), fun _ => rfl⟩
  | 41, _ => exact ⟨fun h => absurd h (by decide), fun _ => rfl⟩
  | 42, _ => exact ⟨fun h => absurd h (by decide), fun _ => rfl⟩
  | 43, _ => exact ⟨fun h => absurd h (by decide), fun _ => rfl⟩
  | 44, _ => exact ⟨fun h => absurd h (by decide), fun _ => rfl⟩
  | 45, _ => exact ⟨fun h => absurd h (by decide), fun _ => rfl⟩
  | 46, _ => exact ⟨fun _ => rfl, fun h => absurd h (by decide)⟩
  | 47, _ => exact ⟨fun _ => rfl, fun h => absurd h (by decide)⟩
  | 48, _ => exact ⟨fun h => absurd h (by decide), fun _ => rfl⟩
  | 49, _ => exact ⟨fun h => absurd h (by decide), fun _ => rfl⟩
  | n + 50, h => exact absurd h (by omega)
theorem gcl9 : g_Cl 9 RX9 TX9 50 tyX9 := ⟨rfl, fun w hw => by
    obtain ⟨k, hk, rfl⟩ := List.mem_map.mp hw
    exact lys9 k (List.mem_range.mp hk), tyX9_ok, nmX9, dv9⟩
theorem q1_44 : (Jvm.Cond.fieldLink "PeeledHash$Table" (9 : Nat) "PeeledHash$Table" "keys" "[I") ∈ gtbl := g_in1 (List.mem_of_getElem? (i := 44) rfl) rfl
theorem flX5_9 : g_FL RX5 9 5 0 7 true true (.array .int) true := ⟨RX5, TX5, tyX5, gcl5, q1_44, by decide, rfl, rfl, rfl, fun _ => rfl⟩
theorem q1_45 : (Jvm.Cond.fieldLink "PeeledHash" (284 : Nat) "PeeledHash$Table" "keys" "[I") ∈ gtbl := g_in1 (List.mem_of_getElem? (i := 45) rfl) rfl
theorem flX8_284 : g_FL RX8 284 5 0 7 true true (.array .int) false := ⟨RX5, TX5, tyX5, gcl5, q1_45, by decide, rfl, rfl, rfl, fun h => absurd h (by decide)⟩
theorem q1_46 : (Jvm.Cond.fieldLink "PeeledHash$Table" (15 : Nat) "PeeledHash$Table" "signs" "[I") ∈ gtbl := g_in1 (List.mem_of_getElem? (i := 46) rfl) rfl
theorem flX5_15 : g_FL RX5 15 5 1 7 true true (.array .int) true := ⟨RX5, TX5, tyX5, gcl5, q1_46, by decide, rfl, rfl, rfl, fun _ => rfl⟩
theorem q1_47 : (Jvm.Cond.fieldLink "PeeledHash$Table" (18 : Nat) "PeeledHash$Table" "steps" "[I") ∈ gtbl := g_in1 (List.mem_of_getElem? (i := 47) rfl) rfl
theorem flX5_18 : g_FL RX5 18 5 2 7 true true (.array .int) true := ⟨RX5, TX5, tyX5, gcl5, q1_47, by decide, rfl, rfl, rfl, fun _ => rfl⟩
theorem q1_48 : (Jvm.Cond.fieldLink "PeeledHash$Table" (25 : Nat) "PeeledHash$Table" "built" "Z") ∈ gtbl := g_in1 (List.mem_of_getElem? (i := 48) rfl) rfl
theorem flX5_25 : g_FL RX5 25 5 3 7 false false (.boolean) true := ⟨RX5, TX5, tyX5, gcl5, q1_48, by decide, rfl, rfl, rfl, fun _ => rfl⟩
theorem q1_49 : (Jvm.Cond.fieldLink "PeeledHash" (254 : Nat) "PeeledHash$Table" "built" "Z") ∈ gtbl := g_in1 (List.mem_of_getElem? (i := 49) rfl) rfl
theorem flX8_254 : g_FL RX8 254 5 3 7 false false (.boolean) false := ⟨RX5, TX5, tyX5, gcl5, q1_49, by decide, rfl, rfl, rfl, fun h => absurd h (by decide)⟩
theorem q1_50 : (Jvm.Cond.fieldLink "PeeledHash$Table" (35 : Nat) "PeeledHash$Table" "size" "I") ∈ gtbl := g_in1 (List.mem_of_getElem? (i := 50) rfl) rfl
theorem flX5_35 : g_FL RX5 35 5 4 7 false false (.int) true := ⟨RX5, TX5, tyX5, gcl5, q1_50, by decide, rfl, rfl, rfl, fun _ => rfl⟩
theorem q1_51 : (Jvm.Cond.fieldLink "PeeledHash" (271 : Nat) "PeeledHash$Table" "size" "I") ∈ gtbl := g_in1 (List.mem_of_getElem? (i := 51) rfl) rfl
theorem flX8_271 : g_FL RX8 271 5 4 7 false false (.int) false := ⟨RX5, TX5, tyX5, gcl5, q1_51, by decide, rfl, rfl, rfl, fun h => absurd h (by decide)⟩
theorem q1_52 : (Jvm.Cond.fieldLink "PeeledHash$Table" (21 : Nat) "PeeledHash$Table" "side" "I") ∈ gtbl := g_in1 (List.mem_of_getElem? (i := 52) rfl) rfl
theorem flX5_21 : g_FL RX5 21 5 5 7 false false (.int) true := ⟨RX5, TX5, tyX5, gcl5, q1_52, by decide, rfl, rfl, rfl, fun _ => rfl⟩
theorem q1_53 : (Jvm.Cond.fieldLink "PeeledHash" (269 : Nat) "PeeledHash$Table" "side" "I") ∈ gtbl := g_in1 (List.mem_of_getElem? (i := 53) rfl) rfl
theorem flX8_269 : g_FL RX8 269 5 5 7 false false (.int) false := ⟨RX5, TX5, tyX5, gcl5, q1_53, by decide, rfl, rfl, rfl, fun h => absurd h (by decide)⟩
theorem q1_54 : (Jvm.Cond.fieldLink "PeeledHash$Table" (38 : Nat) "PeeledHash$Table" "seed" "I") ∈ gtbl := g_in1 (List.mem_of_getElem? (i := 54) rfl) rfl
theorem flX5_38 : g_FL RX5 38 5 6 7 false false (.int) true := ⟨RX5, TX5, tyX5, gcl5, q1_54, by decide, rfl, rfl, rfl, fun _ => rfl⟩
theorem q1_55 : (Jvm.Cond.fieldLink "PeeledHash" (270 : Nat) "PeeledHash$Table" "seed" "I") ∈ gtbl := g_in1 (List.mem_of_getElem? (i := 55) rfl) rfl
theorem flX8_270 : g_FL RX8 270 5 6 7 false false (.int) false := ⟨RX5, TX5, tyX5, gcl5, q1_55, by decide, rfl, rfl, rfl, fun h => absurd h (by decide)⟩
theorem q1_72 : (Jvm.Cond.fieldLink "PeeledHash$State" (9 : Nat) "PeeledHash$State" "keys" "[I") ∈ gtbl := g_in1 (List.mem_of_getElem? (i := 72) rfl) rfl
theorem flX3_9 : g_FL RX3 9 3 0 6 true true (.array .int) true := ⟨RX3, TX3, tyX3, gcl3, q1_72, by decide, rfl, rfl, rfl, fun _ => rfl⟩
theorem q1_73 : (Jvm.Cond.fieldLink "PeeledHash$Table" (46 : Nat) "PeeledHash$State" "keys" "[I") ∈ gtbl := g_in1 (List.mem_of_getElem? (i := 73) rfl) rfl
theorem flX5_46 : g_FL RX5 46 3 0 6 true true (.array .int) false := ⟨RX3, TX3, tyX3, gcl3, q1_73, by decide, rfl, rfl, rfl, fun h => absurd h (by decide)⟩
theorem q1_74 : (Jvm.Cond.fieldLink "PeeledHash" (140 : Nat) "PeeledHash$State" "keys" "[I") ∈ gtbl := g_in1 (List.mem_of_getElem? (i := 74) rfl) rfl
theorem flX8_140 : g_FL RX8 140 3 0 6 true true (.array .int) false := ⟨RX3, TX3, tyX3, gcl3, q1_74, by decide, rfl, rfl, rfl, fun h => absurd h (by decide)⟩
theorem q1_75 : (Jvm.Cond.fieldLink "PeeledHash$Peeler" (77 : Nat) "PeeledHash$State" "keys" "[I") ∈ gtbl := g_in1 (List.mem_of_getElem? (i := 75) rfl) rfl
theorem flX1_77 : g_FL RX1 77 3 0 6 true true (.array .int) false := ⟨RX3, TX3, tyX3, gcl3, q1_75, by decide, rfl, rfl, rfl, fun h => absurd h (by decide)⟩
theorem q1_76 : (Jvm.Cond.fieldLink "PeeledHash$State" (15 : Nat) "PeeledHash$State" "terms" "[I") ∈ gtbl := g_in1 (List.mem_of_getElem? (i := 76) rfl) rfl
theorem flX3_15 : g_FL RX3 15 3 1 6 true true (.array .int) true := ⟨RX3, TX3, tyX3, gcl3, q1_76, by decide, rfl, rfl, rfl, fun _ => rfl⟩
theorem q1_77 : (Jvm.Cond.fieldLink "PeeledHash$Sums" (50 : Nat) "PeeledHash$State" "terms" "[I") ∈ gtbl := g_in1 (List.mem_of_getElem? (i := 77) rfl) rfl
theorem flX4_50 : g_FL RX4 50 3 1 6 true true (.array .int) false := ⟨RX3, TX3, tyX3, gcl3, q1_77, by decide, rfl, rfl, rfl, fun h => absurd h (by decide)⟩
theorem q1_78 : (Jvm.Cond.fieldLink "PeeledHash" (149 : Nat) "PeeledHash$State" "terms" "[I") ∈ gtbl := g_in1 (List.mem_of_getElem? (i := 78) rfl) rfl
theorem flX8_149 : g_FL RX8 149 3 1 6 true true (.array .int) false := ⟨RX3, TX3, tyX3, gcl3, q1_78, by decide, rfl, rfl, rfl, fun h => absurd h (by decide)⟩
theorem q1_79 : (Jvm.Cond.fieldLink "PeeledHash$State" (21 : Nat) "PeeledHash$State" "table" "LPeeledHash$Table;") ∈ gtbl := g_in1 (List.mem_of_getElem? (i := 79) rfl) rfl
theorem flX3_21 : g_FL RX3 21 3 2 6 true true (.object "PeeledHash$Table") true := ⟨RX3, TX3, tyX3, gcl3, q1_79, by decide, rfl, rfl, rfl, fun _ => rfl⟩
theorem q1_80 : (Jvm.Cond.fieldLink "PeeledHash" (250 : Nat) "PeeledHash$State" "table" "LPeeledHash$Table;") ∈ gtbl := g_in1 (List.mem_of_getElem? (i := 80) rfl) rfl
theorem flX8_250 : g_FL RX8 250 3 2 6 true true (.object "PeeledHash$Table") false := ⟨RX3, TX3, tyX3, gcl3, q1_80, by decide, rfl, rfl, rfl, fun h => absurd h (by decide)⟩
theorem q1_81 : (Jvm.Cond.fieldLink "PeeledHash$Peeler" (37 : Nat) "PeeledHash$State" "size" "I") ∈ gtbl := g_in1 (List.mem_of_getElem? (i := 81) rfl) rfl
theorem flX1_37 : g_FL RX1 37 3 3 6 false false (.int) false := ⟨RX3, TX3, tyX3, gcl3, q1_81, by decide, rfl, rfl, rfl, fun h => absurd h (by decide)⟩
theorem q1_82 : (Jvm.Cond.fieldLink "PeeledHash$State" (39 : Nat) "PeeledHash$State" "size" "I") ∈ gtbl := g_in1 (List.mem_of_getElem? (i := 82) rfl) rfl
theorem flX3_39 : g_FL RX3 39 3 3 6 false false (.int) true := ⟨RX3, TX3, tyX3, gcl3, q1_82, by decide, rfl, rfl, rfl, fun _ => rfl⟩
theorem q1_83 : (Jvm.Cond.fieldLink "PeeledHash$Table" (41 : Nat) "PeeledHash$State" "size" "I") ∈ gtbl := g_in1 (List.mem_of_getElem? (i := 83) rfl) rfl
theorem flX5_41 : g_FL RX5 41 3 3 6 false false (.int) false := ⟨RX3, TX3, tyX3, gcl3, q1_83, by decide, rfl, rfl, rfl, fun h => absurd h (by decide)⟩
theorem q1_84 : (Jvm.Cond.fieldLink "PeeledHash" (137 : Nat) "PeeledHash$State" "size" "I") ∈ gtbl := g_in1 (List.mem_of_getElem? (i := 84) rfl) rfl
theorem flX8_137 : g_FL RX8 137 3 3 6 false false (.int) false := ⟨RX3, TX3, tyX3, gcl3, q1_84, by decide, rfl, rfl, rfl, fun h => absurd h (by decide)⟩
theorem q1_85 : (Jvm.Cond.fieldLink "PeeledHash$State" (25 : Nat) "PeeledHash$State" "side" "I") ∈ gtbl := g_in1 (List.mem_of_getElem? (i := 85) rfl) rfl
theorem flX3_25 : g_FL RX3 25 3 4 6 false false (.int) true := ⟨RX3, TX3, tyX3, gcl3, q1_85, by decide, rfl, rfl, rfl, fun _ => rfl⟩
theorem q1_86 : (Jvm.Cond.fieldLink "PeeledHash$Sums" (22 : Nat) "PeeledHash$State" "side" "I") ∈ gtbl := g_in1 (List.mem_of_getElem? (i := 86) rfl) rfl
theorem flX4_22 : g_FL RX4 22 3 4 6 false false (.int) false := ⟨RX3, TX3, tyX3, gcl3, q1_86, by decide, rfl, rfl, rfl, fun h => absurd h (by decide)⟩
theorem q1_87 : (Jvm.Cond.fieldLink "PeeledHash" (119 : Nat) "PeeledHash$State" "side" "I") ∈ gtbl := g_in1 (List.mem_of_getElem? (i := 87) rfl) rfl
theorem flX8_119 : g_FL RX8 119 3 4 6 false false (.int) false := ⟨RX3, TX3, tyX3, gcl3, q1_87, by decide, rfl, rfl, rfl, fun h => absurd h (by decide)⟩
theorem q1_88 : (Jvm.Cond.fieldLink "PeeledHash$Table" (44 : Nat) "PeeledHash$State" "side" "I") ∈ gtbl := g_in1 (List.mem_of_getElem? (i := 88) rfl) rfl
theorem flX5_44 : g_FL RX5 44 3 4 6 false false (.int) false := ⟨RX3, TX3, tyX3, gcl3, q1_88, by decide, rfl, rfl, rfl, fun h => absurd h (by decide)⟩
theorem q1_89 : (Jvm.Cond.fieldLink "PeeledHash$Peeler" (55 : Nat) "PeeledHash$State" "side" "I") ∈ gtbl := g_in1 (List.mem_of_getElem? (i := 89) rfl) rfl
theorem flX1_55 : g_FL RX1 55 3 4 6 false false (.int) false := ⟨RX3, TX3, tyX3, gcl3, q1_89, by decide, rfl, rfl, rfl, fun h => absurd h (by decide)⟩
theorem q1_90 : (Jvm.Cond.fieldLink "PeeledHash$State" (42 : Nat) "PeeledHash$State" "seed" "I") ∈ gtbl := g_in1 (List.mem_of_getElem? (i := 90) rfl) rfl
theorem flX3_42 : g_FL RX3 42 3 5 6 false false (.int) true := ⟨RX3, TX3, tyX3, gcl3, q1_90, by decide, rfl, rfl, rfl, fun _ => rfl⟩
theorem q1_91 : (Jvm.Cond.fieldLink "PeeledHash" (116 : Nat) "PeeledHash$State" "seed" "I") ∈ gtbl := g_in1 (List.mem_of_getElem? (i := 91) rfl) rfl
theorem flX8_116 : g_FL RX8 116 3 5 6 false false (.int) false := ⟨RX3, TX3, tyX3, gcl3, q1_91, by decide, rfl, rfl, rfl, fun h => absurd h (by decide)⟩
theorem q1_92 : (Jvm.Cond.fieldLink "PeeledHash$Sums" (47 : Nat) "PeeledHash$State" "seed" "I") ∈ gtbl := g_in1 (List.mem_of_getElem? (i := 92) rfl) rfl
theorem flX4_47 : g_FL RX4 47 3 5 6 false false (.int) false := ⟨RX3, TX3, tyX3, gcl3, q1_92, by decide, rfl, rfl, rfl, fun h => absurd h (by decide)⟩
theorem q1_93 : (Jvm.Cond.fieldLink "PeeledHash$Table" (45 : Nat) "PeeledHash$State" "seed" "I") ∈ gtbl := g_in1 (List.mem_of_getElem? (i := 93) rfl) rfl
theorem flX5_45 : g_FL RX5 45 3 5 6 false false (.int) false := ⟨RX3, TX3, tyX3, gcl3, q1_93, by decide, rfl, rfl, rfl, fun h => absurd h (by decide)⟩
theorem q1_109 : (Jvm.Cond.fieldLink "PeeledHash$Whole" (12 : Nat) "PeeledHash$Whole" "state" "LPeeledHash$State;") ∈ gtbl := g_in1 (List.mem_of_getElem? (i := 109) rfl) rfl
theorem flX7_12 : g_FL RX7 12 7 0 8 true true (.object "PeeledHash$State") true := ⟨RX7, TX7, tyX7, gcl7, q1_109, by decide, rfl, rfl, rfl, fun _ => rfl⟩
theorem q1_110 : (Jvm.Cond.fieldLink "PeeledHash" (102 : Nat) "PeeledHash$Whole" "state" "LPeeledHash$State;") ∈ gtbl := g_in1 (List.mem_of_getElem? (i := 110) rfl) rfl
theorem flX8_102 : g_FL RX8 102 7 0 8 true true (.object "PeeledHash$State") false := ⟨RX7, TX7, tyX7, gcl7, q1_110, by decide, rfl, rfl, rfl, fun h => absurd h (by decide)⟩
theorem q1_111 : (Jvm.Cond.fieldLink "PeeledHash$Whole" (18 : Nat) "PeeledHash$Whole" "seenVertices" "[I") ∈ gtbl := g_in1 (List.mem_of_getElem? (i := 111) rfl) rfl
theorem flX7_18 : g_FL RX7 18 7 1 8 true true (.array .int) true := ⟨RX7, TX7, tyX7, gcl7, q1_111, by decide, rfl, rfl, rfl, fun _ => rfl⟩
theorem q1_112 : (Jvm.Cond.fieldLink "PeeledHash" (288 : Nat) "PeeledHash$Whole" "seenVertices" "[I") ∈ gtbl := g_in1 (List.mem_of_getElem? (i := 112) rfl) rfl
theorem flX8_288 : g_FL RX8 288 7 1 8 true true (.array .int) false := ⟨RX7, TX7, tyX7, gcl7, q1_112, by decide, rfl, rfl, rfl, fun h => absurd h (by decide)⟩
theorem q1_113 : (Jvm.Cond.fieldLink "PeeledHash$Whole" (22 : Nat) "PeeledHash$Whole" "seenIs" "[I") ∈ gtbl := g_in1 (List.mem_of_getElem? (i := 113) rfl) rfl
theorem flX7_22 : g_FL RX7 22 7 2 8 true true (.array .int) true := ⟨RX7, TX7, tyX7, gcl7, q1_113, by decide, rfl, rfl, rfl, fun _ => rfl⟩
theorem q1_114 : (Jvm.Cond.fieldLink "PeeledHash" (291 : Nat) "PeeledHash$Whole" "seenIs" "[I") ∈ gtbl := g_in1 (List.mem_of_getElem? (i := 114) rfl) rfl
theorem flX8_291 : g_FL RX8 291 7 2 8 true true (.array .int) false := ⟨RX7, TX7, tyX7, gcl7, q1_114, by decide, rfl, rfl, rfl, fun h => absurd h (by decide)⟩
theorem q1_115 : (Jvm.Cond.fieldLink "PeeledHash$Whole" (27 : Nat) "PeeledHash$Whole" "laws" "[LPeeledHash$Text;") ∈ gtbl := g_in1 (List.mem_of_getElem? (i := 115) rfl) rfl
theorem flX7_27 : g_FL RX7 27 7 3 8 true true (.array (.object "PeeledHash$Text")) true := ⟨RX7, TX7, tyX7, gcl7, q1_115, by decide, rfl, rfl, rfl, fun _ => rfl⟩
theorem q1_116 : (Jvm.Cond.fieldLink "PeeledHash" (182 : Nat) "PeeledHash$Whole" "laws" "[LPeeledHash$Text;") ∈ gtbl := g_in1 (List.mem_of_getElem? (i := 116) rfl) rfl
theorem flX8_182 : g_FL RX8 182 7 3 8 true true (.array (.object "PeeledHash$Text")) false := ⟨RX7, TX7, tyX7, gcl7, q1_116, by decide, rfl, rfl, rfl, fun h => absurd h (by decide)⟩
theorem q1_117 : (Jvm.Cond.fieldLink "PeeledHash$Whole" (39 : Nat) "PeeledHash$Whole" "seenSize" "I") ∈ gtbl := g_in1 (List.mem_of_getElem? (i := 117) rfl) rfl
theorem flX7_39 : g_FL RX7 39 7 4 8 false false (.int) true := ⟨RX7, TX7, tyX7, gcl7, q1_117, by decide, rfl, rfl, rfl, fun _ => rfl⟩
theorem q1_118 : (Jvm.Cond.fieldLink "PeeledHash" (285 : Nat) "PeeledHash$Whole" "seenSize" "I") ∈ gtbl := g_in1 (List.mem_of_getElem? (i := 118) rfl) rfl
theorem flX8_285 : g_FL RX8 285 7 4 8 false false (.int) false := ⟨RX7, TX7, tyX7, gcl7, q1_118, by decide, rfl, rfl, rfl, fun h => absurd h (by decide)⟩
theorem q1_119 : (Jvm.Cond.fieldLink "PeeledHash$Whole" (42 : Nat) "PeeledHash$Whole" "lawSize" "I") ∈ gtbl := g_in1 (List.mem_of_getElem? (i := 119) rfl) rfl
theorem flX7_42 : g_FL RX7 42 7 5 8 false false (.int) true := ⟨RX7, TX7, tyX7, gcl7, q1_119, by decide, rfl, rfl, rfl, fun _ => rfl⟩
theorem q1_120 : (Jvm.Cond.fieldLink "PeeledHash" (175 : Nat) "PeeledHash$Whole" "lawSize" "I") ∈ gtbl := g_in1 (List.mem_of_getElem? (i := 120) rfl) rfl
theorem flX8_175 : g_FL RX8 175 7 5 8 false false (.int) false := ⟨RX7, TX7, tyX7, gcl7, q1_120, by decide, rfl, rfl, rfl, fun h => absurd h (by decide)⟩
theorem q1_121 : (Jvm.Cond.fieldLink "PeeledHash$Whole" (31 : Nat) "PeeledHash$Whole" "force" "I") ∈ gtbl := g_in1 (List.mem_of_getElem? (i := 121) rfl) rfl
theorem flX7_31 : g_FL RX7 31 7 6 8 false false (.int) true := ⟨RX7, TX7, tyX7, gcl7, q1_121, by decide, rfl, rfl, rfl, fun _ => rfl⟩
theorem q1_122 : (Jvm.Cond.fieldLink "PeeledHash" (215 : Nat) "PeeledHash$Whole" "force" "I") ∈ gtbl := g_in1 (List.mem_of_getElem? (i := 122) rfl) rfl
theorem flX8_215 : g_FL RX8 215 7 6 8 false false (.int) false := ⟨RX7, TX7, tyX7, gcl7, q1_122, by decide, rfl, rfl, rfl, fun h => absurd h (by decide)⟩
theorem q1_123 : (Jvm.Cond.fieldLink "PeeledHash" (334 : Nat) "PeeledHash$Whole" "kept" "Z") ∈ gtbl := g_in1 (List.mem_of_getElem? (i := 123) rfl) rfl
theorem flX8_334 : g_FL RX8 334 7 7 8 false false (.boolean) false := ⟨RX7, TX7, tyX7, gcl7, q1_123, by decide, rfl, rfl, rfl, fun h => absurd h (by decide)⟩
theorem q1_151 : (Jvm.Cond.fieldLink "PeeledHash$History" (13 : Nat) "PeeledHash$History" "states" "[LPeeledHash$State;") ∈ gtbl := g_in1 (List.mem_of_getElem? (i := 151) rfl) rfl
theorem flX0_13 : g_FL RX0 13 0 0 4 true true (.array (.object "PeeledHash$State")) true := ⟨RX0, TX0, tyX0, gcl0, q1_151, by decide, rfl, rfl, rfl, fun _ => rfl⟩
theorem q1_152 : (Jvm.Cond.fieldLink "PeeledHash$History" (17 : Nat) "PeeledHash$History" "kinds" "[I") ∈ gtbl := g_in1 (List.mem_of_getElem? (i := 152) rfl) rfl
theorem flX0_17 : g_FL RX0 17 0 1 4 true true (.array .int) true := ⟨RX0, TX0, tyX0, gcl0, q1_152, by decide, rfl, rfl, rfl, fun _ => rfl⟩
theorem q1_153 : (Jvm.Cond.fieldLink "PeeledHash$History" (34 : Nat) "PeeledHash$History" "first" "I") ∈ gtbl := g_in1 (List.mem_of_getElem? (i := 153) rfl) rfl
theorem flX0_34 : g_FL RX0 34 0 2 4 false false (.int) true := ⟨RX0, TX0, tyX0, gcl0, q1_153, by decide, rfl, rfl, rfl, fun _ => rfl⟩
theorem q1_154 : (Jvm.Cond.fieldLink "PeeledHash$History" (22 : Nat) "PeeledHash$History" "size" "I") ∈ gtbl := g_in1 (List.mem_of_getElem? (i := 154) rfl) rfl
theorem flX0_22 : g_FL RX0 22 0 3 4 false false (.int) true := ⟨RX0, TX0, tyX0, gcl0, q1_154, by decide, rfl, rfl, rfl, fun _ => rfl⟩
theorem q1_155 : (Jvm.Cond.fieldLink "PeeledHash" (337 : Nat) "PeeledHash$History" "size" "I") ∈ gtbl := g_in1 (List.mem_of_getElem? (i := 155) rfl) rfl
theorem flX8_337 : g_FL RX8 337 0 3 4 false false (.int) false := ⟨RX0, TX0, tyX0, gcl0, q1_155, by decide, rfl, rfl, rfl, fun h => absurd h (by decide)⟩
theorem q1_173 : (Jvm.Cond.fieldLink "PeeledHash$Sums" (9 : Nat) "PeeledHash$Sums" "words" "[I") ∈ gtbl := g_in1 (List.mem_of_getElem? (i := 173) rfl) rfl
theorem flX4_9 : g_FL RX4 9 4 0 2 true true (.array .int) true := ⟨RX4, TX4, tyX4, gcl4, q1_173, by decide, rfl, rfl, rfl, fun _ => rfl⟩
theorem q1_174 : (Jvm.Cond.fieldLink "PeeledHash" (384 : Nat) "PeeledHash$Sums" "words" "[I") ∈ gtbl := g_in1 (List.mem_of_getElem? (i := 174) rfl) rfl
theorem flX8_384 : g_FL RX8 384 4 0 2 true true (.array .int) false := ⟨RX4, TX4, tyX4, gcl4, q1_174, by decide, rfl, rfl, rfl, fun h => absurd h (by decide)⟩
theorem q1_175 : (Jvm.Cond.fieldLink "PeeledHash$Sums" (15 : Nat) "PeeledHash$Sums" "stack" "[I") ∈ gtbl := g_in1 (List.mem_of_getElem? (i := 175) rfl) rfl
theorem flX4_15 : g_FL RX4 15 4 1 2 true true (.array .int) true := ⟨RX4, TX4, tyX4, gcl4, q1_175, by decide, rfl, rfl, rfl, fun _ => rfl⟩
theorem q1_187 : (Jvm.Cond.fieldLink "PeeledHash$Peeler" (9 : Nat) "PeeledHash$Peeler" "ends" "[I") ∈ gtbl := g_in1 (List.mem_of_getElem? (i := 187) rfl) rfl
theorem flX1_9 : g_FL RX1 9 1 0 9 true true (.array .int) true := ⟨RX1, TX1, tyX1, gcl1, q1_187, by decide, rfl, rfl, rfl, fun _ => rfl⟩
theorem q1_188 : (Jvm.Cond.fieldLink "PeeledHash$Table" (64 : Nat) "PeeledHash$Peeler" "ends" "[I") ∈ gtbl := g_in1 (List.mem_of_getElem? (i := 188) rfl) rfl
theorem flX5_64 : g_FL RX5 64 1 0 9 true true (.array .int) false := ⟨RX1, TX1, tyX1, gcl1, q1_188, by decide, rfl, rfl, rfl, fun h => absurd h (by decide)⟩
theorem q1_189 : (Jvm.Cond.fieldLink "PeeledHash$Peeler" (15 : Nat) "PeeledHash$Peeler" "leavers" "[I") ∈ gtbl := g_in1 (List.mem_of_getElem? (i := 189) rfl) rfl
theorem flX1_15 : g_FL RX1 15 1 1 9 true true (.array .int) true := ⟨RX1, TX1, tyX1, gcl1, q1_189, by decide, rfl, rfl, rfl, fun _ => rfl⟩
theorem q1_190 : (Jvm.Cond.fieldLink "PeeledHash$Table" (61 : Nat) "PeeledHash$Peeler" "leavers" "[I") ∈ gtbl := g_in1 (List.mem_of_getElem? (i := 190) rfl) rfl
theorem flX5_61 : g_FL RX5 61 1 1 9 true true (.array .int) false := ⟨RX1, TX1, tyX1, gcl1, q1_190, by decide, rfl, rfl, rfl, fun h => absurd h (by decide)⟩
theorem q1_191 : (Jvm.Cond.fieldLink "PeeledHash" (240 : Nat) "PeeledHash$Peeler" "leavers" "[I") ∈ gtbl := g_in1 (List.mem_of_getElem? (i := 191) rfl) rfl
theorem flX8_240 : g_FL RX8 240 1 1 9 true true (.array .int) false := ⟨RX1, TX1, tyX1, gcl1, q1_191, by decide, rfl, rfl, rfl, fun h => absurd h (by decide)⟩
theorem q1_192 : (Jvm.Cond.fieldLink "PeeledHash$Peeler" (18 : Nat) "PeeledHash$Peeler" "frees" "[I") ∈ gtbl := g_in1 (List.mem_of_getElem? (i := 192) rfl) rfl
theorem flX1_18 : g_FL RX1 18 1 2 9 true true (.array .int) true := ⟨RX1, TX1, tyX1, gcl1, q1_192, by decide, rfl, rfl, rfl, fun _ => rfl⟩
theorem q1_193 : (Jvm.Cond.fieldLink "PeeledHash$Table" (58 : Nat) "PeeledHash$Peeler" "frees" "[I") ∈ gtbl := g_in1 (List.mem_of_getElem? (i := 193) rfl) rfl
theorem flX5_58 : g_FL RX5 58 1 2 9 true true (.array .int) false := ⟨RX1, TX1, tyX1, gcl1, q1_193, by decide, rfl, rfl, rfl, fun h => absurd h (by decide)⟩
theorem q1_194 : (Jvm.Cond.fieldLink "PeeledHash" (243 : Nat) "PeeledHash$Peeler" "frees" "[I") ∈ gtbl := g_in1 (List.mem_of_getElem? (i := 194) rfl) rfl
theorem flX8_243 : g_FL RX8 243 1 2 9 true true (.array .int) false := ⟨RX1, TX1, tyX1, gcl1, q1_194, by decide, rfl, rfl, rfl, fun h => absurd h (by decide)⟩
theorem q1_195 : (Jvm.Cond.fieldLink "PeeledHash$Peeler" (21 : Nat) "PeeledHash$Peeler" "degrees" "[I") ∈ gtbl := g_in1 (List.mem_of_getElem? (i := 195) rfl) rfl
theorem flX1_21 : g_FL RX1 21 1 3 9 true true (.array .int) true := ⟨RX1, TX1, tyX1, gcl1, q1_195, by decide, rfl, rfl, rfl, fun _ => rfl⟩
theorem q1_196 : (Jvm.Cond.fieldLink "PeeledHash$Peeler" (24 : Nat) "PeeledHash$Peeler" "holders" "[I") ∈ gtbl := g_in1 (List.mem_of_getElem? (i := 196) rfl) rfl
theorem flX1_24 : g_FL RX1 24 1 4 9 true true (.array .int) true := ⟨RX1, TX1, tyX1, gcl1, q1_196, by decide, rfl, rfl, rfl, fun _ => rfl⟩
theorem q1_197 : (Jvm.Cond.fieldLink "PeeledHash$Peeler" (27 : Nat) "PeeledHash$Peeler" "ranks" "[I") ∈ gtbl := g_in1 (List.mem_of_getElem? (i := 197) rfl) rfl
theorem flX1_27 : g_FL RX1 27 1 5 9 true true (.array .int) true := ⟨RX1, TX1, tyX1, gcl1, q1_197, by decide, rfl, rfl, rfl, fun _ => rfl⟩
theorem q1_198 : (Jvm.Cond.fieldLink "PeeledHash$Peeler" (30 : Nat) "PeeledHash$Peeler" "waiting" "[I") ∈ gtbl := g_in1 (List.mem_of_getElem? (i := 198) rfl) rfl
theorem flX1_30 : g_FL RX1 30 1 6 9 true true (.array .int) true := ⟨RX1, TX1, tyX1, gcl1, q1_198, by decide, rfl, rfl, rfl, fun _ => rfl⟩
theorem q1_199 : (Jvm.Cond.fieldLink "PeeledHash$Peeler" (33 : Nat) "PeeledHash$Peeler" "sums" "LPeeledHash$Sums;") ∈ gtbl := g_in1 (List.mem_of_getElem? (i := 199) rfl) rfl
theorem flX1_33 : g_FL RX1 33 1 7 9 true true (.object "PeeledHash$Sums") true := ⟨RX1, TX1, tyX1, gcl1, q1_199, by decide, rfl, rfl, rfl, fun _ => rfl⟩
theorem q1_200 : (Jvm.Cond.fieldLink "PeeledHash$Table" (53 : Nat) "PeeledHash$Peeler" "gone" "I") ∈ gtbl := g_in1 (List.mem_of_getElem? (i := 200) rfl) rfl
theorem flX5_53 : g_FL RX5 53 1 8 9 false false (.int) false := ⟨RX1, TX1, tyX1, gcl1, q1_200, by decide, rfl, rfl, rfl, fun h => absurd h (by decide)⟩
theorem q1_201 : (Jvm.Cond.fieldLink "PeeledHash$Peeler" (64 : Nat) "PeeledHash$Peeler" "gone" "I") ∈ gtbl := g_in1 (List.mem_of_getElem? (i := 201) rfl) rfl
theorem flX1_64 : g_FL RX1 64 1 8 9 false false (.int) true := ⟨RX1, TX1, tyX1, gcl1, q1_201, by decide, rfl, rfl, rfl, fun _ => rfl⟩
theorem q1_202 : (Jvm.Cond.fieldLink "PeeledHash" (237 : Nat) "PeeledHash$Peeler" "gone" "I") ∈ gtbl := g_in1 (List.mem_of_getElem? (i := 202) rfl) rfl
theorem flX8_237 : g_FL RX8 237 1 8 9 false false (.int) false := ⟨RX1, TX1, tyX1, gcl1, q1_202, by decide, rfl, rfl, rfl, fun h => absurd h (by decide)⟩
theorem q1_237 : (Jvm.Cond.fieldLink "PeeledHash$Text" (15 : Nat) "PeeledHash$Text" "kinds" "[I") ∈ gtbl := g_in1 (List.mem_of_getElem? (i := 237) rfl) rfl
theorem flX6_15 : g_FL RX6 15 6 0 8 true true (.array .int) true := ⟨RX6, TX6, tyX6, gcl6, q1_237, by decide, rfl, rfl, rfl, fun _ => rfl⟩
theorem q1_238 : (Jvm.Cond.fieldLink "PeeledHash$Sums" (33 : Nat) "PeeledHash$Text" "kinds" "[I") ∈ gtbl := g_in1 (List.mem_of_getElem? (i := 238) rfl) rfl
theorem flX4_33 : g_FL RX4 33 6 0 8 true true (.array .int) false := ⟨RX6, TX6, tyX6, gcl6, q1_238, by decide, rfl, rfl, rfl, fun h => absurd h (by decide)⟩
theorem q1_239 : (Jvm.Cond.fieldLink "PeeledHash$Reader" (114 : Nat) "PeeledHash$Text" "kinds" "[I") ∈ gtbl := g_in1 (List.mem_of_getElem? (i := 239) rfl) rfl
theorem flX2_114 : g_FL RX2 114 6 0 8 true true (.array .int) false := ⟨RX6, TX6, tyX6, gcl6, q1_239, by decide, rfl, rfl, rfl, fun h => absurd h (by decide)⟩
theorem q2_0 : (Jvm.Cond.fieldLink "PeeledHash" (205 : Nat) "PeeledHash$Text" "kinds" "[I") ∈ gtbl := g_in2 (List.mem_of_getElem? (i := 0) rfl) rfl
theorem flX8_205 : g_FL RX8 205 6 0 8 true true (.array .int) false := ⟨RX6, TX6, tyX6, gcl6, q2_0, by decide, rfl, rfl, rfl, fun h => absurd h (by decide)⟩
theorem q2_1 : (Jvm.Cond.fieldLink "PeeledHash$Text" (21 : Nat) "PeeledHash$Text" "times" "[I") ∈ gtbl := g_in2 (List.mem_of_getElem? (i := 1) rfl) rfl
theorem flX6_21 : g_FL RX6 21 6 1 8 true true (.array .int) true := ⟨RX6, TX6, tyX6, gcl6, q2_1, by decide, rfl, rfl, rfl, fun _ => rfl⟩
theorem q2_2 : (Jvm.Cond.fieldLink "PeeledHash$Reader" (117 : Nat) "PeeledHash$Text" "times" "[I") ∈ gtbl := g_in2 (List.mem_of_getElem? (i := 2) rfl) rfl
theorem flX2_117 : g_FL RX2 117 6 1 8 true true (.array .int) false := ⟨RX6, TX6, tyX6, gcl6, q2_2, by decide, rfl, rfl, rfl, fun h => absurd h (by decide)⟩
theorem q2_3 : (Jvm.Cond.fieldLink "PeeledHash" (197 : Nat) "PeeledHash$Text" "times" "[I") ∈ gtbl := g_in2 (List.mem_of_getElem? (i := 3) rfl) rfl
theorem flX8_197 : g_FL RX8 197 6 1 8 true true (.array .int) false := ⟨RX6, TX6, tyX6, gcl6, q2_3, by decide, rfl, rfl, rfl, fun h => absurd h (by decide)⟩
theorem q2_4 : (Jvm.Cond.fieldLink "PeeledHash$Text" (24 : Nat) "PeeledHash$Text" "sums" "[I") ∈ gtbl := g_in2 (List.mem_of_getElem? (i := 4) rfl) rfl
theorem flX6_24 : g_FL RX6 24 6 2 8 true true (.array .int) true := ⟨RX6, TX6, tyX6, gcl6, q2_4, by decide, rfl, rfl, rfl, fun _ => rfl⟩
theorem q2_5 : (Jvm.Cond.fieldLink "PeeledHash$Sums" (43 : Nat) "PeeledHash$Text" "sums" "[I") ∈ gtbl := g_in2 (List.mem_of_getElem? (i := 5) rfl) rfl
theorem flX4_43 : g_FL RX4 43 6 2 8 true true (.array .int) false := ⟨RX6, TX6, tyX6, gcl6, q2_5, by decide, rfl, rfl, rfl, fun h => absurd h (by decide)⟩
theorem q2_6 : (Jvm.Cond.fieldLink "PeeledHash$Reader" (120 : Nat) "PeeledHash$Text" "sums" "[I") ∈ gtbl := g_in2 (List.mem_of_getElem? (i := 6) rfl) rfl
theorem flX2_120 : g_FL RX2 120 6 2 8 true true (.array .int) false := ⟨RX6, TX6, tyX6, gcl6, q2_6, by decide, rfl, rfl, rfl, fun h => absurd h (by decide)⟩
theorem q2_7 : (Jvm.Cond.fieldLink "PeeledHash" (382 : Nat) "PeeledHash$Text" "sums" "[I") ∈ gtbl := g_in2 (List.mem_of_getElem? (i := 7) rfl) rfl
theorem flX8_382 : g_FL RX8 382 6 2 8 true true (.array .int) false := ⟨RX6, TX6, tyX6, gcl6, q2_7, by decide, rfl, rfl, rfl, fun h => absurd h (by decide)⟩
theorem q2_8 : (Jvm.Cond.fieldLink "PeeledHash$Text" (27 : Nat) "PeeledHash$Text" "tests" "[I") ∈ gtbl := g_in2 (List.mem_of_getElem? (i := 8) rfl) rfl
theorem flX6_27 : g_FL RX6 27 6 3 8 true true (.array .int) true := ⟨RX6, TX6, tyX6, gcl6, q2_8, by decide, rfl, rfl, rfl, fun _ => rfl⟩
theorem q2_9 : (Jvm.Cond.fieldLink "PeeledHash$Sums" (36 : Nat) "PeeledHash$Text" "tests" "[I") ∈ gtbl := g_in2 (List.mem_of_getElem? (i := 9) rfl) rfl
theorem flX4_36 : g_FL RX4 36 6 3 8 true true (.array .int) false := ⟨RX6, TX6, tyX6, gcl6, q2_9, by decide, rfl, rfl, rfl, fun h => absurd h (by decide)⟩
theorem q2_10 : (Jvm.Cond.fieldLink "PeeledHash$Reader" (133 : Nat) "PeeledHash$Text" "tests" "[I") ∈ gtbl := g_in2 (List.mem_of_getElem? (i := 10) rfl) rfl
theorem flX2_133 : g_FL RX2 133 6 3 8 true true (.array .int) false := ⟨RX6, TX6, tyX6, gcl6, q2_10, by decide, rfl, rfl, rfl, fun h => absurd h (by decide)⟩
theorem q2_11 : (Jvm.Cond.fieldLink "PeeledHash" (375 : Nat) "PeeledHash$Text" "tests" "[I") ∈ gtbl := g_in2 (List.mem_of_getElem? (i := 11) rfl) rfl
theorem flX8_375 : g_FL RX8 375 6 3 8 true true (.array .int) false := ⟨RX6, TX6, tyX6, gcl6, q2_11, by decide, rfl, rfl, rfl, fun h => absurd h (by decide)⟩
theorem q2_12 : (Jvm.Cond.fieldLink "PeeledHash$Text" (30 : Nat) "PeeledHash$Text" "steps" "[I") ∈ gtbl := g_in2 (List.mem_of_getElem? (i := 12) rfl) rfl
theorem flX6_30 : g_FL RX6 30 6 4 8 true true (.array .int) true := ⟨RX6, TX6, tyX6, gcl6, q2_12, by decide, rfl, rfl, rfl, fun _ => rfl⟩
theorem q2_13 : (Jvm.Cond.fieldLink "PeeledHash$Sums" (56 : Nat) "PeeledHash$Text" "steps" "[I") ∈ gtbl := g_in2 (List.mem_of_getElem? (i := 13) rfl) rfl
theorem flX4_56 : g_FL RX4 56 6 4 8 true true (.array .int) false := ⟨RX6, TX6, tyX6, gcl6, q2_13, by decide, rfl, rfl, rfl, fun h => absurd h (by decide)⟩
theorem q2_14 : (Jvm.Cond.fieldLink "PeeledHash$Text" (33 : Nat) "PeeledHash$Text" "numbers" "[I") ∈ gtbl := g_in2 (List.mem_of_getElem? (i := 14) rfl) rfl
theorem flX6_33 : g_FL RX6 33 6 5 8 true true (.array .int) true := ⟨RX6, TX6, tyX6, gcl6, q2_14, by decide, rfl, rfl, rfl, fun _ => rfl⟩
theorem q2_15 : (Jvm.Cond.fieldLink "PeeledHash$Sums" (59 : Nat) "PeeledHash$Text" "numbers" "[I") ∈ gtbl := g_in2 (List.mem_of_getElem? (i := 15) rfl) rfl
theorem flX4_59 : g_FL RX4 59 6 5 8 true true (.array .int) false := ⟨RX6, TX6, tyX6, gcl6, q2_15, by decide, rfl, rfl, rfl, fun h => absurd h (by decide)⟩
theorem q2_16 : (Jvm.Cond.fieldLink "PeeledHash$Text" (36 : Nat) "PeeledHash$Text" "size" "I") ∈ gtbl := g_in2 (List.mem_of_getElem? (i := 16) rfl) rfl
theorem flX6_36 : g_FL RX6 36 6 6 8 false false (.int) true := ⟨RX6, TX6, tyX6, gcl6, q2_16, by decide, rfl, rfl, rfl, fun _ => rfl⟩
theorem q2_17 : (Jvm.Cond.fieldLink "PeeledHash$Sums" (28 : Nat) "PeeledHash$Text" "size" "I") ∈ gtbl := g_in2 (List.mem_of_getElem? (i := 17) rfl) rfl
theorem flX4_28 : g_FL RX4 28 6 6 8 false false (.int) false := ⟨RX6, TX6, tyX6, gcl6, q2_17, by decide, rfl, rfl, rfl, fun h => absurd h (by decide)⟩
theorem q2_18 : (Jvm.Cond.fieldLink "PeeledHash$Reader" (139 : Nat) "PeeledHash$Text" "size" "I") ∈ gtbl := g_in2 (List.mem_of_getElem? (i := 18) rfl) rfl
theorem flX2_139 : g_FL RX2 139 6 6 8 false false (.int) false := ⟨RX6, TX6, tyX6, gcl6, q2_18, by decide, rfl, rfl, rfl, fun h => absurd h (by decide)⟩
theorem q2_19 : (Jvm.Cond.fieldLink "PeeledHash" (196 : Nat) "PeeledHash$Text" "size" "I") ∈ gtbl := g_in2 (List.mem_of_getElem? (i := 19) rfl) rfl
theorem flX8_196 : g_FL RX8 196 6 6 8 false false (.int) false := ⟨RX6, TX6, tyX6, gcl6, q2_19, by decide, rfl, rfl, rfl, fun h => absurd h (by decide)⟩
theorem q2_20 : (Jvm.Cond.fieldLink "PeeledHash$Text" (40 : Nat) "PeeledHash$Text" "length" "I") ∈ gtbl := g_in2 (List.mem_of_getElem? (i := 20) rfl) rfl
theorem flX6_40 : g_FL RX6 40 6 7 8 false false (.int) true := ⟨RX6, TX6, tyX6, gcl6, q2_20, by decide, rfl, rfl, rfl, fun _ => rfl⟩
theorem q2_21 : (Jvm.Cond.fieldLink "PeeledHash$Sums" (53 : Nat) "PeeledHash$Text" "length" "I") ∈ gtbl := g_in2 (List.mem_of_getElem? (i := 21) rfl) rfl
theorem flX4_53 : g_FL RX4 53 6 7 8 false false (.int) false := ⟨RX6, TX6, tyX6, gcl6, q2_21, by decide, rfl, rfl, rfl, fun h => absurd h (by decide)⟩
theorem q2_22 : (Jvm.Cond.fieldLink "PeeledHash$Reader" (123 : Nat) "PeeledHash$Text" "length" "I") ∈ gtbl := g_in2 (List.mem_of_getElem? (i := 22) rfl) rfl
theorem flX2_123 : g_FL RX2 123 6 7 8 false false (.int) false := ⟨RX6, TX6, tyX6, gcl6, q2_22, by decide, rfl, rfl, rfl, fun h => absurd h (by decide)⟩
theorem q2_40 : (Jvm.Cond.fieldLink "PeeledHash$Reader" (9 : Nat) "PeeledHash$Reader" "bytes" "[I") ∈ gtbl := g_in2 (List.mem_of_getElem? (i := 40) rfl) rfl
theorem flX2_9 : g_FL RX2 9 2 0 13 true true (.array .int) true := ⟨RX2, TX2, tyX2, gcl2, q2_40, by decide, rfl, rfl, rfl, fun _ => rfl⟩
theorem q2_41 : (Jvm.Cond.fieldLink "PeeledHash" (168 : Nat) "PeeledHash$Reader" "bytes" "[I") ∈ gtbl := g_in2 (List.mem_of_getElem? (i := 41) rfl) rfl
theorem flX8_168 : g_FL RX8 168 2 0 13 true true (.array .int) false := ⟨RX2, TX2, tyX2, gcl2, q2_41, by decide, rfl, rfl, rfl, fun h => absurd h (by decide)⟩
theorem q2_42 : (Jvm.Cond.fieldLink "PeeledHash$Reader" (20 : Nat) "PeeledHash$Reader" "text" "LPeeledHash$Text;") ∈ gtbl := g_in2 (List.mem_of_getElem? (i := 42) rfl) rfl
theorem flX2_20 : g_FL RX2 20 2 1 13 true true (.object "PeeledHash$Text") true := ⟨RX2, TX2, tyX2, gcl2, q2_42, by decide, rfl, rfl, rfl, fun _ => rfl⟩
theorem q2_43 : (Jvm.Cond.fieldLink "PeeledHash" (186 : Nat) "PeeledHash$Reader" "text" "LPeeledHash$Text;") ∈ gtbl := g_in2 (List.mem_of_getElem? (i := 43) rfl) rfl
theorem flX8_186 : g_FL RX8 186 2 1 13 true true (.object "PeeledHash$Text") false := ⟨RX2, TX2, tyX2, gcl2, q2_43, by decide, rfl, rfl, rfl, fun h => absurd h (by decide)⟩
theorem q2_44 : (Jvm.Cond.fieldLink "PeeledHash$Reader" (24 : Nat) "PeeledHash$Reader" "lookupNumbers" "[I") ∈ gtbl := g_in2 (List.mem_of_getElem? (i := 44) rfl) rfl
theorem flX2_24 : g_FL RX2 24 2 2 13 true true (.array .int) true := ⟨RX2, TX2, tyX2, gcl2, q2_44, by decide, rfl, rfl, rfl, fun _ => rfl⟩
theorem q2_45 : (Jvm.Cond.fieldLink "PeeledHash" (390 : Nat) "PeeledHash$Reader" "lookupNumbers" "[I") ∈ gtbl := g_in2 (List.mem_of_getElem? (i := 45) rfl) rfl
theorem flX8_390 : g_FL RX8 390 2 2 13 true true (.array .int) false := ⟨RX2, TX2, tyX2, gcl2, q2_45, by decide, rfl, rfl, rfl, fun h => absurd h (by decide)⟩
theorem q2_46 : (Jvm.Cond.fieldLink "PeeledHash$Reader" (27 : Nat) "PeeledHash$Reader" "lookupIsDegree" "[Z") ∈ gtbl := g_in2 (List.mem_of_getElem? (i := 46) rfl) rfl
theorem flX2_27 : g_FL RX2 27 2 3 13 true true (.array .boolean) true := ⟨RX2, TX2, tyX2, gcl2, q2_46, by decide, rfl, rfl, rfl, fun _ => rfl⟩
theorem q2_47 : (Jvm.Cond.fieldLink "PeeledHash" (393 : Nat) "PeeledHash$Reader" "lookupIsDegree" "[Z") ∈ gtbl := g_in2 (List.mem_of_getElem? (i := 47) rfl) rfl
theorem flX8_393 : g_FL RX8 393 2 3 13 true true (.array .boolean) false := ⟨RX2, TX2, tyX2, gcl2, q2_47, by decide, rfl, rfl, rfl, fun h => absurd h (by decide)⟩
theorem q2_48 : (Jvm.Cond.fieldLink "PeeledHash$Reader" (56 : Nat) "PeeledHash$Reader" "lookups" "I") ∈ gtbl := g_in2 (List.mem_of_getElem? (i := 48) rfl) rfl
theorem flX2_56 : g_FL RX2 56 2 4 13 false false (.int) true := ⟨RX2, TX2, tyX2, gcl2, q2_48, by decide, rfl, rfl, rfl, fun _ => rfl⟩
theorem q2_49 : (Jvm.Cond.fieldLink "PeeledHash" (387 : Nat) "PeeledHash$Reader" "lookups" "I") ∈ gtbl := g_in2 (List.mem_of_getElem? (i := 49) rfl) rfl
theorem flX8_387 : g_FL RX8 387 2 4 13 false false (.int) false := ⟨RX2, TX2, tyX2, gcl2, q2_49, by decide, rfl, rfl, rfl, fun h => absurd h (by decide)⟩
theorem q2_50 : (Jvm.Cond.fieldLink "PeeledHash$Reader" (44 : Nat) "PeeledHash$Reader" "length" "I") ∈ gtbl := g_in2 (List.mem_of_getElem? (i := 50) rfl) rfl
theorem flX2_44 : g_FL RX2 44 2 5 13 false false (.int) true := ⟨RX2, TX2, tyX2, gcl2, q2_50, by decide, rfl, rfl, rfl, fun _ => rfl⟩
theorem q2_51 : (Jvm.Cond.fieldLink "PeeledHash" (158 : Nat) "PeeledHash$Reader" "length" "I") ∈ gtbl := g_in2 (List.mem_of_getElem? (i := 51) rfl) rfl
theorem flX8_158 : g_FL RX8 158 2 5 13 false false (.int) false := ⟨RX2, TX2, tyX2, gcl2, q2_51, by decide, rfl, rfl, rfl, fun h => absurd h (by decide)⟩
theorem q2_52 : (Jvm.Cond.fieldLink "PeeledHash$Reader" (31 : Nat) "PeeledHash$Reader" "fault" "I") ∈ gtbl := g_in2 (List.mem_of_getElem? (i := 52) rfl) rfl
theorem flX2_31 : g_FL RX2 31 2 6 13 false false (.int) true := ⟨RX2, TX2, tyX2, gcl2, q2_52, by decide, rfl, rfl, rfl, fun _ => rfl⟩
theorem q2_53 : (Jvm.Cond.fieldLink "PeeledHash" (212 : Nat) "PeeledHash$Reader" "fault" "I") ∈ gtbl := g_in2 (List.mem_of_getElem? (i := 53) rfl) rfl
theorem flX8_212 : g_FL RX8 212 2 6 13 false false (.int) false := ⟨RX2, TX2, tyX2, gcl2, q2_53, by decide, rfl, rfl, rfl, fun h => absurd h (by decide)⟩
theorem q2_54 : (Jvm.Cond.fieldLink "PeeledHash$Reader" (35 : Nat) "PeeledHash$Reader" "tokens" "[I") ∈ gtbl := g_in2 (List.mem_of_getElem? (i := 54) rfl) rfl
theorem flX2_35 : g_FL RX2 35 2 7 13 true true (.array .int) true := ⟨RX2, TX2, tyX2, gcl2, q2_54, by decide, rfl, rfl, rfl, fun _ => rfl⟩
theorem q2_55 : (Jvm.Cond.fieldLink "PeeledHash$Reader" (38 : Nat) "PeeledHash$Reader" "starts" "[I") ∈ gtbl := g_in2 (List.mem_of_getElem? (i := 55) rfl) rfl
theorem flX2_38 : g_FL RX2 38 2 8 13 true true (.array .int) true := ⟨RX2, TX2, tyX2, gcl2, q2_55, by decide, rfl, rfl, rfl, fun _ => rfl⟩
theorem q2_56 : (Jvm.Cond.fieldLink "PeeledHash$Reader" (41 : Nat) "PeeledHash$Reader" "numbers" "[I") ∈ gtbl := g_in2 (List.mem_of_getElem? (i := 56) rfl) rfl
theorem flX2_41 : g_FL RX2 41 2 9 13 true true (.array .int) true := ⟨RX2, TX2, tyX2, gcl2, q2_56, by decide, rfl, rfl, rfl, fun _ => rfl⟩
theorem q2_57 : (Jvm.Cond.fieldLink "PeeledHash$Reader" (50 : Nat) "PeeledHash$Reader" "at" "I") ∈ gtbl := g_in2 (List.mem_of_getElem? (i := 57) rfl) rfl
theorem flX2_50 : g_FL RX2 50 2 10 13 false false (.int) true := ⟨RX2, TX2, tyX2, gcl2, q2_57, by decide, rfl, rfl, rfl, fun _ => rfl⟩
theorem q2_58 : (Jvm.Cond.fieldLink "PeeledHash$Reader" (53 : Nat) "PeeledHash$Reader" "pieces" "I") ∈ gtbl := g_in2 (List.mem_of_getElem? (i := 58) rfl) rfl
theorem flX2_53 : g_FL RX2 53 2 11 13 false false (.int) true := ⟨RX2, TX2, tyX2, gcl2, q2_58, by decide, rfl, rfl, rfl, fun _ => rfl⟩
theorem q2_59 : (Jvm.Cond.fieldLink "PeeledHash$Reader" (59 : Nat) "PeeledHash$Reader" "ofOrders" "Z") ∈ gtbl := g_in2 (List.mem_of_getElem? (i := 59) rfl) rfl
theorem flX2_59 : g_FL RX2 59 2 12 13 false false (.boolean) true := ⟨RX2, TX2, tyX2, gcl2, q2_59, by decide, rfl, rfl, rfl, fun _ => rfl⟩
theorem q2_93 : (Jvm.Cond.fieldLink "PeeledHash" (14 : Nat) "PeeledHash" "now" "LPeeledHash$Whole;") ∈ gtbl := g_in2 (List.mem_of_getElem? (i := 93) rfl) rfl
theorem flX8_14 : g_FL RX8 14 8 0 17 true true (.object "PeeledHash$Whole") true := ⟨RX8, TX8, tyX8, gcl8, q2_93, by decide, rfl, rfl, rfl, fun _ => rfl⟩
theorem q2_94 : (Jvm.Cond.fieldLink "PeeledHash" (18 : Nat) "PeeledHash" "images" "[LPeeledHash$Whole;") ∈ gtbl := g_in2 (List.mem_of_getElem? (i := 94) rfl) rfl
theorem flX8_18 : g_FL RX8 18 8 1 17 true true (.array (.object "PeeledHash$Whole")) true := ⟨RX8, TX8, tyX8, gcl8, q2_94, by decide, rfl, rfl, rfl, fun _ => rfl⟩
theorem q2_95 : (Jvm.Cond.fieldLink "PeeledHash" (25 : Nat) "PeeledHash" "past" "LPeeledHash$History;") ∈ gtbl := g_in2 (List.mem_of_getElem? (i := 95) rfl) rfl
theorem flX8_25 : g_FL RX8 25 8 2 17 true true (.object "PeeledHash$History") true := ⟨RX8, TX8, tyX8, gcl8, q2_95, by decide, rfl, rfl, rfl, fun _ => rfl⟩
theorem q2_96 : (Jvm.Cond.fieldLink "PeeledHash" (29 : Nat) "PeeledHash" "recent" "LPeeledHash$History;") ∈ gtbl := g_in2 (List.mem_of_getElem? (i := 96) rfl) rfl
theorem flX8_29 : g_FL RX8 29 8 3 17 true true (.object "PeeledHash$History") true := ⟨RX8, TX8, tyX8, gcl8, q2_96, by decide, rfl, rfl, rfl, fun _ => rfl⟩
theorem q2_97 : (Jvm.Cond.fieldLink "PeeledHash" (35 : Nat) "PeeledHash" "ahead" "LPeeledHash$State;") ∈ gtbl := g_in2 (List.mem_of_getElem? (i := 97) rfl) rfl
theorem flX8_35 : g_FL RX8 35 8 4 17 true true (.object "PeeledHash$State") true := ⟨RX8, TX8, tyX8, gcl8, q2_97, by decide, rfl, rfl, rfl, fun _ => rfl⟩
theorem q2_98 : (Jvm.Cond.fieldLink "PeeledHash" (39 : Nat) "PeeledHash" "paper" "LPeeledHash$State;") ∈ gtbl := g_in2 (List.mem_of_getElem? (i := 98) rfl) rfl
theorem flX8_39 : g_FL RX8 39 8 5 17 true true (.object "PeeledHash$State") true := ⟨RX8, TX8, tyX8, gcl8, q2_98, by decide, rfl, rfl, rfl, fun _ => rfl⟩
theorem q2_99 : (Jvm.Cond.fieldLink "PeeledHash" (45 : Nat) "PeeledHash" "sums" "LPeeledHash$Sums;") ∈ gtbl := g_in2 (List.mem_of_getElem? (i := 99) rfl) rfl
theorem flX8_45 : g_FL RX8 45 8 6 17 true true (.object "PeeledHash$Sums") true := ⟨RX8, TX8, tyX8, gcl8, q2_99, by decide, rfl, rfl, rfl, fun _ => rfl⟩
theorem q2_100 : (Jvm.Cond.fieldLink "PeeledHash" (54 : Nat) "PeeledHash" "peeler" "LPeeledHash$Peeler;") ∈ gtbl := g_in2 (List.mem_of_getElem? (i := 100) rfl) rfl
theorem flX8_54 : g_FL RX8 54 8 7 17 true true (.object "PeeledHash$Peeler") true := ⟨RX8, TX8, tyX8, gcl8, q2_100, by decide, rfl, rfl, rfl, fun _ => rfl⟩
theorem q2_101 : (Jvm.Cond.fieldLink "PeeledHash" (61 : Nat) "PeeledHash" "reader" "LPeeledHash$Reader;") ∈ gtbl := g_in2 (List.mem_of_getElem? (i := 101) rfl) rfl
theorem flX8_61 : g_FL RX8 61 8 8 17 true true (.object "PeeledHash$Reader") true := ⟨RX8, TX8, tyX8, gcl8, q2_101, by decide, rfl, rfl, rfl, fun _ => rfl⟩
theorem q2_102 : (Jvm.Cond.fieldLink "PeeledHash" (70 : Nat) "PeeledHash" "noLaw" "LPeeledHash$Text;") ∈ gtbl := g_in2 (List.mem_of_getElem? (i := 102) rfl) rfl
theorem flX8_70 : g_FL RX8 70 8 9 17 true true (.object "PeeledHash$Text") true := ⟨RX8, TX8, tyX8, gcl8, q2_102, by decide, rfl, rfl, rfl, fun _ => rfl⟩
theorem q2_103 : (Jvm.Cond.fieldLink "PeeledHash" (74 : Nat) "PeeledHash" "drawn" "[I") ∈ gtbl := g_in2 (List.mem_of_getElem? (i := 103) rfl) rfl
theorem flX8_74 : g_FL RX8 74 8 10 17 true true (.array .int) true := ⟨RX8, TX8, tyX8, gcl8, q2_103, by decide, rfl, rfl, rfl, fun _ => rfl⟩
theorem q2_104 : (Jvm.Cond.fieldLink "PeeledHash" (78 : Nat) "PeeledHash" "refused" "[I") ∈ gtbl := g_in2 (List.mem_of_getElem? (i := 104) rfl) rfl
theorem flX8_78 : g_FL RX8 78 8 11 17 true true (.array .int) true := ⟨RX8, TX8, tyX8, gcl8, q2_104, by decide, rfl, rfl, rfl, fun _ => rfl⟩
theorem q2_105 : (Jvm.Cond.fieldLink "PeeledHash" (81 : Nat) "PeeledHash" "possible" "[I") ∈ gtbl := g_in2 (List.mem_of_getElem? (i := 105) rfl) rfl
theorem flX8_81 : g_FL RX8 81 8 12 17 true true (.array .int) true := ⟨RX8, TX8, tyX8, gcl8, q2_105, by decide, rfl, rfl, rfl, fun _ => rfl⟩
theorem q2_106 : (Jvm.Cond.fieldLink "PeeledHash" (84 : Nat) "PeeledHash" "chances" "[J") ∈ gtbl := g_in2 (List.mem_of_getElem? (i := 106) rfl) rfl
theorem flX8_84 : g_FL RX8 84 8 13 17 true true (.array .long) true := ⟨RX8, TX8, tyX8, gcl8, q2_106, by decide, rfl, rfl, rfl, fun _ => rfl⟩
theorem q2_107 : (Jvm.Cond.fieldLink "PeeledHash" (88 : Nat) "PeeledHash" "stopped" "I") ∈ gtbl := g_in2 (List.mem_of_getElem? (i := 107) rfl) rfl
theorem flX8_88 : g_FL RX8 88 8 14 17 false false (.int) true := ⟨RX8, TX8, tyX8, gcl8, q2_107, by decide, rfl, rfl, rfl, fun _ => rfl⟩
theorem q2_108 : (Jvm.Cond.fieldLink "PeeledHash" (165 : Nat) "PeeledHash" "blanks" "I") ∈ gtbl := g_in2 (List.mem_of_getElem? (i := 108) rfl) rfl
theorem flX8_165 : g_FL RX8 165 8 15 17 false false (.int) true := ⟨RX8, TX8, tyX8, gcl8, q2_108, by decide, rfl, rfl, rfl, fun _ => rfl⟩
theorem q2_109 : (Jvm.Cond.fieldLink "PeeledHash" (338 : Nat) "PeeledHash" "status" "I") ∈ gtbl := g_in2 (List.mem_of_getElem? (i := 109) rfl) rfl
theorem flX8_338 : g_FL RX8 338 8 16 17 false false (.int) true := ⟨RX8, TX8, tyX8, gcl8, q2_109, by decide, rfl, rfl, rfl, fun _ => rfl⟩
theorem q5_2 : (Jvm.Cond.fieldLink "PeeledHashModel" (3 : Nat) "PeeledHashModel" "status" "I") ∈ gtbl := g_in5 (List.mem_of_getElem? (i := 2) rfl) rfl
theorem flX9_3 : g_FL RX9 3 9 0 50 false false (.int) true := ⟨RX9, TX9, tyX9, gcl9, q5_2, by decide, rfl, rfl, rfl, fun _ => rfl⟩
theorem q5_3 : (Jvm.Cond.fieldLink "PeeledHashModel" (7 : Nat) "PeeledHashModel" "refused" "[I") ∈ gtbl := g_in5 (List.mem_of_getElem? (i := 3) rfl) rfl
theorem flX9_7 : g_FL RX9 7 9 1 50 true true (.array .int) true := ⟨RX9, TX9, tyX9, gcl9, q5_3, by decide, rfl, rfl, rfl, fun _ => rfl⟩
theorem q5_4 : (Jvm.Cond.fieldLink "PeeledHashModel" (28 : Nat) "PeeledHashModel" "kept" "[I") ∈ gtbl := g_in5 (List.mem_of_getElem? (i := 4) rfl) rfl
theorem flX9_28 : g_FL RX9 28 9 2 50 true true (.array .int) true := ⟨RX9, TX9, tyX9, gcl9, q5_4, by decide, rfl, rfl, rfl, fun _ => rfl⟩
theorem q5_5 : (Jvm.Cond.fieldLink "PeeledHashModel" (31 : Nat) "PeeledHashModel" "images" "[I") ∈ gtbl := g_in5 (List.mem_of_getElem? (i := 5) rfl) rfl
theorem flX9_31 : g_FL RX9 31 9 3 50 true true (.array .int) true := ⟨RX9, TX9, tyX9, gcl9, q5_5, by decide, rfl, rfl, rfl, fun _ => rfl⟩
theorem q5_6 : (Jvm.Cond.fieldLink "PeeledHashModel" (34 : Nat) "PeeledHashModel" "hasImage" "[Z") ∈ gtbl := g_in5 (List.mem_of_getElem? (i := 6) rfl) rfl
theorem flX9_34 : g_FL RX9 34 9 4 50 true true (.array .boolean) true := ⟨RX9, TX9, tyX9, gcl9, q5_6, by decide, rfl, rfl, rfl, fun _ => rfl⟩
theorem q5_7 : (Jvm.Cond.fieldLink "PeeledHashModel" (38 : Nat) "PeeledHashModel" "aside" "[I") ∈ gtbl := g_in5 (List.mem_of_getElem? (i := 7) rfl) rfl
theorem flX9_38 : g_FL RX9 38 9 5 50 true true (.array .int) true := ⟨RX9, TX9, tyX9, gcl9, q5_7, by decide, rfl, rfl, rfl, fun _ => rfl⟩
theorem q5_8 : (Jvm.Cond.fieldLink "PeeledHashModel" (160 : Nat) "PeeledHashModel" "blanks0" "I") ∈ gtbl := g_in5 (List.mem_of_getElem? (i := 8) rfl) rfl
theorem flX9_160 : g_FL RX9 160 9 6 50 false false (.int) true := ⟨RX9, TX9, tyX9, gcl9, q5_8, by decide, rfl, rfl, rfl, fun _ => rfl⟩
theorem q5_9 : (Jvm.Cond.fieldLink "PeeledHashModel" (41 : Nat) "PeeledHashModel" "words" "[B") ∈ gtbl := g_in5 (List.mem_of_getElem? (i := 9) rfl) rfl
theorem flX9_41 : g_FL RX9 41 9 7 50 true true (.array .byte) true := ⟨RX9, TX9, tyX9, gcl9, q5_9, by decide, rfl, rfl, rfl, fun _ => rfl⟩
theorem q5_10 : (Jvm.Cond.fieldLink "PeeledHashModel" (238 : Nat) "PeeledHashModel" "firstWord" "I") ∈ gtbl := g_in5 (List.mem_of_getElem? (i := 10) rfl) rfl
theorem flX9_238 : g_FL RX9 238 9 8 50 false false (.int) true := ⟨RX9, TX9, tyX9, gcl9, q5_10, by decide, rfl, rfl, rfl, fun _ => rfl⟩
theorem q5_11 : (Jvm.Cond.fieldLink "PeeledHashModel" (241 : Nat) "PeeledHashModel" "lastWord" "I") ∈ gtbl := g_in5 (List.mem_of_getElem? (i := 11) rfl) rfl
theorem flX9_241 : g_FL RX9 241 9 9 50 false false (.int) true := ⟨RX9, TX9, tyX9, gcl9, q5_11, by decide, rfl, rfl, rfl, fun _ => rfl⟩
theorem q5_12 : (Jvm.Cond.fieldLink "PeeledHashModel" (212 : Nat) "PeeledHashModel" "isOrders" "Z") ∈ gtbl := g_in5 (List.mem_of_getElem? (i := 12) rfl) rfl
theorem flX9_212 : g_FL RX9 212 9 10 50 false false (.boolean) true := ⟨RX9, TX9, tyX9, gcl9, q5_12, by decide, rfl, rfl, rfl, fun _ => rfl⟩
theorem q5_13 : (Jvm.Cond.fieldLink "PeeledHashModel" (45 : Nat) "PeeledHashModel" "tape" "[B") ∈ gtbl := g_in5 (List.mem_of_getElem? (i := 13) rfl) rfl
theorem flX9_45 : g_FL RX9 45 9 11 50 true true (.array .byte) true := ⟨RX9, TX9, tyX9, gcl9, q5_13, by decide, rfl, rfl, rfl, fun _ => rfl⟩
theorem q5_14 : (Jvm.Cond.fieldLink "PeeledHashModel" (48 : Nat) "PeeledHashModel" "five" "[I") ∈ gtbl := g_in5 (List.mem_of_getElem? (i := 14) rfl) rfl
theorem flX9_48 : g_FL RX9 48 9 12 50 true true (.array .int) true := ⟨RX9, TX9, tyX9, gcl9, q5_14, by decide, rfl, rfl, rfl, fun _ => rfl⟩
theorem q5_15 : (Jvm.Cond.fieldLink "PeeledHashModel" (157 : Nat) "PeeledHashModel" "taped" "I") ∈ gtbl := g_in5 (List.mem_of_getElem? (i := 15) rfl) rfl
theorem flX9_157 : g_FL RX9 157 9 13 50 false false (.int) true := ⟨RX9, TX9, tyX9, gcl9, q5_15, by decide, rfl, rfl, rfl, fun _ => rfl⟩
theorem q5_16 : (Jvm.Cond.fieldLink "PeeledHashModel" (51 : Nat) "PeeledHashModel" "fault" "I") ∈ gtbl := g_in5 (List.mem_of_getElem? (i := 16) rfl) rfl
theorem flX9_51 : g_FL RX9 51 9 14 50 false false (.int) true := ⟨RX9, TX9, tyX9, gcl9, q5_16, by decide, rfl, rfl, rfl, fun _ => rfl⟩
theorem q5_17 : (Jvm.Cond.fieldLink "PeeledHashModel" (54 : Nat) "PeeledHashModel" "code" "[I") ∈ gtbl := g_in5 (List.mem_of_getElem? (i := 17) rfl) rfl
theorem flX9_54 : g_FL RX9 54 9 15 50 true true (.array .int) true := ⟨RX9, TX9, tyX9, gcl9, q5_17, by decide, rfl, rfl, rfl, fun _ => rfl⟩
theorem q5_18 : (Jvm.Cond.fieldLink "PeeledHashModel" (57 : Nat) "PeeledHashModel" "value" "[I") ∈ gtbl := g_in5 (List.mem_of_getElem? (i := 18) rfl) rfl
theorem flX9_57 : g_FL RX9 57 9 16 50 true true (.array .int) true := ⟨RX9, TX9, tyX9, gcl9, q5_18, by decide, rfl, rfl, rfl, fun _ => rfl⟩
theorem q5_19 : (Jvm.Cond.fieldLink "PeeledHashModel" (60 : Nat) "PeeledHashModel" "placed" "[I") ∈ gtbl := g_in5 (List.mem_of_getElem? (i := 19) rfl) rfl
theorem flX9_60 : g_FL RX9 60 9 17 50 true true (.array .int) true := ⟨RX9, TX9, tyX9, gcl9, q5_19, by decide, rfl, rfl, rfl, fun _ => rfl⟩
theorem q5_20 : (Jvm.Cond.fieldLink "PeeledHashModel" (166 : Nat) "PeeledHashModel" "tokens" "I") ∈ gtbl := g_in5 (List.mem_of_getElem? (i := 20) rfl) rfl
theorem flX9_166 : g_FL RX9 166 9 18 50 false false (.int) true := ⟨RX9, TX9, tyX9, gcl9, q5_20, by decide, rfl, rfl, rfl, fun _ => rfl⟩
theorem q5_21 : (Jvm.Cond.fieldLink "PeeledHashModel" (186 : Nat) "PeeledHashModel" "token" "I") ∈ gtbl := g_in5 (List.mem_of_getElem? (i := 21) rfl) rfl
theorem flX9_186 : g_FL RX9 186 9 19 50 false false (.int) true := ⟨RX9, TX9, tyX9, gcl9, q5_21, by decide, rfl, rfl, rfl, fun _ => rfl⟩
theorem q5_22 : (Jvm.Cond.fieldLink "PeeledHashModel" (195 : Nat) "PeeledHashModel" "leaves" "I") ∈ gtbl := g_in5 (List.mem_of_getElem? (i := 22) rfl) rfl
theorem flX9_195 : g_FL RX9 195 9 20 50 false false (.int) true := ⟨RX9, TX9, tyX9, gcl9, q5_22, by decide, rfl, rfl, rfl, fun _ => rfl⟩
theorem q5_23 : (Jvm.Cond.fieldLink "PeeledHashModel" (179 : Nat) "PeeledHashModel" "bad" "I") ∈ gtbl := g_in5 (List.mem_of_getElem? (i := 23) rfl) rfl
theorem flX9_179 : g_FL RX9 179 9 21 50 false false (.int) true := ⟨RX9, TX9, tyX9, gcl9, q5_23, by decide, rfl, rfl, rfl, fun _ => rfl⟩
theorem q5_24 : (Jvm.Cond.fieldLink "PeeledHashModel" (269 : Nat) "PeeledHashModel" "go" "I") ∈ gtbl := g_in5 (List.mem_of_getElem? (i := 24) rfl) rfl
theorem flX9_269 : g_FL RX9 269 9 22 50 false false (.int) true := ⟨RX9, TX9, tyX9, gcl9, q5_24, by decide, rfl, rfl, rfl, fun _ => rfl⟩
theorem q5_25 : (Jvm.Cond.fieldLink "PeeledHashModel" (266 : Nat) "PeeledHashModel" "goEnd" "I") ∈ gtbl := g_in5 (List.mem_of_getElem? (i := 25) rfl) rfl
theorem flX9_266 : g_FL RX9 266 9 23 50 false false (.int) true := ⟨RX9, TX9, tyX9, gcl9, q5_25, by decide, rfl, rfl, rfl, fun _ => rfl⟩
theorem q5_26 : (Jvm.Cond.fieldLink "PeeledHashModel" (279 : Nat) "PeeledHashModel" "broken" "Z") ∈ gtbl := g_in5 (List.mem_of_getElem? (i := 26) rfl) rfl
theorem flX9_279 : g_FL RX9 279 9 24 50 false false (.boolean) true := ⟨RX9, TX9, tyX9, gcl9, q5_26, by decide, rfl, rfl, rfl, fun _ => rfl⟩
theorem q5_27 : (Jvm.Cond.fieldLink "PeeledHashModel" (299 : Nat) "PeeledHashModel" "inOrders" "Z") ∈ gtbl := g_in5 (List.mem_of_getElem? (i := 27) rfl) rfl
theorem flX9_299 : g_FL RX9 299 9 25 50 false false (.boolean) true := ⟨RX9, TX9, tyX9, gcl9, q5_27, by decide, rfl, rfl, rfl, fun _ => rfl⟩
theorem q5_28 : (Jvm.Cond.fieldLink "PeeledHashModel" (63 : Nat) "PeeledHashModel" "asked" "[I") ∈ gtbl := g_in5 (List.mem_of_getElem? (i := 28) rfl) rfl
theorem flX9_63 : g_FL RX9 63 9 26 50 true true (.array .int) true := ⟨RX9, TX9, tyX9, gcl9, q5_28, by decide, rfl, rfl, rfl, fun _ => rfl⟩
theorem q5_29 : (Jvm.Cond.fieldLink "PeeledHashModel" (305 : Nat) "PeeledHashModel" "orderDone" "I") ∈ gtbl := g_in5 (List.mem_of_getElem? (i := 29) rfl) rfl
theorem flX9_305 : g_FL RX9 305 9 27 50 false false (.int) true := ⟨RX9, TX9, tyX9, gcl9, q5_29, by decide, rfl, rfl, rfl, fun _ => rfl⟩
theorem q5_30 : (Jvm.Cond.fieldLink "PeeledHashModel" (308 : Nat) "PeeledHashModel" "orderLatest" "I") ∈ gtbl := g_in5 (List.mem_of_getElem? (i := 30) rfl) rfl
theorem flX9_308 : g_FL RX9 308 9 28 50 false false (.int) true := ⟨RX9, TX9, tyX9, gcl9, q5_30, by decide, rfl, rfl, rfl, fun _ => rfl⟩
theorem q5_31 : (Jvm.Cond.fieldLink "PeeledHashModel" (66 : Nat) "PeeledHashModel" "leavers" "[I") ∈ gtbl := g_in5 (List.mem_of_getElem? (i := 31) rfl) rfl
theorem flX9_66 : g_FL RX9 66 9 29 50 true true (.array .int) true := ⟨RX9, TX9, tyX9, gcl9, q5_31, by decide, rfl, rfl, rfl, fun _ => rfl⟩
theorem q5_32 : (Jvm.Cond.fieldLink "PeeledHashModel" (69 : Nat) "PeeledHashModel" "freeOf" "[I") ∈ gtbl := g_in5 (List.mem_of_getElem? (i := 32) rfl) rfl
theorem flX9_69 : g_FL RX9 69 9 30 50 true true (.array .int) true := ⟨RX9, TX9, tyX9, gcl9, q5_32, by decide, rfl, rfl, rfl, fun _ => rfl⟩
theorem q5_33 : (Jvm.Cond.fieldLink "PeeledHashModel" (72 : Nat) "PeeledHashModel" "rank" "[I") ∈ gtbl := g_in5 (List.mem_of_getElem? (i := 33) rfl) rfl
theorem flX9_72 : g_FL RX9 72 9 31 50 true true (.array .int) true := ⟨RX9, TX9, tyX9, gcl9, q5_33, by decide, rfl, rfl, rfl, fun _ => rfl⟩
theorem q5_34 : (Jvm.Cond.fieldLink "PeeledHashModel" (75 : Nat) "PeeledHashModel" "verticesOf" "[I") ∈ gtbl := g_in5 (List.mem_of_getElem? (i := 34) rfl) rfl
theorem flX9_75 : g_FL RX9 75 9 32 50 true true (.array .int) true := ⟨RX9, TX9, tyX9, gcl9, q5_34, by decide, rfl, rfl, rfl, fun _ => rfl⟩
theorem q5_35 : (Jvm.Cond.fieldLink "PeeledHashModel" (78 : Nat) "PeeledHashModel" "leftOf" "[I") ∈ gtbl := g_in5 (List.mem_of_getElem? (i := 35) rfl) rfl
theorem flX9_78 : g_FL RX9 78 9 33 50 true true (.array .int) true := ⟨RX9, TX9, tyX9, gcl9, q5_35, by decide, rfl, rfl, rfl, fun _ => rfl⟩
theorem q5_36 : (Jvm.Cond.fieldLink "PeeledHashModel" (81 : Nat) "PeeledHashModel" "placesOf" "[I") ∈ gtbl := g_in5 (List.mem_of_getElem? (i := 36) rfl) rfl
theorem flX9_81 : g_FL RX9 81 9 34 50 true true (.array .int) true := ⟨RX9, TX9, tyX9, gcl9, q5_36, by decide, rfl, rfl, rfl, fun _ => rfl⟩
theorem q5_37 : (Jvm.Cond.fieldLink "PeeledHashModel" (338 : Nat) "PeeledHashModel" "leftMany" "I") ∈ gtbl := g_in5 (List.mem_of_getElem? (i := 37) rfl) rfl
theorem flX9_338 : g_FL RX9 338 9 35 50 false false (.int) true := ⟨RX9, TX9, tyX9, gcl9, q5_37, by decide, rfl, rfl, rfl, fun _ => rfl⟩
theorem q5_38 : (Jvm.Cond.fieldLink "PeeledHashModel" (84 : Nat) "PeeledHashModel" "left0" "[I") ∈ gtbl := g_in5 (List.mem_of_getElem? (i := 38) rfl) rfl
theorem flX9_84 : g_FL RX9 84 9 36 50 true true (.array .int) true := ⟨RX9, TX9, tyX9, gcl9, q5_38, by decide, rfl, rfl, rfl, fun _ => rfl⟩
theorem q5_39 : (Jvm.Cond.fieldLink "PeeledHashModel" (87 : Nat) "PeeledHashModel" "leftAhead" "[I") ∈ gtbl := g_in5 (List.mem_of_getElem? (i := 39) rfl) rfl
theorem flX9_87 : g_FL RX9 87 9 37 50 true true (.array .int) true := ⟨RX9, TX9, tyX9, gcl9, q5_39, by decide, rfl, rfl, rfl, fun _ => rfl⟩
theorem q5_40 : (Jvm.Cond.fieldLink "PeeledHashModel" (11 : Nat) "PeeledHashModel" "undoMany" "I") ∈ gtbl := g_in5 (List.mem_of_getElem? (i := 40) rfl) rfl
theorem flX9_11 : g_FL RX9 11 9 38 50 false false (.int) true := ⟨RX9, TX9, tyX9, gcl9, q5_40, by decide, rfl, rfl, rfl, fun _ => rfl⟩
theorem q5_41 : (Jvm.Cond.fieldLink "PeeledHashModel" (90 : Nat) "PeeledHashModel" "shares" "[J") ∈ gtbl := g_in5 (List.mem_of_getElem? (i := 41) rfl) rfl
theorem flX9_90 : g_FL RX9 90 9 39 50 true true (.array .long) true := ⟨RX9, TX9, tyX9, gcl9, q5_41, by decide, rfl, rfl, rfl, fun _ => rfl⟩
theorem q5_42 : (Jvm.Cond.fieldLink "PeeledHashModel" (94 : Nat) "PeeledHashModel" "stopped0" "I") ∈ gtbl := g_in5 (List.mem_of_getElem? (i := 42) rfl) rfl
theorem flX9_94 : g_FL RX9 94 9 40 50 false false (.int) true := ⟨RX9, TX9, tyX9, gcl9, q5_42, by decide, rfl, rfl, rfl, fun _ => rfl⟩
theorem q5_43 : (Jvm.Cond.fieldLink "PeeledHashModel" (440 : Nat) "PeeledHashModel" "orderAt" "I") ∈ gtbl := g_in5 (List.mem_of_getElem? (i := 43) rfl) rfl
theorem flX9_440 : g_FL RX9 440 9 41 50 false false (.int) true := ⟨RX9, TX9, tyX9, gcl9, q5_43, by decide, rfl, rfl, rfl, fun _ => rfl⟩
theorem q5_44 : (Jvm.Cond.fieldLink "PeeledHashModel" (455 : Nat) "PeeledHashModel" "howOften" "I") ∈ gtbl := g_in5 (List.mem_of_getElem? (i := 44) rfl) rfl
theorem flX9_455 : g_FL RX9 455 9 42 50 false false (.int) true := ⟨RX9, TX9, tyX9, gcl9, q5_44, by decide, rfl, rfl, rfl, fun _ => rfl⟩
theorem q5_45 : (Jvm.Cond.fieldLink "PeeledHashModel" (449 : Nat) "PeeledHashModel" "head" "I") ∈ gtbl := g_in5 (List.mem_of_getElem? (i := 45) rfl) rfl
theorem flX9_449 : g_FL RX9 449 9 43 50 false false (.int) true := ⟨RX9, TX9, tyX9, gcl9, q5_45, by decide, rfl, rfl, rfl, fun _ => rfl⟩
theorem q5_46 : (Jvm.Cond.fieldLink "PeeledHashModel" (452 : Nat) "PeeledHashModel" "sumsAre" "Z") ∈ gtbl := g_in5 (List.mem_of_getElem? (i := 46) rfl) rfl
theorem flX9_452 : g_FL RX9 452 9 44 50 false false (.boolean) true := ⟨RX9, TX9, tyX9, gcl9, q5_46, by decide, rfl, rfl, rfl, fun _ => rfl⟩
theorem q5_47 : (Jvm.Cond.fieldLink "PeeledHashModel" (458 : Nat) "PeeledHashModel" "testIs" "Z") ∈ gtbl := g_in5 (List.mem_of_getElem? (i := 47) rfl) rfl
theorem flX9_458 : g_FL RX9 458 9 45 50 false false (.boolean) true := ⟨RX9, TX9, tyX9, gcl9, q5_47, by decide, rfl, rfl, rfl, fun _ => rfl⟩
theorem q5_48 : (Jvm.Cond.fieldLink "PeeledHashModel" (97 : Nat) "PeeledHashModel" "sums" "[J") ∈ gtbl := g_in5 (List.mem_of_getElem? (i := 48) rfl) rfl
theorem flX9_97 : g_FL RX9 97 9 46 50 true true (.array .long) true := ⟨RX9, TX9, tyX9, gcl9, q5_48, by decide, rfl, rfl, rfl, fun _ => rfl⟩
theorem q5_49 : (Jvm.Cond.fieldLink "PeeledHashModel" (100 : Nat) "PeeledHashModel" "drawnNumbers" "[I") ∈ gtbl := g_in5 (List.mem_of_getElem? (i := 49) rfl) rfl
theorem flX9_100 : g_FL RX9 100 9 47 50 true true (.array .int) true := ⟨RX9, TX9, tyX9, gcl9, q5_49, by decide, rfl, rfl, rfl, fun _ => rfl⟩
theorem q5_50 : (Jvm.Cond.fieldLink "PeeledHashModel" (486 : Nat) "PeeledHashModel" "hasDrawn" "Z") ∈ gtbl := g_in5 (List.mem_of_getElem? (i := 50) rfl) rfl
theorem flX9_486 : g_FL RX9 486 9 48 50 false false (.boolean) true := ⟨RX9, TX9, tyX9, gcl9, q5_50, by decide, rfl, rfl, rfl, fun _ => rfl⟩
theorem q5_51 : (Jvm.Cond.fieldLink "PeeledHashModel" (476 : Nat) "PeeledHashModel" "latest" "I") ∈ gtbl := g_in5 (List.mem_of_getElem? (i := 51) rfl) rfl
theorem flX9_476 : g_FL RX9 476 9 49 50 false false (.int) true := ⟨RX9, TX9, tyX9, gcl9, q5_51, by decide, rfl, rfl, rfl, fun _ => rfl⟩
abbrev kX8_init : gK := (RX8, yX8_init, cX8_init, 2, none)
theorem q1_22 : (Jvm.Cond.code ({ cls := "PeeledHash", name := "<init>", desc := "()V" } : Jvm.MethodName) prog_1_method_1_code (2 : Nat) (Option.none : Option Jvm.ClassFile.FieldType)) ∈ gtbl := g_in1 (List.mem_of_getElem? (i := 22) rfl) rfl
theorem qcX8_init : Cond.code (kY kX8_init) (kB kX8_init) (kN kX8_init) (kR kX8_init) ∈ gtbl := q1_22
theorem q1_21 : (Jvm.Cond.instanceMethod ({ cls := "PeeledHash", name := "<init>", desc := "()V" } : Jvm.MethodName)) ∈ gtbl := g_in1 (List.mem_of_getElem? (i := 21) rfl) rfl
theorem imX8_init : Cond.instanceMethod (kY kX8_init) ∈ gtbl := q1_21
abbrev kX7_init : gK := (RX7, yX7_init, cX7_init, 1, none)
theorem q1_30 : (Jvm.Cond.code ({ cls := "PeeledHash$Whole", name := "<init>", desc := "()V" } : Jvm.MethodName) prog_9_method_1_code (1 : Nat) (Option.none : Option Jvm.ClassFile.FieldType)) ∈ gtbl := g_in1 (List.mem_of_getElem? (i := 30) rfl) rfl
theorem qcX7_init : Cond.code (kY kX7_init) (kB kX7_init) (kN kX7_init) (kR kX7_init) ∈ gtbl := q1_30
theorem q1_29 : (Jvm.Cond.instanceMethod ({ cls := "PeeledHash$Whole", name := "<init>", desc := "()V" } : Jvm.MethodName)) ∈ gtbl := g_in1 (List.mem_of_getElem? (i := 29) rfl) rfl
theorem imX7_init : Cond.instanceMethod (kY kX7_init) ∈ gtbl := q1_29
abbrev kX3_init : gK := (RX3, yX3_init, cX3_init, 1, none)
theorem q1_36 : (Jvm.Cond.code ({ cls := "PeeledHash$State", name := "<init>", desc := "()V" } : Jvm.MethodName) prog_5_method_1_code (1 : Nat) (Option.none : Option Jvm.ClassFile.FieldType)) ∈ gtbl := g_in1 (List.mem_of_getElem? (i := 36) rfl) rfl
theorem qcX3_init : Cond.code (kY kX3_init) (kB kX3_init) (kN kX3_init) (kR kX3_init) ∈ gtbl := q1_36
theorem q1_35 : (Jvm.Cond.instanceMethod ({ cls := "PeeledHash$State", name := "<init>", desc := "()V" } : Jvm.MethodName)) ∈ gtbl := g_in1 (List.mem_of_getElem? (i := 35) rfl) rfl
theorem imX3_init : Cond.instanceMethod (kY kX3_init) ∈ gtbl := q1_35
abbrev kX5_init : gK := (RX5, yX5_init, cX5_init, 1, none)
theorem q1_42 : (Jvm.Cond.code ({ cls := "PeeledHash$Table", name := "<init>", desc := "()V" } : Jvm.MethodName) prog_7_method_1_code (1 : Nat) (Option.none : Option Jvm.ClassFile.FieldType)) ∈ gtbl := g_in1 (List.mem_of_getElem? (i := 42) rfl) rfl
theorem qcX5_init : Cond.code (kY kX5_init) (kB kX5_init) (kN kX5_init) (kR kX5_init) ∈ gtbl := q1_42
theorem q1_41 : (Jvm.Cond.instanceMethod ({ cls := "PeeledHash$Table", name := "<init>", desc := "()V" } : Jvm.MethodName)) ∈ gtbl := g_in1 (List.mem_of_getElem? (i := 41) rfl) rfl
theorem imX5_init : Cond.instanceMethod (kY kX5_init) ∈ gtbl := q1_41
abbrev kX0_init : gK := (RX0, yX0_init, cX0_init, 2, none)
theorem q1_146 : (Jvm.Cond.code ({ cls := "PeeledHash$History", name := "<init>", desc := "()V" } : Jvm.MethodName) prog_2_method_1_code (2 : Nat) (Option.none : Option Jvm.ClassFile.FieldType)) ∈ gtbl := g_in1 (List.mem_of_getElem? (i := 146) rfl) rfl
theorem qcX0_init : Cond.code (kY kX0_init) (kB kX0_init) (kN kX0_init) (kR kX0_init) ∈ gtbl := q1_146
theorem q1_145 : (Jvm.Cond.instanceMethod ({ cls := "PeeledHash$History", name := "<init>", desc := "()V" } : Jvm.MethodName)) ∈ gtbl := g_in1 (List.mem_of_getElem? (i := 145) rfl) rfl
theorem imX0_init : Cond.instanceMethod (kY kX0_init) ∈ gtbl := q1_145
abbrev kX4_init : gK := (RX4, yX4_init, cX4_init, 1, none)
theorem q1_171 : (Jvm.Cond.code ({ cls := "PeeledHash$Sums", name := "<init>", desc := "()V" } : Jvm.MethodName) prog_6_method_1_code (1 : Nat) (Option.none : Option Jvm.ClassFile.FieldType)) ∈ gtbl := g_in1 (List.mem_of_getElem? (i := 171) rfl) rfl
theorem qcX4_init : Cond.code (kY kX4_init) (kB kX4_init) (kN kX4_init) (kR kX4_init) ∈ gtbl := q1_171
theorem q1_170 : (Jvm.Cond.instanceMethod ({ cls := "PeeledHash$Sums", name := "<init>", desc := "()V" } : Jvm.MethodName)) ∈ gtbl := g_in1 (List.mem_of_getElem? (i := 170) rfl) rfl
theorem imX4_init : Cond.instanceMethod (kY kX4_init) ∈ gtbl := q1_170
abbrev kX1_init : gK := (RX1, yX1_init, cX1_init, 2, none)
theorem q1_185 : (Jvm.Cond.code ({ cls := "PeeledHash$Peeler", name := "<init>", desc := "(LPeeledHash$Sums;)V" } : Jvm.MethodName) prog_3_method_1_code (2 : Nat) (Option.none : Option Jvm.ClassFile.FieldType)) ∈ gtbl := g_in1 (List.mem_of_getElem? (i := 185) rfl) rfl
theorem qcX1_init : Cond.code (kY kX1_init) (kB kX1_init) (kN kX1_init) (kR kX1_init) ∈ gtbl := q1_185
theorem q1_184 : (Jvm.Cond.instanceMethod ({ cls := "PeeledHash$Peeler", name := "<init>", desc := "(LPeeledHash$Sums;)V" } : Jvm.MethodName)) ∈ gtbl := g_in1 (List.mem_of_getElem? (i := 184) rfl) rfl
theorem imX1_init : Cond.instanceMethod (kY kX1_init) ∈ gtbl := q1_184
abbrev kX2_init : gK := (RX2, yX2_init, cX2_init, 1, none)
theorem q1_226 : (Jvm.Cond.code ({ cls := "PeeledHash$Reader", name := "<init>", desc := "()V" } : Jvm.MethodName) prog_4_method_1_code (1 : Nat) (Option.none : Option Jvm.ClassFile.FieldType)) ∈ gtbl := g_in1 (List.mem_of_getElem? (i := 226) rfl) rfl
theorem qcX2_init : Cond.code (kY kX2_init) (kB kX2_init) (kN kX2_init) (kR kX2_init) ∈ gtbl := q1_226
theorem q1_225 : (Jvm.Cond.instanceMethod ({ cls := "PeeledHash$Reader", name := "<init>", desc := "()V" } : Jvm.MethodName)) ∈ gtbl := g_in1 (List.mem_of_getElem? (i := 225) rfl) rfl
theorem imX2_init : Cond.instanceMethod (kY kX2_init) ∈ gtbl := q1_225
abbrev kX6_init : gK := (RX6, yX6_init, cX6_init, 5, none)
theorem q1_232 : (Jvm.Cond.code ({ cls := "PeeledHash$Text", name := "<init>", desc := "(II)V" } : Jvm.MethodName) prog_8_method_1_code (5 : Nat) (Option.none : Option Jvm.ClassFile.FieldType)) ∈ gtbl := g_in1 (List.mem_of_getElem? (i := 232) rfl) rfl
theorem qcX6_init : Cond.code (kY kX6_init) (kB kX6_init) (kN kX6_init) (kR kX6_init) ∈ gtbl := q1_232
theorem q1_231 : (Jvm.Cond.instanceMethod ({ cls := "PeeledHash$Text", name := "<init>", desc := "(II)V" } : Jvm.MethodName)) ∈ gtbl := g_in1 (List.mem_of_getElem? (i := 231) rfl) rfl
theorem imX6_init : Cond.instanceMethod (kY kX6_init) ∈ gtbl := q1_231
abbrev kJ9_max_7cf53 : gK := (RJ9, yJ9_max_7cf53, cJ9_max_7cf53, 2, some .int)
theorem q1_236 : (Jvm.Cond.code ({ cls := "java/lang/Math", name := "max", desc := "(II)I" } : Jvm.MethodName) prog_12_method_65_code (2 : Nat) (Option.some Jvm.ClassFile.FieldType.int)) ∈ gtbl := g_in1 (List.mem_of_getElem? (i := 236) rfl) rfl
theorem qcJ9_max_7cf53 : Cond.code (kY kJ9_max_7cf53) (kB kJ9_max_7cf53) (kN kJ9_max_7cf53) (kR kJ9_max_7cf53) ∈ gtbl := q1_236
theorem q1_235 : (Jvm.Cond.static ({ cls := "java/lang/Math", name := "max", desc := "(II)I" } : Jvm.MethodName)) ∈ gtbl := g_in1 (List.mem_of_getElem? (i := 235) rfl) rfl
theorem smJ9_max_7cf53 : Cond.static (kY kJ9_max_7cf53) ∈ gtbl := q1_235
abbrev kJ7_fill_53178 : gK := (RJ7, yJ7_fill_53178, cJ7_fill_53178, 4, none)
theorem q2_92 : (Jvm.Cond.code ({ cls := "java/util/Arrays", name := "fill", desc := "([II)V" } : Jvm.MethodName) prog_17_method_103_code (4 : Nat) (Option.none : Option Jvm.ClassFile.FieldType)) ∈ gtbl := g_in2 (List.mem_of_getElem? (i := 92) rfl) rfl
theorem qcJ7_fill_53178 : Cond.code (kY kJ7_fill_53178) (kB kJ7_fill_53178) (kN kJ7_fill_53178) (kR kJ7_fill_53178) ∈ gtbl := q2_92
theorem q2_91 : (Jvm.Cond.static ({ cls := "java/util/Arrays", name := "fill", desc := "([II)V" } : Jvm.MethodName)) ∈ gtbl := g_in2 (List.mem_of_getElem? (i := 91) rfl) rfl
theorem smJ7_fill_53178 : Cond.static (kY kJ7_fill_53178) ∈ gtbl := q2_91
abbrev kX8_key : gK := (RX8, yX8_key, cX8_key, 4, some .int)
theorem q2_149 : (Jvm.Cond.code ({ cls := "PeeledHash", name := "key", desc := "(II)I" } : Jvm.MethodName) prog_1_method_2_code (4 : Nat) (Option.some Jvm.ClassFile.FieldType.int)) ∈ gtbl := g_in2 (List.mem_of_getElem? (i := 149) rfl) rfl
theorem qcX8_key : Cond.code (kY kX8_key) (kB kX8_key) (kN kX8_key) (kR kX8_key) ∈ gtbl := q2_149
theorem q2_147 : (Jvm.Cond.instanceMethod ({ cls := "PeeledHash", name := "key", desc := "(II)I" } : Jvm.MethodName)) ∈ gtbl := g_in2 (List.mem_of_getElem? (i := 147) rfl) rfl
theorem imX8_key : Cond.instanceMethod (kY kX8_key) ∈ gtbl := q2_147
theorem q2_148 : (Jvm.Cond.selects "PeeledHash" ({ cls := "PeeledHash", name := "key", desc := "(II)I" } : Jvm.MethodName) ({ cls := "PeeledHash", name := "key", desc := "(II)I" } : Jvm.MethodName)) ∈ gtbl := g_in2 (List.mem_of_getElem? (i := 148) rfl) rfl
theorem seX8_key : Cond.selects RX8 (kY kX8_key) (kY kX8_key) ∈ gtbl := q2_148
abbrev kX8_isKey : gK := (RX8, yX8_isKey, cX8_isKey, 1, some .boolean)
theorem q2_152 : (Jvm.Cond.code ({ cls := "PeeledHash", name := "isKey", desc := "(I)Z" } : Jvm.MethodName) prog_1_method_57_code (1 : Nat) (Option.some Jvm.ClassFile.FieldType.boolean)) ∈ gtbl := g_in2 (List.mem_of_getElem? (i := 152) rfl) rfl
theorem qcX8_isKey : Cond.code (kY kX8_isKey) (kB kX8_isKey) (kN kX8_isKey) (kR kX8_isKey) ∈ gtbl := q2_152
theorem q2_151 : (Jvm.Cond.static ({ cls := "PeeledHash", name := "isKey", desc := "(I)Z" } : Jvm.MethodName)) ∈ gtbl := g_in2 (List.mem_of_getElem? (i := 151) rfl) rfl
theorem smX8_isKey : Cond.static (kY kX8_isKey) ∈ gtbl := q2_151
abbrev kX3_has : gK := (RX3, yX3_has, cX3_has, 3, some .boolean)
theorem q2_156 : (Jvm.Cond.code ({ cls := "PeeledHash$State", name := "has", desc := "(I)Z" } : Jvm.MethodName) prog_5_method_4_code (3 : Nat) (Option.some Jvm.ClassFile.FieldType.boolean)) ∈ gtbl := g_in2 (List.mem_of_getElem? (i := 156) rfl) rfl
theorem qcX3_has : Cond.code (kY kX3_has) (kB kX3_has) (kN kX3_has) (kR kX3_has) ∈ gtbl := q2_156
theorem q2_154 : (Jvm.Cond.instanceMethod ({ cls := "PeeledHash$State", name := "has", desc := "(I)Z" } : Jvm.MethodName)) ∈ gtbl := g_in2 (List.mem_of_getElem? (i := 154) rfl) rfl
theorem imX3_has : Cond.instanceMethod (kY kX3_has) ∈ gtbl := q2_154
theorem q2_155 : (Jvm.Cond.selects "PeeledHash$State" ({ cls := "PeeledHash$State", name := "has", desc := "(I)Z" } : Jvm.MethodName) ({ cls := "PeeledHash$State", name := "has", desc := "(I)Z" } : Jvm.MethodName)) ∈ gtbl := g_in2 (List.mem_of_getElem? (i := 155) rfl) rfl
theorem seX3_has : Cond.selects RX3 (kY kX3_has) (kY kX3_has) ∈ gtbl := q2_155
abbrev kX3_lowerThan : gK := (RX3, yX3_lowerThan, cX3_lowerThan, 4, some .int)
theorem q2_160 : (Jvm.Cond.code ({ cls := "PeeledHash$State", name := "lowerThan", desc := "(I)I" } : Jvm.MethodName) prog_5_method_3_code (4 : Nat) (Option.some Jvm.ClassFile.FieldType.int)) ∈ gtbl := g_in2 (List.mem_of_getElem? (i := 160) rfl) rfl
theorem qcX3_lowerThan : Cond.code (kY kX3_lowerThan) (kB kX3_lowerThan) (kN kX3_lowerThan) (kR kX3_lowerThan) ∈ gtbl := q2_160
theorem q2_158 : (Jvm.Cond.instanceMethod ({ cls := "PeeledHash$State", name := "lowerThan", desc := "(I)I" } : Jvm.MethodName)) ∈ gtbl := g_in2 (List.mem_of_getElem? (i := 158) rfl) rfl
theorem imX3_lowerThan : Cond.instanceMethod (kY kX3_lowerThan) ∈ gtbl := q2_158
theorem q2_159 : (Jvm.Cond.selects "PeeledHash$State" ({ cls := "PeeledHash$State", name := "lowerThan", desc := "(I)I" } : Jvm.MethodName) ({ cls := "PeeledHash$State", name := "lowerThan", desc := "(I)I" } : Jvm.MethodName)) ∈ gtbl := g_in2 (List.mem_of_getElem? (i := 159) rfl) rfl
theorem seX3_lowerThan : Cond.selects RX3 (kY kX3_lowerThan) (kY kX3_lowerThan) ∈ gtbl := q2_159
abbrev kX8_lawInForce : gK := (RX8, yX8_lawInForce, cX8_lawInForce, 1, some (.object "PeeledHash$Text"))
theorem q2_164 : (Jvm.Cond.code ({ cls := "PeeledHash", name := "lawInForce", desc := "()LPeeledHash$Text;" } : Jvm.MethodName) prog_1_method_45_code (1 : Nat) (Option.some (Jvm.ClassFile.FieldType.object "PeeledHash$Text"))) ∈ gtbl := g_in2 (List.mem_of_getElem? (i := 164) rfl) rfl
theorem qcX8_lawInForce : Cond.code (kY kX8_lawInForce) (kB kX8_lawInForce) (kN kX8_lawInForce) (kR kX8_lawInForce) ∈ gtbl := q2_164
theorem q2_163 : (Jvm.Cond.instanceMethod ({ cls := "PeeledHash", name := "lawInForce", desc := "()LPeeledHash$Text;" } : Jvm.MethodName)) ∈ gtbl := g_in2 (List.mem_of_getElem? (i := 163) rfl) rfl
theorem imX8_lawInForce : Cond.instanceMethod (kY kX8_lawInForce) ∈ gtbl := q2_163
abbrev kX8_lawNumbered : gK := (RX8, yX8_lawNumbered, cX8_lawNumbered, 3, some (.object "PeeledHash$Text"))
theorem q2_168 : (Jvm.Cond.code ({ cls := "PeeledHash", name := "lawNumbered", desc := "(I)LPeeledHash$Text;" } : Jvm.MethodName) prog_1_method_44_code (3 : Nat) (Option.some (Jvm.ClassFile.FieldType.object "PeeledHash$Text"))) ∈ gtbl := g_in2 (List.mem_of_getElem? (i := 168) rfl) rfl
theorem qcX8_lawNumbered : Cond.code (kY kX8_lawNumbered) (kB kX8_lawNumbered) (kN kX8_lawNumbered) (kR kX8_lawNumbered) ∈ gtbl := q2_168
theorem q2_167 : (Jvm.Cond.instanceMethod ({ cls := "PeeledHash", name := "lawNumbered", desc := "(I)LPeeledHash$Text;" } : Jvm.MethodName)) ∈ gtbl := g_in2 (List.mem_of_getElem? (i := 167) rfl) rfl
theorem imX8_lawNumbered : Cond.instanceMethod (kY kX8_lawNumbered) ∈ gtbl := q2_167
abbrev kX4_isBarred : gK := (RX4, yX4_isBarred, cX4_isBarred, 5, some .boolean)
theorem q2_172 : (Jvm.Cond.code ({ cls := "PeeledHash$Sums", name := "isBarred", desc := "(LPeeledHash$Text;LPeeledHash$State;I)Z" } : Jvm.MethodName) prog_6_method_3_code (5 : Nat) (Option.some Jvm.ClassFile.FieldType.boolean)) ∈ gtbl := g_in2 (List.mem_of_getElem? (i := 172) rfl) rfl
theorem qcX4_isBarred : Cond.code (kY kX4_isBarred) (kB kX4_isBarred) (kN kX4_isBarred) (kR kX4_isBarred) ∈ gtbl := q2_172
theorem q2_170 : (Jvm.Cond.instanceMethod ({ cls := "PeeledHash$Sums", name := "isBarred", desc := "(LPeeledHash$Text;LPeeledHash$State;I)Z" } : Jvm.MethodName)) ∈ gtbl := g_in2 (List.mem_of_getElem? (i := 170) rfl) rfl
theorem imX4_isBarred : Cond.instanceMethod (kY kX4_isBarred) ∈ gtbl := q2_170
theorem q2_171 : (Jvm.Cond.selects "PeeledHash$Sums" ({ cls := "PeeledHash$Sums", name := "isBarred", desc := "(LPeeledHash$Text;LPeeledHash$State;I)Z" } : Jvm.MethodName) ({ cls := "PeeledHash$Sums", name := "isBarred", desc := "(LPeeledHash$Text;LPeeledHash$State;I)Z" } : Jvm.MethodName)) ∈ gtbl := g_in2 (List.mem_of_getElem? (i := 171) rfl) rfl
theorem seX4_isBarred : Cond.selects RX4 (kY kX4_isBarred) (kY kX4_isBarred) ∈ gtbl := q2_171
abbrev kX4_tellLaw : gK := (RX4, yX4_tellLaw, cX4_tellLaw, 3, none)
theorem q2_176 : (Jvm.Cond.code ({ cls := "PeeledHash$Sums", name := "tellLaw", desc := "(LPeeledHash$State;I)V" } : Jvm.MethodName) prog_6_method_4_code (3 : Nat) (Option.none : Option Jvm.ClassFile.FieldType)) ∈ gtbl := g_in2 (List.mem_of_getElem? (i := 176) rfl) rfl
theorem qcX4_tellLaw : Cond.code (kY kX4_tellLaw) (kB kX4_tellLaw) (kN kX4_tellLaw) (kR kX4_tellLaw) ∈ gtbl := q2_176
theorem q2_175 : (Jvm.Cond.instanceMethod ({ cls := "PeeledHash$Sums", name := "tellLaw", desc := "(LPeeledHash$State;I)V" } : Jvm.MethodName)) ∈ gtbl := g_in2 (List.mem_of_getElem? (i := 175) rfl) rfl
theorem imX4_tellLaw : Cond.instanceMethod (kY kX4_tellLaw) ∈ gtbl := q2_175
abbrev kX4_valueOf : gK := (RX4, yX4_valueOf, cX4_valueOf, 9, some .int)
theorem q2_180 : (Jvm.Cond.code ({ cls := "PeeledHash$Sums", name := "valueOf", desc := "(LPeeledHash$Text;I)I" } : Jvm.MethodName) prog_6_method_5_code (9 : Nat) (Option.some Jvm.ClassFile.FieldType.int)) ∈ gtbl := g_in2 (List.mem_of_getElem? (i := 180) rfl) rfl
theorem qcX4_valueOf : Cond.code (kY kX4_valueOf) (kB kX4_valueOf) (kN kX4_valueOf) (kR kX4_valueOf) ∈ gtbl := q2_180
theorem q2_178 : (Jvm.Cond.instanceMethod ({ cls := "PeeledHash$Sums", name := "valueOf", desc := "(LPeeledHash$Text;I)I" } : Jvm.MethodName)) ∈ gtbl := g_in2 (List.mem_of_getElem? (i := 178) rfl) rfl
theorem imX4_valueOf : Cond.instanceMethod (kY kX4_valueOf) ∈ gtbl := q2_178
theorem q2_179 : (Jvm.Cond.selects "PeeledHash$Sums" ({ cls := "PeeledHash$Sums", name := "valueOf", desc := "(LPeeledHash$Text;I)I" } : Jvm.MethodName) ({ cls := "PeeledHash$Sums", name := "valueOf", desc := "(LPeeledHash$Text;I)I" } : Jvm.MethodName)) ∈ gtbl := g_in2 (List.mem_of_getElem? (i := 179) rfl) rfl
theorem seX4_valueOf : Cond.selects RX4 (kY kX4_valueOf) (kY kX4_valueOf) ∈ gtbl := q2_179
abbrev kX4_combined : gK := (RX4, yX4_combined, cX4_combined, 5, some .int)
theorem q2_184 : (Jvm.Cond.code ({ cls := "PeeledHash$Sums", name := "combined", desc := "(III)I" } : Jvm.MethodName) prog_6_method_6_code (5 : Nat) (Option.some Jvm.ClassFile.FieldType.int)) ∈ gtbl := g_in2 (List.mem_of_getElem? (i := 184) rfl) rfl
theorem qcX4_combined : Cond.code (kY kX4_combined) (kB kX4_combined) (kN kX4_combined) (kR kX4_combined) ∈ gtbl := q2_184
theorem q2_183 : (Jvm.Cond.static ({ cls := "PeeledHash$Sums", name := "combined", desc := "(III)I" } : Jvm.MethodName)) ∈ gtbl := g_in2 (List.mem_of_getElem? (i := 183) rfl) rfl
theorem smX4_combined : Cond.static (kY kX4_combined) ∈ gtbl := q2_183
abbrev kX8_vertexOf : gK := (RX8, yX8_vertexOf, cX8_vertexOf, 5, some .int)
theorem q2_189 : (Jvm.Cond.code ({ cls := "PeeledHash", name := "vertexOf", desc := "(IIII)I" } : Jvm.MethodName) prog_1_method_59_code (5 : Nat) (Option.some Jvm.ClassFile.FieldType.int)) ∈ gtbl := g_in2 (List.mem_of_getElem? (i := 189) rfl) rfl
theorem qcX8_vertexOf : Cond.code (kY kX8_vertexOf) (kB kX8_vertexOf) (kN kX8_vertexOf) (kR kX8_vertexOf) ∈ gtbl := q2_189
theorem q2_188 : (Jvm.Cond.static ({ cls := "PeeledHash", name := "vertexOf", desc := "(IIII)I" } : Jvm.MethodName)) ∈ gtbl := g_in2 (List.mem_of_getElem? (i := 188) rfl) rfl
theorem smX8_vertexOf : Cond.static (kY kX8_vertexOf) ∈ gtbl := q2_188
abbrev kX8_vertex : gK := (RX8, yX8_vertex, cX8_vertex, 5, some .int)
theorem q2_193 : (Jvm.Cond.code ({ cls := "PeeledHash", name := "vertex", desc := "(II)I" } : Jvm.MethodName) prog_1_method_3_code (5 : Nat) (Option.some Jvm.ClassFile.FieldType.int)) ∈ gtbl := g_in2 (List.mem_of_getElem? (i := 193) rfl) rfl
theorem qcX8_vertex : Cond.code (kY kX8_vertex) (kB kX8_vertex) (kN kX8_vertex) (kR kX8_vertex) ∈ gtbl := q2_193
theorem q2_191 : (Jvm.Cond.instanceMethod ({ cls := "PeeledHash", name := "vertex", desc := "(II)I" } : Jvm.MethodName)) ∈ gtbl := g_in2 (List.mem_of_getElem? (i := 191) rfl) rfl
theorem imX8_vertex : Cond.instanceMethod (kY kX8_vertex) ∈ gtbl := q2_191
theorem q2_192 : (Jvm.Cond.selects "PeeledHash" ({ cls := "PeeledHash", name := "vertex", desc := "(II)I" } : Jvm.MethodName) ({ cls := "PeeledHash", name := "vertex", desc := "(II)I" } : Jvm.MethodName)) ∈ gtbl := g_in2 (List.mem_of_getElem? (i := 192) rfl) rfl
theorem seX8_vertex : Cond.selects RX8 (kY kX8_vertex) (kY kX8_vertex) ∈ gtbl := q2_192
abbrev kX3_hasVertex : gK := (RX3, yX3_hasVertex, cX3_hasVertex, 2, some .boolean)
theorem q2_197 : (Jvm.Cond.code ({ cls := "PeeledHash$State", name := "hasVertex", desc := "(I)Z" } : Jvm.MethodName) prog_5_method_7_code (2 : Nat) (Option.some Jvm.ClassFile.FieldType.boolean)) ∈ gtbl := g_in2 (List.mem_of_getElem? (i := 197) rfl) rfl
theorem qcX3_hasVertex : Cond.code (kY kX3_hasVertex) (kB kX3_hasVertex) (kN kX3_hasVertex) (kR kX3_hasVertex) ∈ gtbl := q2_197
theorem q2_195 : (Jvm.Cond.instanceMethod ({ cls := "PeeledHash$State", name := "hasVertex", desc := "(I)Z" } : Jvm.MethodName)) ∈ gtbl := g_in2 (List.mem_of_getElem? (i := 195) rfl) rfl
theorem imX3_hasVertex : Cond.instanceMethod (kY kX3_hasVertex) ∈ gtbl := q2_195
theorem q2_196 : (Jvm.Cond.selects "PeeledHash$State" ({ cls := "PeeledHash$State", name := "hasVertex", desc := "(I)Z" } : Jvm.MethodName) ({ cls := "PeeledHash$State", name := "hasVertex", desc := "(I)Z" } : Jvm.MethodName)) ∈ gtbl := g_in2 (List.mem_of_getElem? (i := 196) rfl) rfl
theorem seX3_hasVertex : Cond.selects RX3 (kY kX3_hasVertex) (kY kX3_hasVertex) ∈ gtbl := q2_196
abbrev kX3_degreeOf : gK := (RX3, yX3_degreeOf, cX3_degreeOf, 4, some .int)
theorem q2_201 : (Jvm.Cond.code ({ cls := "PeeledHash$State", name := "degreeOf", desc := "(I)I" } : Jvm.MethodName) prog_5_method_9_code (4 : Nat) (Option.some Jvm.ClassFile.FieldType.int)) ∈ gtbl := g_in2 (List.mem_of_getElem? (i := 201) rfl) rfl
theorem qcX3_degreeOf : Cond.code (kY kX3_degreeOf) (kB kX3_degreeOf) (kN kX3_degreeOf) (kR kX3_degreeOf) ∈ gtbl := q2_201
theorem q2_199 : (Jvm.Cond.instanceMethod ({ cls := "PeeledHash$State", name := "degreeOf", desc := "(I)I" } : Jvm.MethodName)) ∈ gtbl := g_in2 (List.mem_of_getElem? (i := 199) rfl) rfl
theorem imX3_degreeOf : Cond.instanceMethod (kY kX3_degreeOf) ∈ gtbl := q2_199
theorem q2_200 : (Jvm.Cond.selects "PeeledHash$State" ({ cls := "PeeledHash$State", name := "degreeOf", desc := "(I)I" } : Jvm.MethodName) ({ cls := "PeeledHash$State", name := "degreeOf", desc := "(I)I" } : Jvm.MethodName)) ∈ gtbl := g_in2 (List.mem_of_getElem? (i := 200) rfl) rfl
theorem seX3_degreeOf : Cond.selects RX3 (kY kX3_degreeOf) (kY kX3_degreeOf) ∈ gtbl := q2_200
abbrev kX3_keyHas : gK := (RX3, yX3_keyHas, cX3_keyHas, 3, some .boolean)
theorem q2_206 : (Jvm.Cond.code ({ cls := "PeeledHash$State", name := "keyHas", desc := "(II)Z" } : Jvm.MethodName) prog_5_method_8_code (3 : Nat) (Option.some Jvm.ClassFile.FieldType.boolean)) ∈ gtbl := g_in2 (List.mem_of_getElem? (i := 206) rfl) rfl
theorem qcX3_keyHas : Cond.code (kY kX3_keyHas) (kB kX3_keyHas) (kN kX3_keyHas) (kR kX3_keyHas) ∈ gtbl := q2_206
theorem q2_204 : (Jvm.Cond.instanceMethod ({ cls := "PeeledHash$State", name := "keyHas", desc := "(II)Z" } : Jvm.MethodName)) ∈ gtbl := g_in2 (List.mem_of_getElem? (i := 204) rfl) rfl
theorem imX3_keyHas : Cond.instanceMethod (kY kX3_keyHas) ∈ gtbl := q2_204
theorem q2_205 : (Jvm.Cond.selects "PeeledHash$State" ({ cls := "PeeledHash$State", name := "keyHas", desc := "(II)Z" } : Jvm.MethodName) ({ cls := "PeeledHash$State", name := "keyHas", desc := "(II)Z" } : Jvm.MethodName)) ∈ gtbl := g_in2 (List.mem_of_getElem? (i := 205) rfl) rfl
theorem seX3_keyHas : Cond.selects RX3 (kY kX3_keyHas) (kY kX3_keyHas) ∈ gtbl := q2_205
abbrev kX4_rankOf : gK := (RX4, yX4_rankOf, cX4_rankOf, 9, some .int)
theorem q2_211 : (Jvm.Cond.code ({ cls := "PeeledHash$Sums", name := "rankOf", desc := "(LPeeledHash$Text;LPeeledHash$State;III)I" } : Jvm.MethodName) prog_6_method_2_code (9 : Nat) (Option.some Jvm.ClassFile.FieldType.int)) ∈ gtbl := g_in2 (List.mem_of_getElem? (i := 211) rfl) rfl
theorem qcX4_rankOf : Cond.code (kY kX4_rankOf) (kB kX4_rankOf) (kN kX4_rankOf) (kR kX4_rankOf) ∈ gtbl := q2_211
theorem q2_209 : (Jvm.Cond.instanceMethod ({ cls := "PeeledHash$Sums", name := "rankOf", desc := "(LPeeledHash$Text;LPeeledHash$State;III)I" } : Jvm.MethodName)) ∈ gtbl := g_in2 (List.mem_of_getElem? (i := 209) rfl) rfl
theorem imX4_rankOf : Cond.instanceMethod (kY kX4_rankOf) ∈ gtbl := q2_209
theorem q2_210 : (Jvm.Cond.selects "PeeledHash$Sums" ({ cls := "PeeledHash$Sums", name := "rankOf", desc := "(LPeeledHash$Text;LPeeledHash$State;III)I" } : Jvm.MethodName) ({ cls := "PeeledHash$Sums", name := "rankOf", desc := "(LPeeledHash$Text;LPeeledHash$State;III)I" } : Jvm.MethodName)) ∈ gtbl := g_in2 (List.mem_of_getElem? (i := 210) rfl) rfl
theorem seX4_rankOf : Cond.selects RX4 (kY kX4_rankOf) (kY kX4_rankOf) ∈ gtbl := q2_210
abbrev kX8_there : gK := (RX8, yX8_there, cX8_there, 3, some .int)
theorem q2_215 : (Jvm.Cond.code ({ cls := "PeeledHash", name := "there", desc := "(I)I" } : Jvm.MethodName) prog_1_method_4_code (3 : Nat) (Option.some Jvm.ClassFile.FieldType.int)) ∈ gtbl := g_in2 (List.mem_of_getElem? (i := 215) rfl) rfl
theorem qcX8_there : Cond.code (kY kX8_there) (kB kX8_there) (kN kX8_there) (kR kX8_there) ∈ gtbl := q2_215
theorem q2_213 : (Jvm.Cond.instanceMethod ({ cls := "PeeledHash", name := "there", desc := "(I)I" } : Jvm.MethodName)) ∈ gtbl := g_in2 (List.mem_of_getElem? (i := 213) rfl) rfl
theorem imX8_there : Cond.instanceMethod (kY kX8_there) ∈ gtbl := q2_213
theorem q2_214 : (Jvm.Cond.selects "PeeledHash" ({ cls := "PeeledHash", name := "there", desc := "(I)I" } : Jvm.MethodName) ({ cls := "PeeledHash", name := "there", desc := "(I)I" } : Jvm.MethodName)) ∈ gtbl := g_in2 (List.mem_of_getElem? (i := 214) rfl) rfl
theorem seX8_there : Cond.selects RX8 (kY kX8_there) (kY kX8_there) ∈ gtbl := q2_214
abbrev kX8_ceiling : gK := (RX8, yX8_ceiling, cX8_ceiling, 4, some .int)
theorem q2_219 : (Jvm.Cond.code ({ cls := "PeeledHash", name := "ceiling", desc := "(I)I" } : Jvm.MethodName) prog_1_method_5_code (4 : Nat) (Option.some Jvm.ClassFile.FieldType.int)) ∈ gtbl := g_in2 (List.mem_of_getElem? (i := 219) rfl) rfl
theorem qcX8_ceiling : Cond.code (kY kX8_ceiling) (kB kX8_ceiling) (kN kX8_ceiling) (kR kX8_ceiling) ∈ gtbl := q2_219
theorem q2_217 : (Jvm.Cond.instanceMethod ({ cls := "PeeledHash", name := "ceiling", desc := "(I)I" } : Jvm.MethodName)) ∈ gtbl := g_in2 (List.mem_of_getElem? (i := 217) rfl) rfl
theorem imX8_ceiling : Cond.instanceMethod (kY kX8_ceiling) ∈ gtbl := q2_217
theorem q2_218 : (Jvm.Cond.selects "PeeledHash" ({ cls := "PeeledHash", name := "ceiling", desc := "(I)I" } : Jvm.MethodName) ({ cls := "PeeledHash", name := "ceiling", desc := "(I)I" } : Jvm.MethodName)) ∈ gtbl := g_in2 (List.mem_of_getElem? (i := 218) rfl) rfl
theorem seX8_ceiling : Cond.selects RX8 (kY kX8_ceiling) (kY kX8_ceiling) ∈ gtbl := q2_218
abbrev kX8_terms : gK := (RX8, yX8_terms, cX8_terms, 5, some .int)
theorem q2_224 : (Jvm.Cond.code ({ cls := "PeeledHash", name := "terms", desc := "(II)I" } : Jvm.MethodName) prog_1_method_6_code (5 : Nat) (Option.some Jvm.ClassFile.FieldType.int)) ∈ gtbl := g_in2 (List.mem_of_getElem? (i := 224) rfl) rfl
theorem qcX8_terms : Cond.code (kY kX8_terms) (kB kX8_terms) (kN kX8_terms) (kR kX8_terms) ∈ gtbl := q2_224
theorem q2_222 : (Jvm.Cond.instanceMethod ({ cls := "PeeledHash", name := "terms", desc := "(II)I" } : Jvm.MethodName)) ∈ gtbl := g_in2 (List.mem_of_getElem? (i := 222) rfl) rfl
theorem imX8_terms : Cond.instanceMethod (kY kX8_terms) ∈ gtbl := q2_222
theorem q2_223 : (Jvm.Cond.selects "PeeledHash" ({ cls := "PeeledHash", name := "terms", desc := "(II)I" } : Jvm.MethodName) ({ cls := "PeeledHash", name := "terms", desc := "(II)I" } : Jvm.MethodName)) ∈ gtbl := g_in2 (List.mem_of_getElem? (i := 223) rfl) rfl
theorem seX8_terms : Cond.selects RX8 (kY kX8_terms) (kY kX8_terms) ∈ gtbl := q2_223
abbrev kX8_refuse : gK := (RX8, yX8_refuse, cX8_refuse, 2, some .int)
theorem q2_228 : (Jvm.Cond.code ({ cls := "PeeledHash", name := "refuse", desc := "(I)I" } : Jvm.MethodName) prog_1_method_41_code (2 : Nat) (Option.some Jvm.ClassFile.FieldType.int)) ∈ gtbl := g_in2 (List.mem_of_getElem? (i := 228) rfl) rfl
theorem qcX8_refuse : Cond.code (kY kX8_refuse) (kB kX8_refuse) (kN kX8_refuse) (kR kX8_refuse) ∈ gtbl := q2_228
theorem q2_227 : (Jvm.Cond.instanceMethod ({ cls := "PeeledHash", name := "refuse", desc := "(I)I" } : Jvm.MethodName)) ∈ gtbl := g_in2 (List.mem_of_getElem? (i := 227) rfl) rfl
theorem imX8_refuse : Cond.instanceMethod (kY kX8_refuse) ∈ gtbl := q2_227
abbrev kX0_clear : gK := (RX0, yX0_clear, cX0_clear, 1, none)
theorem q2_232 : (Jvm.Cond.code ({ cls := "PeeledHash$History", name := "clear", desc := "()V" } : Jvm.MethodName) prog_2_method_2_code (1 : Nat) (Option.none : Option Jvm.ClassFile.FieldType)) ∈ gtbl := g_in2 (List.mem_of_getElem? (i := 232) rfl) rfl
theorem qcX0_clear : Cond.code (kY kX0_clear) (kB kX0_clear) (kN kX0_clear) (kR kX0_clear) ∈ gtbl := q2_232
theorem q2_230 : (Jvm.Cond.instanceMethod ({ cls := "PeeledHash$History", name := "clear", desc := "()V" } : Jvm.MethodName)) ∈ gtbl := g_in2 (List.mem_of_getElem? (i := 230) rfl) rfl
theorem imX0_clear : Cond.instanceMethod (kY kX0_clear) ∈ gtbl := q2_230
theorem q2_231 : (Jvm.Cond.selects "PeeledHash$History" ({ cls := "PeeledHash$History", name := "clear", desc := "()V" } : Jvm.MethodName) ({ cls := "PeeledHash$History", name := "clear", desc := "()V" } : Jvm.MethodName)) ∈ gtbl := g_in2 (List.mem_of_getElem? (i := 231) rfl) rfl
theorem seX0_clear : Cond.selects RX0 (kY kX0_clear) (kY kX0_clear) ∈ gtbl := q2_231
abbrev kX8_accept : gK := (RX8, yX8_accept, cX8_accept, 2, some .int)
theorem q2_236 : (Jvm.Cond.code ({ cls := "PeeledHash", name := "accept", desc := "(I)I" } : Jvm.MethodName) prog_1_method_42_code (2 : Nat) (Option.some Jvm.ClassFile.FieldType.int)) ∈ gtbl := g_in2 (List.mem_of_getElem? (i := 236) rfl) rfl
theorem qcX8_accept : Cond.code (kY kX8_accept) (kB kX8_accept) (kN kX8_accept) (kR kX8_accept) ∈ gtbl := q2_236
theorem q2_235 : (Jvm.Cond.instanceMethod ({ cls := "PeeledHash", name := "accept", desc := "(I)I" } : Jvm.MethodName)) ∈ gtbl := g_in2 (List.mem_of_getElem? (i := 235) rfl) rfl
theorem imX8_accept : Cond.instanceMethod (kY kX8_accept) ∈ gtbl := q2_235
abbrev kX8_feed : gK := (RX8, yX8_feed, cX8_feed, 6, some .int)
theorem q3_0 : (Jvm.Cond.code ({ cls := "PeeledHash", name := "feed", desc := "(IIIII)I" } : Jvm.MethodName) prog_1_method_7_code (6 : Nat) (Option.some Jvm.ClassFile.FieldType.int)) ∈ gtbl := g_in3 (List.mem_of_getElem? (i := 0) rfl) rfl
theorem qcX8_feed : Cond.code (kY kX8_feed) (kB kX8_feed) (kN kX8_feed) (kR kX8_feed) ∈ gtbl := q3_0
theorem q2_238 : (Jvm.Cond.instanceMethod ({ cls := "PeeledHash", name := "feed", desc := "(IIIII)I" } : Jvm.MethodName)) ∈ gtbl := g_in2 (List.mem_of_getElem? (i := 238) rfl) rfl
theorem imX8_feed : Cond.instanceMethod (kY kX8_feed) ∈ gtbl := q2_238
theorem q2_239 : (Jvm.Cond.selects "PeeledHash" ({ cls := "PeeledHash", name := "feed", desc := "(IIIII)I" } : Jvm.MethodName) ({ cls := "PeeledHash", name := "feed", desc := "(IIIII)I" } : Jvm.MethodName)) ∈ gtbl := g_in2 (List.mem_of_getElem? (i := 239) rfl) rfl
theorem seX8_feed : Cond.selects RX8 (kY kX8_feed) (kY kX8_feed) ∈ gtbl := q2_239
abbrev kX2_append : gK := (RX2, yX2_append, cX2_append, 3, none)
theorem q3_4 : (Jvm.Cond.code ({ cls := "PeeledHash$Reader", name := "append", desc := "(I)V" } : Jvm.MethodName) prog_4_method_2_code (3 : Nat) (Option.none : Option Jvm.ClassFile.FieldType)) ∈ gtbl := g_in3 (List.mem_of_getElem? (i := 4) rfl) rfl
theorem qcX2_append : Cond.code (kY kX2_append) (kB kX2_append) (kN kX2_append) (kR kX2_append) ∈ gtbl := q3_4
theorem q3_2 : (Jvm.Cond.instanceMethod ({ cls := "PeeledHash$Reader", name := "append", desc := "(I)V" } : Jvm.MethodName)) ∈ gtbl := g_in3 (List.mem_of_getElem? (i := 2) rfl) rfl
theorem imX2_append : Cond.instanceMethod (kY kX2_append) ∈ gtbl := q3_2
theorem q3_3 : (Jvm.Cond.selects "PeeledHash$Reader" ({ cls := "PeeledHash$Reader", name := "append", desc := "(I)V" } : Jvm.MethodName) ({ cls := "PeeledHash$Reader", name := "append", desc := "(I)V" } : Jvm.MethodName)) ∈ gtbl := g_in3 (List.mem_of_getElem? (i := 3) rfl) rfl
theorem seX2_append : Cond.selects RX2 (kY kX2_append) (kY kX2_append) ∈ gtbl := q3_3
abbrev kX8_end : gK := (RX8, yX8_end, cX8_end, 2, some .int)
theorem q3_8 : (Jvm.Cond.code ({ cls := "PeeledHash", name := "end", desc := "(I)I" } : Jvm.MethodName) prog_1_method_8_code (2 : Nat) (Option.some Jvm.ClassFile.FieldType.int)) ∈ gtbl := g_in3 (List.mem_of_getElem? (i := 8) rfl) rfl
theorem qcX8_end : Cond.code (kY kX8_end) (kB kX8_end) (kN kX8_end) (kR kX8_end) ∈ gtbl := q3_8
theorem q3_6 : (Jvm.Cond.instanceMethod ({ cls := "PeeledHash", name := "end", desc := "(I)I" } : Jvm.MethodName)) ∈ gtbl := g_in3 (List.mem_of_getElem? (i := 6) rfl) rfl
theorem imX8_end : Cond.instanceMethod (kY kX8_end) ∈ gtbl := q3_6
theorem q3_7 : (Jvm.Cond.selects "PeeledHash" ({ cls := "PeeledHash", name := "end", desc := "(I)I" } : Jvm.MethodName) ({ cls := "PeeledHash", name := "end", desc := "(I)I" } : Jvm.MethodName)) ∈ gtbl := g_in3 (List.mem_of_getElem? (i := 7) rfl) rfl
theorem seX8_end : Cond.selects RX8 (kY kX8_end) (kY kX8_end) ∈ gtbl := q3_7
abbrev kX8_row : gK := (RX8, yX8_row, cX8_row, 5, some .int)
theorem q3_12 : (Jvm.Cond.code ({ cls := "PeeledHash", name := "row", desc := "()I" } : Jvm.MethodName) prog_1_method_9_code (5 : Nat) (Option.some Jvm.ClassFile.FieldType.int)) ∈ gtbl := g_in3 (List.mem_of_getElem? (i := 12) rfl) rfl
theorem qcX8_row : Cond.code (kY kX8_row) (kB kX8_row) (kN kX8_row) (kR kX8_row) ∈ gtbl := q3_12
theorem q3_10 : (Jvm.Cond.instanceMethod ({ cls := "PeeledHash", name := "row", desc := "()I" } : Jvm.MethodName)) ∈ gtbl := g_in3 (List.mem_of_getElem? (i := 10) rfl) rfl
theorem imX8_row : Cond.instanceMethod (kY kX8_row) ∈ gtbl := q3_10
theorem q3_11 : (Jvm.Cond.selects "PeeledHash" ({ cls := "PeeledHash", name := "row", desc := "()I" } : Jvm.MethodName) ({ cls := "PeeledHash", name := "row", desc := "()I" } : Jvm.MethodName)) ∈ gtbl := g_in3 (List.mem_of_getElem? (i := 11) rfl) rfl
theorem seX8_row : Cond.selects RX8 (kY kX8_row) (kY kX8_row) ∈ gtbl := q3_11
abbrev kX8_addTo : gK := (RX8, yX8_addTo, cX8_addTo, 3, some .int)
theorem q3_16 : (Jvm.Cond.code ({ cls := "PeeledHash", name := "addTo", desc := "(LPeeledHash$State;I)I" } : Jvm.MethodName) prog_1_method_48_code (3 : Nat) (Option.some Jvm.ClassFile.FieldType.int)) ∈ gtbl := g_in3 (List.mem_of_getElem? (i := 16) rfl) rfl
theorem qcX8_addTo : Cond.code (kY kX8_addTo) (kB kX8_addTo) (kN kX8_addTo) (kR kX8_addTo) ∈ gtbl := q3_16
theorem q3_15 : (Jvm.Cond.instanceMethod ({ cls := "PeeledHash", name := "addTo", desc := "(LPeeledHash$State;I)I" } : Jvm.MethodName)) ∈ gtbl := g_in3 (List.mem_of_getElem? (i := 15) rfl) rfl
theorem imX8_addTo : Cond.instanceMethod (kY kX8_addTo) ∈ gtbl := q3_15
abbrev kX3_insert : gK := (RX3, yX3_insert, cX3_insert, 4, none)
theorem q3_20 : (Jvm.Cond.code ({ cls := "PeeledHash$State", name := "insert", desc := "(I)V" } : Jvm.MethodName) prog_5_method_5_code (4 : Nat) (Option.none : Option Jvm.ClassFile.FieldType)) ∈ gtbl := g_in3 (List.mem_of_getElem? (i := 20) rfl) rfl
theorem qcX3_insert : Cond.code (kY kX3_insert) (kB kX3_insert) (kN kX3_insert) (kR kX3_insert) ∈ gtbl := q3_20
theorem q3_18 : (Jvm.Cond.instanceMethod ({ cls := "PeeledHash$State", name := "insert", desc := "(I)V" } : Jvm.MethodName)) ∈ gtbl := g_in3 (List.mem_of_getElem? (i := 18) rfl) rfl
theorem imX3_insert : Cond.instanceMethod (kY kX3_insert) ∈ gtbl := q3_18
theorem q3_19 : (Jvm.Cond.selects "PeeledHash$State" ({ cls := "PeeledHash$State", name := "insert", desc := "(I)V" } : Jvm.MethodName) ({ cls := "PeeledHash$State", name := "insert", desc := "(I)V" } : Jvm.MethodName)) ∈ gtbl := g_in3 (List.mem_of_getElem? (i := 19) rfl) rfl
theorem seX3_insert : Cond.selects RX3 (kY kX3_insert) (kY kX3_insert) ∈ gtbl := q3_19
abbrev kX8_blanks : gK := (RX8, yX8_blanks, cX8_blanks, 1, some .int)
theorem q3_24 : (Jvm.Cond.code ({ cls := "PeeledHash", name := "blanks", desc := "()I" } : Jvm.MethodName) prog_1_method_10_code (1 : Nat) (Option.some Jvm.ClassFile.FieldType.int)) ∈ gtbl := g_in3 (List.mem_of_getElem? (i := 24) rfl) rfl
theorem qcX8_blanks : Cond.code (kY kX8_blanks) (kB kX8_blanks) (kN kX8_blanks) (kR kX8_blanks) ∈ gtbl := q3_24
theorem q3_22 : (Jvm.Cond.instanceMethod ({ cls := "PeeledHash", name := "blanks", desc := "()I" } : Jvm.MethodName)) ∈ gtbl := g_in3 (List.mem_of_getElem? (i := 22) rfl) rfl
theorem imX8_blanks : Cond.instanceMethod (kY kX8_blanks) ∈ gtbl := q3_22
theorem q3_23 : (Jvm.Cond.selects "PeeledHash" ({ cls := "PeeledHash", name := "blanks", desc := "()I" } : Jvm.MethodName) ({ cls := "PeeledHash", name := "blanks", desc := "()I" } : Jvm.MethodName)) ∈ gtbl := g_in3 (List.mem_of_getElem? (i := 23) rfl) rfl
theorem seX8_blanks : Cond.selects RX8 (kY kX8_blanks) (kY kX8_blanks) ∈ gtbl := q3_23
abbrev kX8_law : gK := (RX8, yX8_law, cX8_law, 1, some .int)
theorem q3_28 : (Jvm.Cond.code ({ cls := "PeeledHash", name := "law", desc := "()I" } : Jvm.MethodName) prog_1_method_11_code (1 : Nat) (Option.some Jvm.ClassFile.FieldType.int)) ∈ gtbl := g_in3 (List.mem_of_getElem? (i := 28) rfl) rfl
theorem qcX8_law : Cond.code (kY kX8_law) (kB kX8_law) (kN kX8_law) (kR kX8_law) ∈ gtbl := q3_28
theorem q3_26 : (Jvm.Cond.instanceMethod ({ cls := "PeeledHash", name := "law", desc := "()I" } : Jvm.MethodName)) ∈ gtbl := g_in3 (List.mem_of_getElem? (i := 26) rfl) rfl
theorem imX8_law : Cond.instanceMethod (kY kX8_law) ∈ gtbl := q3_26
theorem q3_27 : (Jvm.Cond.selects "PeeledHash" ({ cls := "PeeledHash", name := "law", desc := "()I" } : Jvm.MethodName) ({ cls := "PeeledHash", name := "law", desc := "()I" } : Jvm.MethodName)) ∈ gtbl := g_in3 (List.mem_of_getElem? (i := 27) rfl) rfl
theorem seX8_law : Cond.selects RX8 (kY kX8_law) (kY kX8_law) ∈ gtbl := q3_27
abbrev kX2_read : gK := (RX2, yX2_read, cX2_read, 3, some .boolean)
theorem q3_32 : (Jvm.Cond.code ({ cls := "PeeledHash$Reader", name := "read", desc := "(Z)Z" } : Jvm.MethodName) prog_4_method_3_code (3 : Nat) (Option.some Jvm.ClassFile.FieldType.boolean)) ∈ gtbl := g_in3 (List.mem_of_getElem? (i := 32) rfl) rfl
theorem qcX2_read : Cond.code (kY kX2_read) (kB kX2_read) (kN kX2_read) (kR kX2_read) ∈ gtbl := q3_32
theorem q3_30 : (Jvm.Cond.instanceMethod ({ cls := "PeeledHash$Reader", name := "read", desc := "(Z)Z" } : Jvm.MethodName)) ∈ gtbl := g_in3 (List.mem_of_getElem? (i := 30) rfl) rfl
theorem imX2_read : Cond.instanceMethod (kY kX2_read) ∈ gtbl := q3_30
theorem q3_31 : (Jvm.Cond.selects "PeeledHash$Reader" ({ cls := "PeeledHash$Reader", name := "read", desc := "(Z)Z" } : Jvm.MethodName) ({ cls := "PeeledHash$Reader", name := "read", desc := "(Z)Z" } : Jvm.MethodName)) ∈ gtbl := g_in3 (List.mem_of_getElem? (i := 31) rfl) rfl
theorem seX2_read : Cond.selects RX2 (kY kX2_read) (kY kX2_read) ∈ gtbl := q3_31
abbrev kX2_splitIntoTokens : gK := (RX2, yX2_splitIntoTokens, cX2_splitIntoTokens, 5, none)
theorem q3_36 : (Jvm.Cond.code ({ cls := "PeeledHash$Reader", name := "splitIntoTokens", desc := "()V" } : Jvm.MethodName) prog_4_method_4_code (5 : Nat) (Option.none : Option Jvm.ClassFile.FieldType)) ∈ gtbl := g_in3 (List.mem_of_getElem? (i := 36) rfl) rfl
theorem qcX2_splitIntoTokens : Cond.code (kY kX2_splitIntoTokens) (kB kX2_splitIntoTokens) (kN kX2_splitIntoTokens) (kR kX2_splitIntoTokens) ∈ gtbl := q3_36
theorem q3_35 : (Jvm.Cond.instanceMethod ({ cls := "PeeledHash$Reader", name := "splitIntoTokens", desc := "()V" } : Jvm.MethodName)) ∈ gtbl := g_in3 (List.mem_of_getElem? (i := 35) rfl) rfl
theorem imX2_splitIntoTokens : Cond.instanceMethod (kY kX2_splitIntoTokens) ∈ gtbl := q3_35
abbrev kX2_kindOf : gK := (RX2, yX2_kindOf, cX2_kindOf, 1, some .int)
theorem q3_39 : (Jvm.Cond.code ({ cls := "PeeledHash$Reader", name := "kindOf", desc := "(I)I" } : Jvm.MethodName) prog_4_method_5_code (1 : Nat) (Option.some Jvm.ClassFile.FieldType.int)) ∈ gtbl := g_in3 (List.mem_of_getElem? (i := 39) rfl) rfl
theorem qcX2_kindOf : Cond.code (kY kX2_kindOf) (kB kX2_kindOf) (kN kX2_kindOf) (kR kX2_kindOf) ∈ gtbl := q3_39
theorem q3_38 : (Jvm.Cond.static ({ cls := "PeeledHash$Reader", name := "kindOf", desc := "(I)I" } : Jvm.MethodName)) ∈ gtbl := g_in3 (List.mem_of_getElem? (i := 38) rfl) rfl
theorem smX2_kindOf : Cond.static (kY kX2_kindOf) ∈ gtbl := q3_38
abbrev kX2_numberBetween : gK := (RX2, yX2_numberBetween, cX2_numberBetween, 5, some .int)
theorem q3_43 : (Jvm.Cond.code ({ cls := "PeeledHash$Reader", name := "numberBetween", desc := "(II)I" } : Jvm.MethodName) prog_4_method_7_code (5 : Nat) (Option.some Jvm.ClassFile.FieldType.int)) ∈ gtbl := g_in3 (List.mem_of_getElem? (i := 43) rfl) rfl
theorem qcX2_numberBetween : Cond.code (kY kX2_numberBetween) (kB kX2_numberBetween) (kN kX2_numberBetween) (kR kX2_numberBetween) ∈ gtbl := q3_43
theorem q3_42 : (Jvm.Cond.instanceMethod ({ cls := "PeeledHash$Reader", name := "numberBetween", desc := "(II)I" } : Jvm.MethodName)) ∈ gtbl := g_in3 (List.mem_of_getElem? (i := 42) rfl) rfl
theorem imX2_numberBetween : Cond.instanceMethod (kY kX2_numberBetween) ∈ gtbl := q3_42
abbrev kJ9_min_7cf53 : gK := (RJ9, yJ9_min_7cf53, cJ9_min_7cf53, 2, some .int)
theorem q3_46 : (Jvm.Cond.code ({ cls := "java/lang/Math", name := "min", desc := "(II)I" } : Jvm.MethodName) prog_12_method_69_code (2 : Nat) (Option.some Jvm.ClassFile.FieldType.int)) ∈ gtbl := g_in3 (List.mem_of_getElem? (i := 46) rfl) rfl
theorem qcJ9_min_7cf53 : Cond.code (kY kJ9_min_7cf53) (kB kJ9_min_7cf53) (kN kJ9_min_7cf53) (kR kJ9_min_7cf53) ∈ gtbl := q3_46
theorem q3_45 : (Jvm.Cond.static ({ cls := "java/lang/Math", name := "min", desc := "(II)I" } : Jvm.MethodName)) ∈ gtbl := g_in3 (List.mem_of_getElem? (i := 45) rfl) rfl
theorem smJ9_min_7cf53 : Cond.static (kY kJ9_min_7cf53) ∈ gtbl := q3_45
abbrev kX2_wordBetween : gK := (RX2, yX2_wordBetween, cX2_wordBetween, 8, some .int)
theorem q3_50 : (Jvm.Cond.code ({ cls := "PeeledHash$Reader", name := "wordBetween", desc := "(II)I" } : Jvm.MethodName) prog_4_method_6_code (8 : Nat) (Option.some Jvm.ClassFile.FieldType.int)) ∈ gtbl := g_in3 (List.mem_of_getElem? (i := 50) rfl) rfl
theorem qcX2_wordBetween : Cond.code (kY kX2_wordBetween) (kB kX2_wordBetween) (kN kX2_wordBetween) (kR kX2_wordBetween) ∈ gtbl := q3_50
theorem q3_49 : (Jvm.Cond.instanceMethod ({ cls := "PeeledHash$Reader", name := "wordBetween", desc := "(II)I" } : Jvm.MethodName)) ∈ gtbl := g_in3 (List.mem_of_getElem? (i := 49) rfl) rfl
theorem imX2_wordBetween : Cond.instanceMethod (kY kX2_wordBetween) ∈ gtbl := q3_49
abbrev kJ0_length_8abf5 : gK := (RJ0, yJ0_length_8abf5, cJ0_length_8abf5, 1, some .int)
theorem q3_55 : (Jvm.Cond.code ({ cls := "java/lang/String", name := "length", desc := "()I" } : Jvm.MethodName) prog_13_method_54_code (1 : Nat) (Option.some Jvm.ClassFile.FieldType.int)) ∈ gtbl := g_in3 (List.mem_of_getElem? (i := 55) rfl) rfl
theorem qcJ0_length_8abf5 : Cond.code (kY kJ0_length_8abf5) (kB kJ0_length_8abf5) (kN kJ0_length_8abf5) (kR kJ0_length_8abf5) ∈ gtbl := q3_55
theorem q3_53 : (Jvm.Cond.instanceMethod ({ cls := "java/lang/String", name := "length", desc := "()I" } : Jvm.MethodName)) ∈ gtbl := g_in3 (List.mem_of_getElem? (i := 53) rfl) rfl
theorem imJ0_length_8abf5 : Cond.instanceMethod (kY kJ0_length_8abf5) ∈ gtbl := q3_53
theorem q3_54 : (Jvm.Cond.selects "java/lang/String" ({ cls := "java/lang/String", name := "length", desc := "()I" } : Jvm.MethodName) ({ cls := "java/lang/String", name := "length", desc := "()I" } : Jvm.MethodName)) ∈ gtbl := g_in3 (List.mem_of_getElem? (i := 54) rfl) rfl
theorem seJ0_length_8abf5 : Cond.selects RJ0 (kY kJ0_length_8abf5) (kY kJ0_length_8abf5) ∈ gtbl := q3_54
abbrev kJ0_coder_7d493 : gK := (RJ0, yJ0_coder_7d493, cJ0_coder_7d493, 1, some .byte)
theorem q3_59 : (Jvm.Cond.code ({ cls := "java/lang/String", name := "coder", desc := "()B" } : Jvm.MethodName) prog_13_method_152_code (1 : Nat) (Option.some Jvm.ClassFile.FieldType.byte)) ∈ gtbl := g_in3 (List.mem_of_getElem? (i := 59) rfl) rfl
theorem qcJ0_coder_7d493 : Cond.code (kY kJ0_coder_7d493) (kB kJ0_coder_7d493) (kN kJ0_coder_7d493) (kR kJ0_coder_7d493) ∈ gtbl := q3_59
theorem q3_57 : (Jvm.Cond.instanceMethod ({ cls := "java/lang/String", name := "coder", desc := "()B" } : Jvm.MethodName)) ∈ gtbl := g_in3 (List.mem_of_getElem? (i := 57) rfl) rfl
theorem imJ0_coder_7d493 : Cond.instanceMethod (kY kJ0_coder_7d493) ∈ gtbl := q3_57
theorem q3_58 : (Jvm.Cond.selects "java/lang/String" ({ cls := "java/lang/String", name := "coder", desc := "()B" } : Jvm.MethodName) ({ cls := "java/lang/String", name := "coder", desc := "()B" } : Jvm.MethodName)) ∈ gtbl := g_in3 (List.mem_of_getElem? (i := 58) rfl) rfl
theorem seJ0_coder_7d493 : Cond.selects RJ0 (kY kJ0_coder_7d493) (kY kJ0_coder_7d493) ∈ gtbl := q3_58
abbrev kJ0_charAt_5068e : gK := (RJ0, yJ0_charAt_5068e, cJ0_charAt_5068e, 2, some .char)
theorem q3_65 : (Jvm.Cond.code ({ cls := "java/lang/String", name := "charAt", desc := "(I)C" } : Jvm.MethodName) prog_13_method_56_code (2 : Nat) (Option.some Jvm.ClassFile.FieldType.char)) ∈ gtbl := g_in3 (List.mem_of_getElem? (i := 65) rfl) rfl
theorem qcJ0_charAt_5068e : Cond.code (kY kJ0_charAt_5068e) (kB kJ0_charAt_5068e) (kN kJ0_charAt_5068e) (kR kJ0_charAt_5068e) ∈ gtbl := q3_65
theorem q3_63 : (Jvm.Cond.instanceMethod ({ cls := "java/lang/String", name := "charAt", desc := "(I)C" } : Jvm.MethodName)) ∈ gtbl := g_in3 (List.mem_of_getElem? (i := 63) rfl) rfl
theorem imJ0_charAt_5068e : Cond.instanceMethod (kY kJ0_charAt_5068e) ∈ gtbl := q3_63
theorem q3_64 : (Jvm.Cond.selects "java/lang/String" ({ cls := "java/lang/String", name := "charAt", desc := "(I)C" } : Jvm.MethodName) ({ cls := "java/lang/String", name := "charAt", desc := "(I)C" } : Jvm.MethodName)) ∈ gtbl := g_in3 (List.mem_of_getElem? (i := 64) rfl) rfl
theorem seJ0_charAt_5068e : Cond.selects RJ0 (kY kJ0_charAt_5068e) (kY kJ0_charAt_5068e) ∈ gtbl := q3_64
abbrev kJ0_isLatin1_aae02 : gK := (RJ0, yJ0_isLatin1_aae02, cJ0_isLatin1_aae02, 1, some .boolean)
theorem q3_69 : (Jvm.Cond.code ({ cls := "java/lang/String", name := "isLatin1", desc := "()Z" } : Jvm.MethodName) prog_13_method_154_code (1 : Nat) (Option.some Jvm.ClassFile.FieldType.boolean)) ∈ gtbl := g_in3 (List.mem_of_getElem? (i := 69) rfl) rfl
theorem qcJ0_isLatin1_aae02 : Cond.code (kY kJ0_isLatin1_aae02) (kB kJ0_isLatin1_aae02) (kN kJ0_isLatin1_aae02) (kR kJ0_isLatin1_aae02) ∈ gtbl := q3_69
theorem q3_67 : (Jvm.Cond.instanceMethod ({ cls := "java/lang/String", name := "isLatin1", desc := "()Z" } : Jvm.MethodName)) ∈ gtbl := g_in3 (List.mem_of_getElem? (i := 67) rfl) rfl
theorem imJ0_isLatin1_aae02 : Cond.instanceMethod (kY kJ0_isLatin1_aae02) ∈ gtbl := q3_67
theorem q3_68 : (Jvm.Cond.selects "java/lang/String" ({ cls := "java/lang/String", name := "isLatin1", desc := "()Z" } : Jvm.MethodName) ({ cls := "java/lang/String", name := "isLatin1", desc := "()Z" } : Jvm.MethodName)) ∈ gtbl := g_in3 (List.mem_of_getElem? (i := 68) rfl) rfl
theorem seJ0_isLatin1_aae02 : Cond.selects RJ0 (kY kJ0_isLatin1_aae02) (kY kJ0_isLatin1_aae02) ∈ gtbl := q3_68
abbrev kJ1_charAt_3b067 : gK := (RJ1, yJ1_charAt_3b067, cJ1_charAt_3b067, 2, some .char)
theorem q3_72 : (Jvm.Cond.code ({ cls := "java/lang/StringLatin1", name := "charAt", desc := "([BI)C" } : Jvm.MethodName) prog_14_method_2_code (2 : Nat) (Option.some Jvm.ClassFile.FieldType.char)) ∈ gtbl := g_in3 (List.mem_of_getElem? (i := 72) rfl) rfl
theorem qcJ1_charAt_3b067 : Cond.code (kY kJ1_charAt_3b067) (kB kJ1_charAt_3b067) (kN kJ1_charAt_3b067) (kR kJ1_charAt_3b067) ∈ gtbl := q3_72
theorem q3_71 : (Jvm.Cond.static ({ cls := "java/lang/StringLatin1", name := "charAt", desc := "([BI)C" } : Jvm.MethodName)) ∈ gtbl := g_in3 (List.mem_of_getElem? (i := 71) rfl) rfl
theorem smJ1_charAt_3b067 : Cond.static (kY kJ1_charAt_3b067) ∈ gtbl := q3_71
abbrev kJ0_checkIndex_df160 : gK := (RJ0, yJ0_checkIndex_df160, cJ0_checkIndex_df160, 2, none)
theorem q3_75 : (Jvm.Cond.code ({ cls := "java/lang/String", name := "checkIndex", desc := "(II)V" } : Jvm.MethodName) prog_13_method_155_code (2 : Nat) (Option.none : Option Jvm.ClassFile.FieldType)) ∈ gtbl := g_in3 (List.mem_of_getElem? (i := 75) rfl) rfl
theorem qcJ0_checkIndex_df160 : Cond.code (kY kJ0_checkIndex_df160) (kB kJ0_checkIndex_df160) (kN kJ0_checkIndex_df160) (kR kJ0_checkIndex_df160) ∈ gtbl := q3_75
theorem q3_74 : (Jvm.Cond.static ({ cls := "java/lang/String", name := "checkIndex", desc := "(II)V" } : Jvm.MethodName)) ∈ gtbl := g_in3 (List.mem_of_getElem? (i := 74) rfl) rfl
theorem smJ0_checkIndex_df160 : Cond.static (kY kJ0_checkIndex_df160) ∈ gtbl := q3_74
abbrev kJ3_checkIndex_8e157 : gK := (RJ3, yJ3_checkIndex_8e157, cJ3_checkIndex_8e157, 3, some .int)
theorem q3_80 : (Jvm.Cond.code ({ cls := "jdk/internal/util/Preconditions", name := "checkIndex", desc := "(IILjava/util/function/BiFunction;)I" } : Jvm.MethodName) prog_18_method_11_code (3 : Nat) (Option.some Jvm.ClassFile.FieldType.int)) ∈ gtbl := g_in3 (List.mem_of_getElem? (i := 80) rfl) rfl
theorem qcJ3_checkIndex_8e157 : Cond.code (kY kJ3_checkIndex_8e157) (kB kJ3_checkIndex_8e157) (kN kJ3_checkIndex_8e157) (kR kJ3_checkIndex_8e157) ∈ gtbl := q3_80
theorem q3_79 : (Jvm.Cond.static ({ cls := "jdk/internal/util/Preconditions", name := "checkIndex", desc := "(IILjava/util/function/BiFunction;)I" } : Jvm.MethodName)) ∈ gtbl := g_in3 (List.mem_of_getElem? (i := 79) rfl) rfl
theorem smJ3_checkIndex_8e157 : Cond.static (kY kJ3_checkIndex_8e157) ∈ gtbl := q3_79
abbrev kJ2_charAt_3b067 : gK := (RJ2, yJ2_charAt_3b067, cJ2_charAt_3b067, 2, some .char)
theorem q3_83 : (Jvm.Cond.code ({ cls := "java/lang/StringUTF16", name := "charAt", desc := "([BI)C" } : Jvm.MethodName) prog_15_method_83_code (2 : Nat) (Option.some Jvm.ClassFile.FieldType.char)) ∈ gtbl := g_in3 (List.mem_of_getElem? (i := 83) rfl) rfl
theorem qcJ2_charAt_3b067 : Cond.code (kY kJ2_charAt_3b067) (kB kJ2_charAt_3b067) (kN kJ2_charAt_3b067) (kR kJ2_charAt_3b067) ∈ gtbl := q3_83
theorem q3_82 : (Jvm.Cond.static ({ cls := "java/lang/StringUTF16", name := "charAt", desc := "([BI)C" } : Jvm.MethodName)) ∈ gtbl := g_in3 (List.mem_of_getElem? (i := 82) rfl) rfl
theorem smJ2_charAt_3b067 : Cond.static (kY kJ2_charAt_3b067) ∈ gtbl := q3_82
abbrev kJ2_checkIndex_2214a : gK := (RJ2, yJ2_checkIndex_2214a, cJ2_checkIndex_2214a, 2, none)
theorem q3_86 : (Jvm.Cond.code ({ cls := "java/lang/StringUTF16", name := "checkIndex", desc := "(I[B)V" } : Jvm.MethodName) prog_15_method_91_code (2 : Nat) (Option.none : Option Jvm.ClassFile.FieldType)) ∈ gtbl := g_in3 (List.mem_of_getElem? (i := 86) rfl) rfl
theorem qcJ2_checkIndex_2214a : Cond.code (kY kJ2_checkIndex_2214a) (kB kJ2_checkIndex_2214a) (kN kJ2_checkIndex_2214a) (kR kJ2_checkIndex_2214a) ∈ gtbl := q3_86
theorem q3_85 : (Jvm.Cond.static ({ cls := "java/lang/StringUTF16", name := "checkIndex", desc := "(I[B)V" } : Jvm.MethodName)) ∈ gtbl := g_in3 (List.mem_of_getElem? (i := 85) rfl) rfl
theorem smJ2_checkIndex_2214a : Cond.static (kY kJ2_checkIndex_2214a) ∈ gtbl := q3_85
abbrev kJ2_length_9d52b : gK := (RJ2, yJ2_length_9d52b, cJ2_length_9d52b, 1, some .int)
theorem q3_89 : (Jvm.Cond.code ({ cls := "java/lang/StringUTF16", name := "length", desc := "([B)I" } : Jvm.MethodName) prog_15_method_6_code (1 : Nat) (Option.some Jvm.ClassFile.FieldType.int)) ∈ gtbl := g_in3 (List.mem_of_getElem? (i := 89) rfl) rfl
theorem qcJ2_length_9d52b : Cond.code (kY kJ2_length_9d52b) (kB kJ2_length_9d52b) (kN kJ2_length_9d52b) (kR kJ2_length_9d52b) ∈ gtbl := q3_89
theorem q3_88 : (Jvm.Cond.static ({ cls := "java/lang/StringUTF16", name := "length", desc := "([B)I" } : Jvm.MethodName)) ∈ gtbl := g_in3 (List.mem_of_getElem? (i := 88) rfl) rfl
theorem smJ2_length_9d52b : Cond.static (kY kJ2_length_9d52b) ∈ gtbl := q3_88
abbrev kJ2_getChar_3b067 : gK := (RJ2, yJ2_getChar_3b067, cJ2_getChar_3b067, 2, some .char)
theorem q3_93 : (Jvm.Cond.code ({ cls := "java/lang/StringUTF16", name := "getChar", desc := "([BI)C" } : Jvm.MethodName) prog_15_method_5_code (2 : Nat) (Option.some Jvm.ClassFile.FieldType.char)) ∈ gtbl := g_in3 (List.mem_of_getElem? (i := 93) rfl) rfl
theorem qcJ2_getChar_3b067 : Cond.code (kY kJ2_getChar_3b067) (kB kJ2_getChar_3b067) (kN kJ2_getChar_3b067) (kR kJ2_getChar_3b067) ∈ gtbl := q3_93
theorem q3_92 : (Jvm.Cond.static ({ cls := "java/lang/StringUTF16", name := "getChar", desc := "([BI)C" } : Jvm.MethodName)) ∈ gtbl := g_in3 (List.mem_of_getElem? (i := 92) rfl) rfl
theorem smJ2_getChar_3b067 : Cond.static (kY kJ2_getChar_3b067) ∈ gtbl := q3_92
abbrev kX6_clear : gK := (RX6, yX6_clear, cX6_clear, 1, none)
theorem q3_103 : (Jvm.Cond.code ({ cls := "PeeledHash$Text", name := "clear", desc := "()V" } : Jvm.MethodName) prog_8_method_2_code (1 : Nat) (Option.none : Option Jvm.ClassFile.FieldType)) ∈ gtbl := g_in3 (List.mem_of_getElem? (i := 103) rfl) rfl
theorem qcX6_clear : Cond.code (kY kX6_clear) (kB kX6_clear) (kN kX6_clear) (kR kX6_clear) ∈ gtbl := q3_103
theorem q3_101 : (Jvm.Cond.instanceMethod ({ cls := "PeeledHash$Text", name := "clear", desc := "()V" } : Jvm.MethodName)) ∈ gtbl := g_in3 (List.mem_of_getElem? (i := 101) rfl) rfl
theorem imX6_clear : Cond.instanceMethod (kY kX6_clear) ∈ gtbl := q3_101
theorem q3_102 : (Jvm.Cond.selects "PeeledHash$Text" ({ cls := "PeeledHash$Text", name := "clear", desc := "()V" } : Jvm.MethodName) ({ cls := "PeeledHash$Text", name := "clear", desc := "()V" } : Jvm.MethodName)) ∈ gtbl := g_in3 (List.mem_of_getElem? (i := 102) rfl) rfl
theorem seX6_clear : Cond.selects RX6 (kY kX6_clear) (kY kX6_clear) ∈ gtbl := q3_102
abbrev kX2_readClause : gK := (RX2, yX2_readClause, cX2_readClause, 3, some .boolean)
theorem q3_107 : (Jvm.Cond.code ({ cls := "PeeledHash$Reader", name := "readClause", desc := "(I)Z" } : Jvm.MethodName) prog_4_method_8_code (3 : Nat) (Option.some Jvm.ClassFile.FieldType.boolean)) ∈ gtbl := g_in3 (List.mem_of_getElem? (i := 107) rfl) rfl
theorem qcX2_readClause : Cond.code (kY kX2_readClause) (kB kX2_readClause) (kN kX2_readClause) (kR kX2_readClause) ∈ gtbl := q3_107
theorem q3_106 : (Jvm.Cond.instanceMethod ({ cls := "PeeledHash$Reader", name := "readClause", desc := "(I)Z" } : Jvm.MethodName)) ∈ gtbl := g_in3 (List.mem_of_getElem? (i := 106) rfl) rfl
theorem imX2_readClause : Cond.instanceMethod (kY kX2_readClause) ∈ gtbl := q3_106
abbrev kX2_orderKind : gK := (RX2, yX2_orderKind, cX2_orderKind, 1, some .int)
theorem q3_111 : (Jvm.Cond.code ({ cls := "PeeledHash$Reader", name := "orderKind", desc := "()I" } : Jvm.MethodName) prog_4_method_10_code (1 : Nat) (Option.some Jvm.ClassFile.FieldType.int)) ∈ gtbl := g_in3 (List.mem_of_getElem? (i := 111) rfl) rfl
theorem qcX2_orderKind : Cond.code (kY kX2_orderKind) (kB kX2_orderKind) (kN kX2_orderKind) (kR kX2_orderKind) ∈ gtbl := q3_111
theorem q3_110 : (Jvm.Cond.instanceMethod ({ cls := "PeeledHash$Reader", name := "orderKind", desc := "()I" } : Jvm.MethodName)) ∈ gtbl := g_in3 (List.mem_of_getElem? (i := 110) rfl) rfl
theorem imX2_orderKind : Cond.instanceMethod (kY kX2_orderKind) ∈ gtbl := q3_110
abbrev kX2_lawKind : gK := (RX2, yX2_lawKind, cX2_lawKind, 1, some .int)
theorem q3_115 : (Jvm.Cond.code ({ cls := "PeeledHash$Reader", name := "lawKind", desc := "()I" } : Jvm.MethodName) prog_4_method_9_code (1 : Nat) (Option.some Jvm.ClassFile.FieldType.int)) ∈ gtbl := g_in3 (List.mem_of_getElem? (i := 115) rfl) rfl
theorem qcX2_lawKind : Cond.code (kY kX2_lawKind) (kB kX2_lawKind) (kN kX2_lawKind) (kR kX2_lawKind) ∈ gtbl := q3_115
theorem q3_114 : (Jvm.Cond.instanceMethod ({ cls := "PeeledHash$Reader", name := "lawKind", desc := "()I" } : Jvm.MethodName)) ∈ gtbl := g_in3 (List.mem_of_getElem? (i := 114) rfl) rfl
theorem imX2_lawKind : Cond.instanceMethod (kY kX2_lawKind) ∈ gtbl := q3_114
abbrev kX2_fail : gK := (RX2, yX2_fail, cX2_fail, 1, some .boolean)
theorem q3_119 : (Jvm.Cond.code ({ cls := "PeeledHash$Reader", name := "fail", desc := "()Z" } : Jvm.MethodName) prog_4_method_22_code (1 : Nat) (Option.some Jvm.ClassFile.FieldType.boolean)) ∈ gtbl := g_in3 (List.mem_of_getElem? (i := 119) rfl) rfl
theorem qcX2_fail : Cond.code (kY kX2_fail) (kB kX2_fail) (kN kX2_fail) (kR kX2_fail) ∈ gtbl := q3_119
theorem q3_118 : (Jvm.Cond.instanceMethod ({ cls := "PeeledHash$Reader", name := "fail", desc := "()Z" } : Jvm.MethodName)) ∈ gtbl := g_in3 (List.mem_of_getElem? (i := 118) rfl) rfl
theorem imX2_fail : Cond.instanceMethod (kY kX2_fail) ∈ gtbl := q3_118
abbrev kX2_pass : gK := (RX2, yX2_pass, cX2_pass, 1, none)
theorem q3_123 : (Jvm.Cond.code ({ cls := "PeeledHash$Reader", name := "pass", desc := "()V" } : Jvm.MethodName) prog_4_method_21_code (1 : Nat) (Option.none : Option Jvm.ClassFile.FieldType)) ∈ gtbl := g_in3 (List.mem_of_getElem? (i := 123) rfl) rfl
theorem qcX2_pass : Cond.code (kY kX2_pass) (kB kX2_pass) (kN kX2_pass) (kR kX2_pass) ∈ gtbl := q3_123
theorem q3_122 : (Jvm.Cond.instanceMethod ({ cls := "PeeledHash$Reader", name := "pass", desc := "()V" } : Jvm.MethodName)) ∈ gtbl := g_in3 (List.mem_of_getElem? (i := 122) rfl) rfl
theorem imX2_pass : Cond.instanceMethod (kY kX2_pass) ∈ gtbl := q3_122
abbrev kX6_put : gK := (RX6, yX6_put, cX6_put, 3, some .int)
theorem q3_127 : (Jvm.Cond.code ({ cls := "PeeledHash$Text", name := "put", desc := "(II)I" } : Jvm.MethodName) prog_8_method_3_code (3 : Nat) (Option.some Jvm.ClassFile.FieldType.int)) ∈ gtbl := g_in3 (List.mem_of_getElem? (i := 127) rfl) rfl
theorem qcX6_put : Cond.code (kY kX6_put) (kB kX6_put) (kN kX6_put) (kR kX6_put) ∈ gtbl := q3_127
theorem q3_125 : (Jvm.Cond.instanceMethod ({ cls := "PeeledHash$Text", name := "put", desc := "(II)I" } : Jvm.MethodName)) ∈ gtbl := g_in3 (List.mem_of_getElem? (i := 125) rfl) rfl
theorem imX6_put : Cond.instanceMethod (kY kX6_put) ∈ gtbl := q3_125
theorem q3_126 : (Jvm.Cond.selects "PeeledHash$Text" ({ cls := "PeeledHash$Text", name := "put", desc := "(II)I" } : Jvm.MethodName) ({ cls := "PeeledHash$Text", name := "put", desc := "(II)I" } : Jvm.MethodName)) ∈ gtbl := g_in3 (List.mem_of_getElem? (i := 126) rfl) rfl
theorem seX6_put : Cond.selects RX6 (kY kX6_put) (kY kX6_put) ∈ gtbl := q3_126
abbrev kX2_readSum : gK := (RX2, yX2_readSum, cX2_readSum, 4, some .boolean)
theorem q3_131 : (Jvm.Cond.code ({ cls := "PeeledHash$Reader", name := "readSum", desc := "(I)Z" } : Jvm.MethodName) prog_4_method_15_code (4 : Nat) (Option.some Jvm.ClassFile.FieldType.boolean)) ∈ gtbl := g_in3 (List.mem_of_getElem? (i := 131) rfl) rfl
theorem qcX2_readSum : Cond.code (kY kX2_readSum) (kB kX2_readSum) (kN kX2_readSum) (kR kX2_readSum) ∈ gtbl := q3_131
theorem q3_130 : (Jvm.Cond.instanceMethod ({ cls := "PeeledHash$Reader", name := "readSum", desc := "(I)Z" } : Jvm.MethodName)) ∈ gtbl := g_in3 (List.mem_of_getElem? (i := 130) rfl) rfl
theorem imX2_readSum : Cond.instanceMethod (kY kX2_readSum) ∈ gtbl := q3_130
abbrev kX2_readTerm : gK := (RX2, yX2_readTerm, cX2_readTerm, 4, some .boolean)
theorem q3_135 : (Jvm.Cond.code ({ cls := "PeeledHash$Reader", name := "readTerm", desc := "(I)Z" } : Jvm.MethodName) prog_4_method_16_code (4 : Nat) (Option.some Jvm.ClassFile.FieldType.boolean)) ∈ gtbl := g_in3 (List.mem_of_getElem? (i := 135) rfl) rfl
theorem qcX2_readTerm : Cond.code (kY kX2_readTerm) (kB kX2_readTerm) (kN kX2_readTerm) (kR kX2_readTerm) ∈ gtbl := q3_135
theorem q3_134 : (Jvm.Cond.instanceMethod ({ cls := "PeeledHash$Reader", name := "readTerm", desc := "(I)Z" } : Jvm.MethodName)) ∈ gtbl := g_in3 (List.mem_of_getElem? (i := 134) rfl) rfl
theorem imX2_readTerm : Cond.instanceMethod (kY kX2_readTerm) ∈ gtbl := q3_134
abbrev kX2_readPiece : gK := (RX2, yX2_readPiece, cX2_readPiece, 5, some .boolean)
theorem q3_139 : (Jvm.Cond.code ({ cls := "PeeledHash$Reader", name := "readPiece", desc := "(I)Z" } : Jvm.MethodName) prog_4_method_17_code (5 : Nat) (Option.some Jvm.ClassFile.FieldType.boolean)) ∈ gtbl := g_in3 (List.mem_of_getElem? (i := 139) rfl) rfl
theorem qcX2_readPiece : Cond.code (kY kX2_readPiece) (kB kX2_readPiece) (kN kX2_readPiece) (kR kX2_readPiece) ∈ gtbl := q3_139
theorem q3_138 : (Jvm.Cond.instanceMethod ({ cls := "PeeledHash$Reader", name := "readPiece", desc := "(I)Z" } : Jvm.MethodName)) ∈ gtbl := g_in3 (List.mem_of_getElem? (i := 138) rfl) rfl
theorem imX2_readPiece : Cond.instanceMethod (kY kX2_readPiece) ∈ gtbl := q3_138
abbrev kX2_isMark : gK := (RX2, yX2_isMark, cX2_isMark, 2, some .boolean)
theorem q3_143 : (Jvm.Cond.code ({ cls := "PeeledHash$Reader", name := "isMark", desc := "(C)Z" } : Jvm.MethodName) prog_4_method_19_code (2 : Nat) (Option.some Jvm.ClassFile.FieldType.boolean)) ∈ gtbl := g_in3 (List.mem_of_getElem? (i := 143) rfl) rfl
theorem qcX2_isMark : Cond.code (kY kX2_isMark) (kB kX2_isMark) (kN kX2_isMark) (kR kX2_isMark) ∈ gtbl := q3_143
theorem q3_142 : (Jvm.Cond.instanceMethod ({ cls := "PeeledHash$Reader", name := "isMark", desc := "(C)Z" } : Jvm.MethodName)) ∈ gtbl := g_in3 (List.mem_of_getElem? (i := 142) rfl) rfl
theorem imX2_isMark : Cond.instanceMethod (kY kX2_isMark) ∈ gtbl := q3_142
abbrev kX2_passMark : gK := (RX2, yX2_passMark, cX2_passMark, 2, some .boolean)
theorem q3_147 : (Jvm.Cond.code ({ cls := "PeeledHash$Reader", name := "passMark", desc := "(C)Z" } : Jvm.MethodName) prog_4_method_20_code (2 : Nat) (Option.some Jvm.ClassFile.FieldType.boolean)) ∈ gtbl := g_in3 (List.mem_of_getElem? (i := 147) rfl) rfl
theorem qcX2_passMark : Cond.code (kY kX2_passMark) (kB kX2_passMark) (kN kX2_passMark) (kR kX2_passMark) ∈ gtbl := q3_147
theorem q3_146 : (Jvm.Cond.instanceMethod ({ cls := "PeeledHash$Reader", name := "passMark", desc := "(C)Z" } : Jvm.MethodName)) ∈ gtbl := g_in3 (List.mem_of_getElem? (i := 146) rfl) rfl
theorem imX2_passMark : Cond.instanceMethod (kY kX2_passMark) ∈ gtbl := q3_146
abbrev kX2_readLookup : gK := (RX2, yX2_readLookup, cX2_readLookup, 3, some .boolean)
theorem q3_151 : (Jvm.Cond.code ({ cls := "PeeledHash$Reader", name := "readLookup", desc := "(Z)Z" } : Jvm.MethodName) prog_4_method_18_code (3 : Nat) (Option.some Jvm.ClassFile.FieldType.boolean)) ∈ gtbl := g_in3 (List.mem_of_getElem? (i := 151) rfl) rfl
theorem qcX2_readLookup : Cond.code (kY kX2_readLookup) (kB kX2_readLookup) (kN kX2_readLookup) (kR kX2_readLookup) ∈ gtbl := q3_151
theorem q3_150 : (Jvm.Cond.instanceMethod ({ cls := "PeeledHash$Reader", name := "readLookup", desc := "(Z)Z" } : Jvm.MethodName)) ∈ gtbl := g_in3 (List.mem_of_getElem? (i := 150) rfl) rfl
theorem imX2_readLookup : Cond.instanceMethod (kY kX2_readLookup) ∈ gtbl := q3_150
abbrev kX2_readTimes : gK := (RX2, yX2_readTimes, cX2_readTimes, 2, some .boolean)
theorem q3_155 : (Jvm.Cond.code ({ cls := "PeeledHash$Reader", name := "readTimes", desc := "(I)Z" } : Jvm.MethodName) prog_4_method_11_code (2 : Nat) (Option.some Jvm.ClassFile.FieldType.boolean)) ∈ gtbl := g_in3 (List.mem_of_getElem? (i := 155) rfl) rfl
theorem qcX2_readTimes : Cond.code (kY kX2_readTimes) (kB kX2_readTimes) (kN kX2_readTimes) (kR kX2_readTimes) ∈ gtbl := q3_155
theorem q3_154 : (Jvm.Cond.instanceMethod ({ cls := "PeeledHash$Reader", name := "readTimes", desc := "(I)Z" } : Jvm.MethodName)) ∈ gtbl := g_in3 (List.mem_of_getElem? (i := 154) rfl) rfl
theorem imX2_readTimes : Cond.instanceMethod (kY kX2_readTimes) ∈ gtbl := q3_154
abbrev kX2_readTest : gK := (RX2, yX2_readTest, cX2_readTest, 4, some .boolean)
theorem q3_159 : (Jvm.Cond.code ({ cls := "PeeledHash$Reader", name := "readTest", desc := "(I)Z" } : Jvm.MethodName) prog_4_method_12_code (4 : Nat) (Option.some Jvm.ClassFile.FieldType.boolean)) ∈ gtbl := g_in3 (List.mem_of_getElem? (i := 159) rfl) rfl
theorem qcX2_readTest : Cond.code (kY kX2_readTest) (kB kX2_readTest) (kN kX2_readTest) (kR kX2_readTest) ∈ gtbl := q3_159
theorem q3_158 : (Jvm.Cond.instanceMethod ({ cls := "PeeledHash$Reader", name := "readTest", desc := "(I)Z" } : Jvm.MethodName)) ∈ gtbl := g_in3 (List.mem_of_getElem? (i := 158) rfl) rfl
theorem imX2_readTest : Cond.instanceMethod (kY kX2_readTest) ∈ gtbl := q3_158
abbrev kX2_readBoth : gK := (RX2, yX2_readBoth, cX2_readBoth, 4, some .boolean)
theorem q3_163 : (Jvm.Cond.code ({ cls := "PeeledHash$Reader", name := "readBoth", desc := "(I)Z" } : Jvm.MethodName) prog_4_method_13_code (4 : Nat) (Option.some Jvm.ClassFile.FieldType.boolean)) ∈ gtbl := g_in3 (List.mem_of_getElem? (i := 163) rfl) rfl
theorem qcX2_readBoth : Cond.code (kY kX2_readBoth) (kB kX2_readBoth) (kN kX2_readBoth) (kR kX2_readBoth) ∈ gtbl := q3_163
theorem q3_162 : (Jvm.Cond.instanceMethod ({ cls := "PeeledHash$Reader", name := "readBoth", desc := "(I)Z" } : Jvm.MethodName)) ∈ gtbl := g_in3 (List.mem_of_getElem? (i := 162) rfl) rfl
theorem imX2_readBoth : Cond.instanceMethod (kY kX2_readBoth) ∈ gtbl := q3_162
abbrev kX2_readPlain : gK := (RX2, yX2_readPlain, cX2_readPlain, 4, some .boolean)
theorem q3_167 : (Jvm.Cond.code ({ cls := "PeeledHash$Reader", name := "readPlain", desc := "(I)Z" } : Jvm.MethodName) prog_4_method_14_code (4 : Nat) (Option.some Jvm.ClassFile.FieldType.boolean)) ∈ gtbl := g_in3 (List.mem_of_getElem? (i := 167) rfl) rfl
theorem qcX2_readPlain : Cond.code (kY kX2_readPlain) (kB kX2_readPlain) (kN kX2_readPlain) (kR kX2_readPlain) ∈ gtbl := q3_167
theorem q3_166 : (Jvm.Cond.instanceMethod ({ cls := "PeeledHash$Reader", name := "readPlain", desc := "(I)Z" } : Jvm.MethodName)) ∈ gtbl := g_in3 (List.mem_of_getElem? (i := 166) rfl) rfl
theorem imX2_readPlain : Cond.instanceMethod (kY kX2_readPlain) ∈ gtbl := q3_166
abbrev kX6_jumpToHere : gK := (RX6, yX6_jumpToHere, cX6_jumpToHere, 2, none)
theorem q3_171 : (Jvm.Cond.code ({ cls := "PeeledHash$Text", name := "jumpToHere", desc := "(I)V" } : Jvm.MethodName) prog_8_method_4_code (2 : Nat) (Option.none : Option Jvm.ClassFile.FieldType)) ∈ gtbl := g_in3 (List.mem_of_getElem? (i := 171) rfl) rfl
theorem qcX6_jumpToHere : Cond.code (kY kX6_jumpToHere) (kB kX6_jumpToHere) (kN kX6_jumpToHere) (kR kX6_jumpToHere) ∈ gtbl := q3_171
theorem q3_169 : (Jvm.Cond.instanceMethod ({ cls := "PeeledHash$Text", name := "jumpToHere", desc := "(I)V" } : Jvm.MethodName)) ∈ gtbl := g_in3 (List.mem_of_getElem? (i := 169) rfl) rfl
theorem imX6_jumpToHere : Cond.instanceMethod (kY kX6_jumpToHere) ∈ gtbl := q3_169
theorem q3_170 : (Jvm.Cond.selects "PeeledHash$Text" ({ cls := "PeeledHash$Text", name := "jumpToHere", desc := "(I)V" } : Jvm.MethodName) ({ cls := "PeeledHash$Text", name := "jumpToHere", desc := "(I)V" } : Jvm.MethodName)) ∈ gtbl := g_in3 (List.mem_of_getElem? (i := 170) rfl) rfl
theorem seX6_jumpToHere : Cond.selects RX6 (kY kX6_jumpToHere) (kY kX6_jumpToHere) ∈ gtbl := q3_170
abbrev kX6_trimmed : gK := (RX6, yX6_trimmed, cX6_trimmed, 2, some (.object "PeeledHash$Text"))
theorem q3_175 : (Jvm.Cond.code ({ cls := "PeeledHash$Text", name := "trimmed", desc := "()LPeeledHash$Text;" } : Jvm.MethodName) prog_8_method_5_code (2 : Nat) (Option.some (Jvm.ClassFile.FieldType.object "PeeledHash$Text"))) ∈ gtbl := g_in3 (List.mem_of_getElem? (i := 175) rfl) rfl
theorem qcX6_trimmed : Cond.code (kY kX6_trimmed) (kB kX6_trimmed) (kN kX6_trimmed) (kR kX6_trimmed) ∈ gtbl := q3_175
theorem q3_173 : (Jvm.Cond.instanceMethod ({ cls := "PeeledHash$Text", name := "trimmed", desc := "()LPeeledHash$Text;" } : Jvm.MethodName)) ∈ gtbl := g_in3 (List.mem_of_getElem? (i := 173) rfl) rfl
theorem imX6_trimmed : Cond.instanceMethod (kY kX6_trimmed) ∈ gtbl := q3_173
theorem q3_174 : (Jvm.Cond.selects "PeeledHash$Text" ({ cls := "PeeledHash$Text", name := "trimmed", desc := "()LPeeledHash$Text;" } : Jvm.MethodName) ({ cls := "PeeledHash$Text", name := "trimmed", desc := "()LPeeledHash$Text;" } : Jvm.MethodName)) ∈ gtbl := g_in3 (List.mem_of_getElem? (i := 174) rfl) rfl
theorem seX6_trimmed : Cond.selects RX6 (kY kX6_trimmed) (kY kX6_trimmed) ∈ gtbl := q3_174
abbrev kX8_orders : gK := (RX8, yX8_orders, cX8_orders, 7, some .int)
theorem q3_185 : (Jvm.Cond.code ({ cls := "PeeledHash", name := "orders", desc := "()I" } : Jvm.MethodName) prog_1_method_12_code (7 : Nat) (Option.some Jvm.ClassFile.FieldType.int)) ∈ gtbl := g_in3 (List.mem_of_getElem? (i := 185) rfl) rfl
theorem qcX8_orders : Cond.code (kY kX8_orders) (kB kX8_orders) (kN kX8_orders) (kR kX8_orders) ∈ gtbl := q3_185
theorem q3_183 : (Jvm.Cond.instanceMethod ({ cls := "PeeledHash", name := "orders", desc := "()I" } : Jvm.MethodName)) ∈ gtbl := g_in3 (List.mem_of_getElem? (i := 183) rfl) rfl
theorem imX8_orders : Cond.instanceMethod (kY kX8_orders) ∈ gtbl := q3_183
theorem q3_184 : (Jvm.Cond.selects "PeeledHash" ({ cls := "PeeledHash", name := "orders", desc := "()I" } : Jvm.MethodName) ({ cls := "PeeledHash", name := "orders", desc := "()I" } : Jvm.MethodName)) ∈ gtbl := g_in3 (List.mem_of_getElem? (i := 184) rfl) rfl
theorem seX8_orders : Cond.selects RX8 (kY kX8_orders) (kY kX8_orders) ∈ gtbl := q3_184
abbrev kX3_copyFrom : gK := (RX3, yX3_copyFrom, cX3_copyFrom, 2, none)
theorem q3_189 : (Jvm.Cond.code ({ cls := "PeeledHash$State", name := "copyFrom", desc := "(LPeeledHash$State;)V" } : Jvm.MethodName) prog_5_method_2_code (2 : Nat) (Option.none : Option Jvm.ClassFile.FieldType)) ∈ gtbl := g_in3 (List.mem_of_getElem? (i := 189) rfl) rfl
theorem qcX3_copyFrom : Cond.code (kY kX3_copyFrom) (kB kX3_copyFrom) (kN kX3_copyFrom) (kR kX3_copyFrom) ∈ gtbl := q3_189
theorem q3_187 : (Jvm.Cond.instanceMethod ({ cls := "PeeledHash$State", name := "copyFrom", desc := "(LPeeledHash$State;)V" } : Jvm.MethodName)) ∈ gtbl := g_in3 (List.mem_of_getElem? (i := 187) rfl) rfl
theorem imX3_copyFrom : Cond.instanceMethod (kY kX3_copyFrom) ∈ gtbl := q3_187
theorem q3_188 : (Jvm.Cond.selects "PeeledHash$State" ({ cls := "PeeledHash$State", name := "copyFrom", desc := "(LPeeledHash$State;)V" } : Jvm.MethodName) ({ cls := "PeeledHash$State", name := "copyFrom", desc := "(LPeeledHash$State;)V" } : Jvm.MethodName)) ∈ gtbl := g_in3 (List.mem_of_getElem? (i := 188) rfl) rfl
theorem seX3_copyFrom : Cond.selects RX3 (kY kX3_copyFrom) (kY kX3_copyFrom) ∈ gtbl := q3_188
abbrev kX5_copyFrom : gK := (RX5, yX5_copyFrom, cX5_copyFrom, 2, none)
theorem q3_194 : (Jvm.Cond.code ({ cls := "PeeledHash$Table", name := "copyFrom", desc := "(LPeeledHash$Table;)V" } : Jvm.MethodName) prog_7_method_2_code (2 : Nat) (Option.none : Option Jvm.ClassFile.FieldType)) ∈ gtbl := g_in3 (List.mem_of_getElem? (i := 194) rfl) rfl
theorem qcX5_copyFrom : Cond.code (kY kX5_copyFrom) (kB kX5_copyFrom) (kN kX5_copyFrom) (kR kX5_copyFrom) ∈ gtbl := q3_194
theorem q3_192 : (Jvm.Cond.instanceMethod ({ cls := "PeeledHash$Table", name := "copyFrom", desc := "(LPeeledHash$Table;)V" } : Jvm.MethodName)) ∈ gtbl := g_in3 (List.mem_of_getElem? (i := 192) rfl) rfl
theorem imX5_copyFrom : Cond.instanceMethod (kY kX5_copyFrom) ∈ gtbl := q3_192
theorem q3_193 : (Jvm.Cond.selects "PeeledHash$Table" ({ cls := "PeeledHash$Table", name := "copyFrom", desc := "(LPeeledHash$Table;)V" } : Jvm.MethodName) ({ cls := "PeeledHash$Table", name := "copyFrom", desc := "(LPeeledHash$Table;)V" } : Jvm.MethodName)) ∈ gtbl := g_in3 (List.mem_of_getElem? (i := 193) rfl) rfl
theorem seX5_copyFrom : Cond.selects RX5 (kY kX5_copyFrom) (kY kX5_copyFrom) ∈ gtbl := q3_193
abbrev kX8_runOnce : gK := (RX8, yX8_runOnce, cX8_runOnce, 8, some .int)
theorem q3_199 : (Jvm.Cond.code ({ cls := "PeeledHash", name := "runOnce", desc := "(LPeeledHash$Text;III)I" } : Jvm.MethodName) prog_1_method_53_code (8 : Nat) (Option.some Jvm.ClassFile.FieldType.int)) ∈ gtbl := g_in3 (List.mem_of_getElem? (i := 199) rfl) rfl
theorem qcX8_runOnce : Cond.code (kY kX8_runOnce) (kB kX8_runOnce) (kN kX8_runOnce) (kR kX8_runOnce) ∈ gtbl := q3_199
theorem q3_198 : (Jvm.Cond.instanceMethod ({ cls := "PeeledHash", name := "runOnce", desc := "(LPeeledHash$Text;III)I" } : Jvm.MethodName)) ∈ gtbl := g_in3 (List.mem_of_getElem? (i := 198) rfl) rfl
theorem imX8_runOnce : Cond.instanceMethod (kY kX8_runOnce) ∈ gtbl := q3_198
abbrev kX8_tellOrders : gK := (RX8, yX8_tellOrders, cX8_tellOrders, 7, none)
theorem q3_203 : (Jvm.Cond.code ({ cls := "PeeledHash", name := "tellOrders", desc := "(II)V" } : Jvm.MethodName) prog_1_method_54_code (7 : Nat) (Option.none : Option Jvm.ClassFile.FieldType)) ∈ gtbl := g_in3 (List.mem_of_getElem? (i := 203) rfl) rfl
theorem qcX8_tellOrders : Cond.code (kY kX8_tellOrders) (kB kX8_tellOrders) (kN kX8_tellOrders) (kR kX8_tellOrders) ∈ gtbl := q3_203
theorem q3_202 : (Jvm.Cond.instanceMethod ({ cls := "PeeledHash", name := "tellOrders", desc := "(II)V" } : Jvm.MethodName)) ∈ gtbl := g_in3 (List.mem_of_getElem? (i := 202) rfl) rfl
theorem imX8_tellOrders : Cond.instanceMethod (kY kX8_tellOrders) ∈ gtbl := q3_202
abbrev kX5_numberOf : gK := (RX5, yX5_numberOf, cX5_numberOf, 2, some .int)
theorem q3_207 : (Jvm.Cond.code ({ cls := "PeeledHash$Table", name := "numberOf", desc := "(I)I" } : Jvm.MethodName) prog_7_method_7_code (2 : Nat) (Option.some Jvm.ClassFile.FieldType.int)) ∈ gtbl := g_in3 (List.mem_of_getElem? (i := 207) rfl) rfl
theorem qcX5_numberOf : Cond.code (kY kX5_numberOf) (kB kX5_numberOf) (kN kX5_numberOf) (kR kX5_numberOf) ∈ gtbl := q3_207
theorem q3_205 : (Jvm.Cond.instanceMethod ({ cls := "PeeledHash$Table", name := "numberOf", desc := "(I)I" } : Jvm.MethodName)) ∈ gtbl := g_in3 (List.mem_of_getElem? (i := 205) rfl) rfl
theorem imX5_numberOf : Cond.instanceMethod (kY kX5_numberOf) ∈ gtbl := q3_205
theorem q3_206 : (Jvm.Cond.selects "PeeledHash$Table" ({ cls := "PeeledHash$Table", name := "numberOf", desc := "(I)I" } : Jvm.MethodName) ({ cls := "PeeledHash$Table", name := "numberOf", desc := "(I)I" } : Jvm.MethodName)) ∈ gtbl := g_in3 (List.mem_of_getElem? (i := 206) rfl) rfl
theorem seX5_numberOf : Cond.selects RX5 (kY kX5_numberOf) (kY kX5_numberOf) ∈ gtbl := q3_206
abbrev kX5_ownVertex : gK := (RX5, yX5_ownVertex, cX5_ownVertex, 4, some .int)
theorem q3_211 : (Jvm.Cond.code ({ cls := "PeeledHash$Table", name := "ownVertex", desc := "(I)I" } : Jvm.MethodName) prog_7_method_6_code (4 : Nat) (Option.some Jvm.ClassFile.FieldType.int)) ∈ gtbl := g_in3 (List.mem_of_getElem? (i := 211) rfl) rfl
theorem qcX5_ownVertex : Cond.code (kY kX5_ownVertex) (kB kX5_ownVertex) (kN kX5_ownVertex) (kR kX5_ownVertex) ∈ gtbl := q3_211
theorem q3_209 : (Jvm.Cond.instanceMethod ({ cls := "PeeledHash$Table", name := "ownVertex", desc := "(I)I" } : Jvm.MethodName)) ∈ gtbl := g_in3 (List.mem_of_getElem? (i := 209) rfl) rfl
theorem imX5_ownVertex : Cond.instanceMethod (kY kX5_ownVertex) ∈ gtbl := q3_209
theorem q3_210 : (Jvm.Cond.selects "PeeledHash$Table" ({ cls := "PeeledHash$Table", name := "ownVertex", desc := "(I)I" } : Jvm.MethodName) ({ cls := "PeeledHash$Table", name := "ownVertex", desc := "(I)I" } : Jvm.MethodName)) ∈ gtbl := g_in3 (List.mem_of_getElem? (i := 210) rfl) rfl
theorem seX5_ownVertex : Cond.selects RX5 (kY kX5_ownVertex) (kY kX5_ownVertex) ∈ gtbl := q3_210
abbrev kX5_signsBelow : gK := (RX5, yX5_signsBelow, cX5_signsBelow, 4, some .int)
theorem q3_216 : (Jvm.Cond.code ({ cls := "PeeledHash$Table", name := "signsBelow", desc := "(I)I" } : Jvm.MethodName) prog_7_method_9_code (4 : Nat) (Option.some Jvm.ClassFile.FieldType.int)) ∈ gtbl := g_in3 (List.mem_of_getElem? (i := 216) rfl) rfl
theorem qcX5_signsBelow : Cond.code (kY kX5_signsBelow) (kB kX5_signsBelow) (kN kX5_signsBelow) (kR kX5_signsBelow) ∈ gtbl := q3_216
theorem q3_214 : (Jvm.Cond.instanceMethod ({ cls := "PeeledHash$Table", name := "signsBelow", desc := "(I)I" } : Jvm.MethodName)) ∈ gtbl := g_in3 (List.mem_of_getElem? (i := 214) rfl) rfl
theorem imX5_signsBelow : Cond.instanceMethod (kY kX5_signsBelow) ∈ gtbl := q3_214
theorem q3_215 : (Jvm.Cond.selects "PeeledHash$Table" ({ cls := "PeeledHash$Table", name := "signsBelow", desc := "(I)I" } : Jvm.MethodName) ({ cls := "PeeledHash$Table", name := "signsBelow", desc := "(I)I" } : Jvm.MethodName)) ∈ gtbl := g_in3 (List.mem_of_getElem? (i := 215) rfl) rfl
theorem seX5_signsBelow : Cond.selects RX5 (kY kX5_signsBelow) (kY kX5_signsBelow) ∈ gtbl := q3_215
abbrev kX0_draft : gK := (RX0, yX0_draft, cX0_draft, 3, none)
theorem q3_222 : (Jvm.Cond.code ({ cls := "PeeledHash$History", name := "draft", desc := "(LPeeledHash$State;)V" } : Jvm.MethodName) prog_2_method_3_code (3 : Nat) (Option.none : Option Jvm.ClassFile.FieldType)) ∈ gtbl := g_in3 (List.mem_of_getElem? (i := 222) rfl) rfl
theorem qcX0_draft : Cond.code (kY kX0_draft) (kB kX0_draft) (kN kX0_draft) (kR kX0_draft) ∈ gtbl := q3_222
theorem q3_220 : (Jvm.Cond.instanceMethod ({ cls := "PeeledHash$History", name := "draft", desc := "(LPeeledHash$State;)V" } : Jvm.MethodName)) ∈ gtbl := g_in3 (List.mem_of_getElem? (i := 220) rfl) rfl
theorem imX0_draft : Cond.instanceMethod (kY kX0_draft) ∈ gtbl := q3_220
theorem q3_221 : (Jvm.Cond.selects "PeeledHash$History" ({ cls := "PeeledHash$History", name := "draft", desc := "(LPeeledHash$State;)V" } : Jvm.MethodName) ({ cls := "PeeledHash$History", name := "draft", desc := "(LPeeledHash$State;)V" } : Jvm.MethodName)) ∈ gtbl := g_in3 (List.mem_of_getElem? (i := 221) rfl) rfl
theorem seX0_draft : Cond.selects RX0 (kY kX0_draft) (kY kX0_draft) ∈ gtbl := q3_221
abbrev kX0_slot : gK := (RX0, yX0_slot, cX0_slot, 2, some .int)
theorem q3_226 : (Jvm.Cond.code ({ cls := "PeeledHash$History", name := "slot", desc := "(I)I" } : Jvm.MethodName) prog_2_method_7_code (2 : Nat) (Option.some Jvm.ClassFile.FieldType.int)) ∈ gtbl := g_in3 (List.mem_of_getElem? (i := 226) rfl) rfl
theorem qcX0_slot : Cond.code (kY kX0_slot) (kB kX0_slot) (kN kX0_slot) (kR kX0_slot) ∈ gtbl := q3_226
theorem q3_225 : (Jvm.Cond.instanceMethod ({ cls := "PeeledHash$History", name := "slot", desc := "(I)I" } : Jvm.MethodName)) ∈ gtbl := g_in3 (List.mem_of_getElem? (i := 225) rfl) rfl
theorem imX0_slot : Cond.instanceMethod (kY kX0_slot) ∈ gtbl := q3_225
abbrev kX8_carryOut : gK := (RX8, yX8_carryOut, cX8_carryOut, 4, some .int)
theorem q3_231 : (Jvm.Cond.code ({ cls := "PeeledHash", name := "carryOut", desc := "(LPeeledHash$State;II)I" } : Jvm.MethodName) prog_1_method_47_code (4 : Nat) (Option.some Jvm.ClassFile.FieldType.int)) ∈ gtbl := g_in3 (List.mem_of_getElem? (i := 231) rfl) rfl
theorem qcX8_carryOut : Cond.code (kY kX8_carryOut) (kB kX8_carryOut) (kN kX8_carryOut) (kR kX8_carryOut) ∈ gtbl := q3_231
theorem q3_230 : (Jvm.Cond.instanceMethod ({ cls := "PeeledHash", name := "carryOut", desc := "(LPeeledHash$State;II)I" } : Jvm.MethodName)) ∈ gtbl := g_in3 (List.mem_of_getElem? (i := 230) rfl) rfl
theorem imX8_carryOut : Cond.instanceMethod (kY kX8_carryOut) ∈ gtbl := q3_230
abbrev kX8_takeFrom : gK := (RX8, yX8_takeFrom, cX8_takeFrom, 2, some .int)
theorem q3_234 : (Jvm.Cond.code ({ cls := "PeeledHash", name := "takeFrom", desc := "(LPeeledHash$State;I)I" } : Jvm.MethodName) prog_1_method_49_code (2 : Nat) (Option.some Jvm.ClassFile.FieldType.int)) ∈ gtbl := g_in3 (List.mem_of_getElem? (i := 234) rfl) rfl
theorem qcX8_takeFrom : Cond.code (kY kX8_takeFrom) (kB kX8_takeFrom) (kN kX8_takeFrom) (kR kX8_takeFrom) ∈ gtbl := q3_234
theorem q3_233 : (Jvm.Cond.static ({ cls := "PeeledHash", name := "takeFrom", desc := "(LPeeledHash$State;I)I" } : Jvm.MethodName)) ∈ gtbl := g_in3 (List.mem_of_getElem? (i := 233) rfl) rfl
theorem smX8_takeFrom : Cond.static (kY kX8_takeFrom) ∈ gtbl := q3_233
abbrev kX3_remove : gK := (RX3, yX3_remove, cX3_remove, 3, none)
theorem q3_238 : (Jvm.Cond.code ({ cls := "PeeledHash$State", name := "remove", desc := "(I)V" } : Jvm.MethodName) prog_5_method_6_code (3 : Nat) (Option.none : Option Jvm.ClassFile.FieldType)) ∈ gtbl := g_in3 (List.mem_of_getElem? (i := 238) rfl) rfl
theorem qcX3_remove : Cond.code (kY kX3_remove) (kB kX3_remove) (kN kX3_remove) (kR kX3_remove) ∈ gtbl := q3_238
theorem q3_236 : (Jvm.Cond.instanceMethod ({ cls := "PeeledHash$State", name := "remove", desc := "(I)V" } : Jvm.MethodName)) ∈ gtbl := g_in3 (List.mem_of_getElem? (i := 236) rfl) rfl
theorem imX3_remove : Cond.instanceMethod (kY kX3_remove) ∈ gtbl := q3_236
theorem q3_237 : (Jvm.Cond.selects "PeeledHash$State" ({ cls := "PeeledHash$State", name := "remove", desc := "(I)V" } : Jvm.MethodName) ({ cls := "PeeledHash$State", name := "remove", desc := "(I)V" } : Jvm.MethodName)) ∈ gtbl := g_in3 (List.mem_of_getElem? (i := 237) rfl) rfl
theorem seX3_remove : Cond.selects RX3 (kY kX3_remove) (kY kX3_remove) ∈ gtbl := q3_237
abbrev kX8_setSide : gK := (RX8, yX8_setSide, cX8_setSide, 3, some .int)
theorem q4_2 : (Jvm.Cond.code ({ cls := "PeeledHash", name := "setSide", desc := "(LPeeledHash$State;I)I" } : Jvm.MethodName) prog_1_method_50_code (3 : Nat) (Option.some Jvm.ClassFile.FieldType.int)) ∈ gtbl := g_in4 (List.mem_of_getElem? (i := 2) rfl) rfl
theorem qcX8_setSide : Cond.code (kY kX8_setSide) (kB kX8_setSide) (kN kX8_setSide) (kR kX8_setSide) ∈ gtbl := q4_2
theorem q4_1 : (Jvm.Cond.static ({ cls := "PeeledHash", name := "setSide", desc := "(LPeeledHash$State;I)I" } : Jvm.MethodName)) ∈ gtbl := g_in4 (List.mem_of_getElem? (i := 1) rfl) rfl
theorem smX8_setSide : Cond.static (kY kX8_setSide) ∈ gtbl := q4_1
abbrev kX8_setSeed : gK := (RX8, yX8_setSeed, cX8_setSeed, 3, some .int)
theorem q4_5 : (Jvm.Cond.code ({ cls := "PeeledHash", name := "setSeed", desc := "(LPeeledHash$State;I)I" } : Jvm.MethodName) prog_1_method_51_code (3 : Nat) (Option.some Jvm.ClassFile.FieldType.int)) ∈ gtbl := g_in4 (List.mem_of_getElem? (i := 5) rfl) rfl
theorem qcX8_setSeed : Cond.code (kY kX8_setSeed) (kB kX8_setSeed) (kN kX8_setSeed) (kR kX8_setSeed) ∈ gtbl := q4_5
theorem q4_4 : (Jvm.Cond.static ({ cls := "PeeledHash", name := "setSeed", desc := "(LPeeledHash$State;I)I" } : Jvm.MethodName)) ∈ gtbl := g_in4 (List.mem_of_getElem? (i := 4) rfl) rfl
theorem smX8_setSeed : Cond.static (kY kX8_setSeed) ∈ gtbl := q4_4
abbrev kX8_isSeed : gK := (RX8, yX8_isSeed, cX8_isSeed, 1, some .boolean)
theorem q4_8 : (Jvm.Cond.code ({ cls := "PeeledHash", name := "isSeed", desc := "(I)Z" } : Jvm.MethodName) prog_1_method_58_code (1 : Nat) (Option.some Jvm.ClassFile.FieldType.boolean)) ∈ gtbl := g_in4 (List.mem_of_getElem? (i := 8) rfl) rfl
theorem qcX8_isSeed : Cond.code (kY kX8_isSeed) (kB kX8_isSeed) (kN kX8_isSeed) (kR kX8_isSeed) ∈ gtbl := q4_8
theorem q4_7 : (Jvm.Cond.static ({ cls := "PeeledHash", name := "isSeed", desc := "(I)Z" } : Jvm.MethodName)) ∈ gtbl := g_in4 (List.mem_of_getElem? (i := 7) rfl) rfl
theorem smX8_isSeed : Cond.static (kY kX8_isSeed) ∈ gtbl := q4_7
abbrev kX8_buildOn : gK := (RX8, yX8_buildOn, cX8_buildOn, 4, some .int)
theorem q4_12 : (Jvm.Cond.code ({ cls := "PeeledHash", name := "buildOn", desc := "(LPeeledHash$State;)I" } : Jvm.MethodName) prog_1_method_52_code (4 : Nat) (Option.some Jvm.ClassFile.FieldType.int)) ∈ gtbl := g_in4 (List.mem_of_getElem? (i := 12) rfl) rfl
theorem qcX8_buildOn : Cond.code (kY kX8_buildOn) (kB kX8_buildOn) (kN kX8_buildOn) (kR kX8_buildOn) ∈ gtbl := q4_12
theorem q4_11 : (Jvm.Cond.instanceMethod ({ cls := "PeeledHash", name := "buildOn", desc := "(LPeeledHash$State;)I" } : Jvm.MethodName)) ∈ gtbl := g_in4 (List.mem_of_getElem? (i := 11) rfl) rfl
theorem imX8_buildOn : Cond.instanceMethod (kY kX8_buildOn) ∈ gtbl := q4_11
abbrev kX1_leavesNone : gK := (RX1, yX1_leavesNone, cX1_leavesNone, 4, some .boolean)
theorem q4_16 : (Jvm.Cond.code ({ cls := "PeeledHash$Peeler", name := "leavesNone", desc := "(LPeeledHash$State;II)Z" } : Jvm.MethodName) prog_3_method_2_code (4 : Nat) (Option.some Jvm.ClassFile.FieldType.boolean)) ∈ gtbl := g_in4 (List.mem_of_getElem? (i := 16) rfl) rfl
theorem qcX1_leavesNone : Cond.code (kY kX1_leavesNone) (kB kX1_leavesNone) (kN kX1_leavesNone) (kR kX1_leavesNone) ∈ gtbl := q4_16
theorem q4_14 : (Jvm.Cond.instanceMethod ({ cls := "PeeledHash$Peeler", name := "leavesNone", desc := "(LPeeledHash$State;II)Z" } : Jvm.MethodName)) ∈ gtbl := g_in4 (List.mem_of_getElem? (i := 14) rfl) rfl
theorem imX1_leavesNone : Cond.instanceMethod (kY kX1_leavesNone) ∈ gtbl := q4_14
theorem q4_15 : (Jvm.Cond.selects "PeeledHash$Peeler" ({ cls := "PeeledHash$Peeler", name := "leavesNone", desc := "(LPeeledHash$State;II)Z" } : Jvm.MethodName) ({ cls := "PeeledHash$Peeler", name := "leavesNone", desc := "(LPeeledHash$State;II)Z" } : Jvm.MethodName)) ∈ gtbl := g_in4 (List.mem_of_getElem? (i := 15) rfl) rfl
theorem seX1_leavesNone : Cond.selects RX1 (kY kX1_leavesNone) (kY kX1_leavesNone) ∈ gtbl := q4_15
abbrev kX1_coreSize : gK := (RX1, yX1_coreSize, cX1_coreSize, 8, some .int)
theorem q4_20 : (Jvm.Cond.code ({ cls := "PeeledHash$Peeler", name := "coreSize", desc := "(LPeeledHash$State;II)I" } : Jvm.MethodName) prog_3_method_3_code (8 : Nat) (Option.some Jvm.ClassFile.FieldType.int)) ∈ gtbl := g_in4 (List.mem_of_getElem? (i := 20) rfl) rfl
theorem qcX1_coreSize : Cond.code (kY kX1_coreSize) (kB kX1_coreSize) (kN kX1_coreSize) (kR kX1_coreSize) ∈ gtbl := q4_20
theorem q4_18 : (Jvm.Cond.instanceMethod ({ cls := "PeeledHash$Peeler", name := "coreSize", desc := "(LPeeledHash$State;II)I" } : Jvm.MethodName)) ∈ gtbl := g_in4 (List.mem_of_getElem? (i := 18) rfl) rfl
theorem imX1_coreSize : Cond.instanceMethod (kY kX1_coreSize) ∈ gtbl := q4_18
theorem q4_19 : (Jvm.Cond.selects "PeeledHash$Peeler" ({ cls := "PeeledHash$Peeler", name := "coreSize", desc := "(LPeeledHash$State;II)I" } : Jvm.MethodName) ({ cls := "PeeledHash$Peeler", name := "coreSize", desc := "(LPeeledHash$State;II)I" } : Jvm.MethodName)) ∈ gtbl := g_in4 (List.mem_of_getElem? (i := 19) rfl) rfl
theorem seX1_coreSize : Cond.selects RX1 (kY kX1_coreSize) (kY kX1_coreSize) ∈ gtbl := q4_19
abbrev kX1_lay : gK := (RX1, yX1_lay, cX1_lay, 7, none)
theorem q4_24 : (Jvm.Cond.code ({ cls := "PeeledHash$Peeler", name := "lay", desc := "(LPeeledHash$State;II)V" } : Jvm.MethodName) prog_3_method_5_code (7 : Nat) (Option.none : Option Jvm.ClassFile.FieldType)) ∈ gtbl := g_in4 (List.mem_of_getElem? (i := 24) rfl) rfl
theorem qcX1_lay : Cond.code (kY kX1_lay) (kB kX1_lay) (kN kX1_lay) (kR kX1_lay) ∈ gtbl := q4_24
theorem q4_23 : (Jvm.Cond.instanceMethod ({ cls := "PeeledHash$Peeler", name := "lay", desc := "(LPeeledHash$State;II)V" } : Jvm.MethodName)) ∈ gtbl := g_in4 (List.mem_of_getElem? (i := 23) rfl) rfl
theorem imX1_lay : Cond.instanceMethod (kY kX1_lay) ∈ gtbl := q4_23
abbrev kX1_letGo : gK := (RX1, yX1_letGo, cX1_letGo, 6, some .int)
theorem q4_30 : (Jvm.Cond.code ({ cls := "PeeledHash$Peeler", name := "letGo", desc := "(II)I" } : Jvm.MethodName) prog_3_method_7_code (6 : Nat) (Option.some Jvm.ClassFile.FieldType.int)) ∈ gtbl := g_in4 (List.mem_of_getElem? (i := 30) rfl) rfl
theorem qcX1_letGo : Cond.code (kY kX1_letGo) (kB kX1_letGo) (kN kX1_letGo) (kR kX1_letGo) ∈ gtbl := q4_30
theorem q4_29 : (Jvm.Cond.instanceMethod ({ cls := "PeeledHash$Peeler", name := "letGo", desc := "(II)I" } : Jvm.MethodName)) ∈ gtbl := g_in4 (List.mem_of_getElem? (i := 29) rfl) rfl
theorem imX1_letGo : Cond.instanceMethod (kY kX1_letGo) ∈ gtbl := q4_29
abbrev kX1_peel : gK := (RX1, yX1_peel, cX1_peel, 6, none)
theorem q4_34 : (Jvm.Cond.code ({ cls := "PeeledHash$Peeler", name := "peel", desc := "(LPeeledHash$State;ILPeeledHash$Text;)V" } : Jvm.MethodName) prog_3_method_4_code (6 : Nat) (Option.none : Option Jvm.ClassFile.FieldType)) ∈ gtbl := g_in4 (List.mem_of_getElem? (i := 34) rfl) rfl
theorem qcX1_peel : Cond.code (kY kX1_peel) (kB kX1_peel) (kN kX1_peel) (kR kX1_peel) ∈ gtbl := q4_34
theorem q4_32 : (Jvm.Cond.instanceMethod ({ cls := "PeeledHash$Peeler", name := "peel", desc := "(LPeeledHash$State;ILPeeledHash$Text;)V" } : Jvm.MethodName)) ∈ gtbl := g_in4 (List.mem_of_getElem? (i := 32) rfl) rfl
theorem imX1_peel : Cond.instanceMethod (kY kX1_peel) ∈ gtbl := q4_32
theorem q4_33 : (Jvm.Cond.selects "PeeledHash$Peeler" ({ cls := "PeeledHash$Peeler", name := "peel", desc := "(LPeeledHash$State;ILPeeledHash$Text;)V" } : Jvm.MethodName) ({ cls := "PeeledHash$Peeler", name := "peel", desc := "(LPeeledHash$State;ILPeeledHash$Text;)V" } : Jvm.MethodName)) ∈ gtbl := g_in4 (List.mem_of_getElem? (i := 33) rfl) rfl
theorem seX1_peel : Cond.selects RX1 (kY kX1_peel) (kY kX1_peel) ∈ gtbl := q4_33
abbrev kX1_leastFree : gK := (RX1, yX1_leastFree, cX1_leastFree, 4, some .int)
theorem q4_39 : (Jvm.Cond.code ({ cls := "PeeledHash$Peeler", name := "leastFree", desc := "(I)I" } : Jvm.MethodName) prog_3_method_6_code (4 : Nat) (Option.some Jvm.ClassFile.FieldType.int)) ∈ gtbl := g_in4 (List.mem_of_getElem? (i := 39) rfl) rfl
theorem qcX1_leastFree : Cond.code (kY kX1_leastFree) (kB kX1_leastFree) (kN kX1_leastFree) (kR kX1_leastFree) ∈ gtbl := q4_39
theorem q4_38 : (Jvm.Cond.instanceMethod ({ cls := "PeeledHash$Peeler", name := "leastFree", desc := "(I)I" } : Jvm.MethodName)) ∈ gtbl := g_in4 (List.mem_of_getElem? (i := 38) rfl) rfl
theorem imX1_leastFree : Cond.instanceMethod (kY kX1_leastFree) ∈ gtbl := q4_38
abbrev kX5_solve : gK := (RX5, yX5_solve, cX5_solve, 4, none)
theorem q4_43 : (Jvm.Cond.code ({ cls := "PeeledHash$Table", name := "solve", desc := "(LPeeledHash$State;LPeeledHash$Peeler;)V" } : Jvm.MethodName) prog_7_method_3_code (4 : Nat) (Option.none : Option Jvm.ClassFile.FieldType)) ∈ gtbl := g_in4 (List.mem_of_getElem? (i := 43) rfl) rfl
theorem qcX5_solve : Cond.code (kY kX5_solve) (kB kX5_solve) (kN kX5_solve) (kR kX5_solve) ∈ gtbl := q4_43
theorem q4_41 : (Jvm.Cond.instanceMethod ({ cls := "PeeledHash$Table", name := "solve", desc := "(LPeeledHash$State;LPeeledHash$Peeler;)V" } : Jvm.MethodName)) ∈ gtbl := g_in4 (List.mem_of_getElem? (i := 41) rfl) rfl
theorem imX5_solve : Cond.instanceMethod (kY kX5_solve) ∈ gtbl := q4_41
theorem q4_42 : (Jvm.Cond.selects "PeeledHash$Table" ({ cls := "PeeledHash$Table", name := "solve", desc := "(LPeeledHash$State;LPeeledHash$Peeler;)V" } : Jvm.MethodName) ({ cls := "PeeledHash$Table", name := "solve", desc := "(LPeeledHash$State;LPeeledHash$Peeler;)V" } : Jvm.MethodName)) ∈ gtbl := g_in4 (List.mem_of_getElem? (i := 42) rfl) rfl
theorem seX5_solve : Cond.selects RX5 (kY kX5_solve) (kY kX5_solve) ∈ gtbl := q4_42
abbrev kX5_settle : gK := (RX5, yX5_settle, cX5_settle, 8, none)
theorem q4_48 : (Jvm.Cond.code ({ cls := "PeeledHash$Table", name := "settle", desc := "(II[I)V" } : Jvm.MethodName) prog_7_method_4_code (8 : Nat) (Option.none : Option Jvm.ClassFile.FieldType)) ∈ gtbl := g_in4 (List.mem_of_getElem? (i := 48) rfl) rfl
theorem qcX5_settle : Cond.code (kY kX5_settle) (kB kX5_settle) (kN kX5_settle) (kR kX5_settle) ∈ gtbl := q4_48
theorem q4_47 : (Jvm.Cond.instanceMethod ({ cls := "PeeledHash$Table", name := "settle", desc := "(II[I)V" } : Jvm.MethodName)) ∈ gtbl := g_in4 (List.mem_of_getElem? (i := 47) rfl) rfl
theorem imX5_settle : Cond.instanceMethod (kY kX5_settle) ∈ gtbl := q4_47
abbrev kJ9_floorMod_7cf53 : gK := (RJ9, yJ9_floorMod_7cf53, cJ9_floorMod_7cf53, 3, some .int)
theorem q4_51 : (Jvm.Cond.code ({ cls := "java/lang/Math", name := "floorMod", desc := "(II)I" } : Jvm.MethodName) prog_12_method_50_code (3 : Nat) (Option.some Jvm.ClassFile.FieldType.int)) ∈ gtbl := g_in4 (List.mem_of_getElem? (i := 51) rfl) rfl
theorem qcJ9_floorMod_7cf53 : Cond.code (kY kJ9_floorMod_7cf53) (kB kJ9_floorMod_7cf53) (kN kJ9_floorMod_7cf53) (kR kJ9_floorMod_7cf53) ∈ gtbl := q4_51
theorem q4_50 : (Jvm.Cond.static ({ cls := "java/lang/Math", name := "floorMod", desc := "(II)I" } : Jvm.MethodName)) ∈ gtbl := g_in4 (List.mem_of_getElem? (i := 50) rfl) rfl
theorem smJ9_floorMod_7cf53 : Cond.static (kY kJ9_floorMod_7cf53) ∈ gtbl := q4_50
abbrev kX0_keep : gK := (RX0, yX0_keep, cX0_keep, 2, none)
theorem q4_56 : (Jvm.Cond.code ({ cls := "PeeledHash$History", name := "keep", desc := "(I)V" } : Jvm.MethodName) prog_2_method_4_code (2 : Nat) (Option.none : Option Jvm.ClassFile.FieldType)) ∈ gtbl := g_in4 (List.mem_of_getElem? (i := 56) rfl) rfl
theorem qcX0_keep : Cond.code (kY kX0_keep) (kB kX0_keep) (kN kX0_keep) (kR kX0_keep) ∈ gtbl := q4_56
theorem q4_54 : (Jvm.Cond.instanceMethod ({ cls := "PeeledHash$History", name := "keep", desc := "(I)V" } : Jvm.MethodName)) ∈ gtbl := g_in4 (List.mem_of_getElem? (i := 54) rfl) rfl
theorem imX0_keep : Cond.instanceMethod (kY kX0_keep) ∈ gtbl := q4_54
theorem q4_55 : (Jvm.Cond.selects "PeeledHash$History" ({ cls := "PeeledHash$History", name := "keep", desc := "(I)V" } : Jvm.MethodName) ({ cls := "PeeledHash$History", name := "keep", desc := "(I)V" } : Jvm.MethodName)) ∈ gtbl := g_in4 (List.mem_of_getElem? (i := 55) rfl) rfl
theorem seX0_keep : Cond.selects RX0 (kY kX0_keep) (kY kX0_keep) ∈ gtbl := q4_55
abbrev kX0_appendAll : gK := (RX0, yX0_appendAll, cX0_appendAll, 4, none)
theorem q4_60 : (Jvm.Cond.code ({ cls := "PeeledHash$History", name := "appendAll", desc := "(LPeeledHash$History;)V" } : Jvm.MethodName) prog_2_method_6_code (4 : Nat) (Option.none : Option Jvm.ClassFile.FieldType)) ∈ gtbl := g_in4 (List.mem_of_getElem? (i := 60) rfl) rfl
theorem qcX0_appendAll : Cond.code (kY kX0_appendAll) (kB kX0_appendAll) (kN kX0_appendAll) (kR kX0_appendAll) ∈ gtbl := q4_60
theorem q4_58 : (Jvm.Cond.instanceMethod ({ cls := "PeeledHash$History", name := "appendAll", desc := "(LPeeledHash$History;)V" } : Jvm.MethodName)) ∈ gtbl := g_in4 (List.mem_of_getElem? (i := 58) rfl) rfl
theorem imX0_appendAll : Cond.instanceMethod (kY kX0_appendAll) ∈ gtbl := q4_58
theorem q4_59 : (Jvm.Cond.selects "PeeledHash$History" ({ cls := "PeeledHash$History", name := "appendAll", desc := "(LPeeledHash$History;)V" } : Jvm.MethodName) ({ cls := "PeeledHash$History", name := "appendAll", desc := "(LPeeledHash$History;)V" } : Jvm.MethodName)) ∈ gtbl := g_in4 (List.mem_of_getElem? (i := 59) rfl) rfl
theorem seX0_appendAll : Cond.selects RX0 (kY kX0_appendAll) (kY kX0_appendAll) ∈ gtbl := q4_59
abbrev kX8_fault : gK := (RX8, yX8_fault, cX8_fault, 1, some .int)
theorem q4_66 : (Jvm.Cond.code ({ cls := "PeeledHash", name := "fault", desc := "()I" } : Jvm.MethodName) prog_1_method_13_code (1 : Nat) (Option.some Jvm.ClassFile.FieldType.int)) ∈ gtbl := g_in4 (List.mem_of_getElem? (i := 66) rfl) rfl
theorem qcX8_fault : Cond.code (kY kX8_fault) (kB kX8_fault) (kN kX8_fault) (kR kX8_fault) ∈ gtbl := q4_66
theorem q4_64 : (Jvm.Cond.instanceMethod ({ cls := "PeeledHash", name := "fault", desc := "()I" } : Jvm.MethodName)) ∈ gtbl := g_in4 (List.mem_of_getElem? (i := 64) rfl) rfl
theorem imX8_fault : Cond.instanceMethod (kY kX8_fault) ∈ gtbl := q4_64
theorem q4_65 : (Jvm.Cond.selects "PeeledHash" ({ cls := "PeeledHash", name := "fault", desc := "()I" } : Jvm.MethodName) ({ cls := "PeeledHash", name := "fault", desc := "()I" } : Jvm.MethodName)) ∈ gtbl := g_in4 (List.mem_of_getElem? (i := 65) rfl) rfl
theorem seX8_fault : Cond.selects RX8 (kY kX8_fault) (kY kX8_fault) ∈ gtbl := q4_65
abbrev kX8_stopped : gK := (RX8, yX8_stopped, cX8_stopped, 1, some .int)
theorem q4_70 : (Jvm.Cond.code ({ cls := "PeeledHash", name := "stopped", desc := "()I" } : Jvm.MethodName) prog_1_method_14_code (1 : Nat) (Option.some Jvm.ClassFile.FieldType.int)) ∈ gtbl := g_in4 (List.mem_of_getElem? (i := 70) rfl) rfl
theorem qcX8_stopped : Cond.code (kY kX8_stopped) (kB kX8_stopped) (kN kX8_stopped) (kR kX8_stopped) ∈ gtbl := q4_70
theorem q4_68 : (Jvm.Cond.instanceMethod ({ cls := "PeeledHash", name := "stopped", desc := "()I" } : Jvm.MethodName)) ∈ gtbl := g_in4 (List.mem_of_getElem? (i := 68) rfl) rfl
theorem imX8_stopped : Cond.instanceMethod (kY kX8_stopped) ∈ gtbl := q4_68
theorem q4_69 : (Jvm.Cond.selects "PeeledHash" ({ cls := "PeeledHash", name := "stopped", desc := "()I" } : Jvm.MethodName) ({ cls := "PeeledHash", name := "stopped", desc := "()I" } : Jvm.MethodName)) ∈ gtbl := g_in4 (List.mem_of_getElem? (i := 69) rfl) rfl
theorem seX8_stopped : Cond.selects RX8 (kY kX8_stopped) (kY kX8_stopped) ∈ gtbl := q4_69
abbrev kX8_force : gK := (RX8, yX8_force, cX8_force, 3, some .int)
theorem q4_74 : (Jvm.Cond.code ({ cls := "PeeledHash", name := "force", desc := "(I)I" } : Jvm.MethodName) prog_1_method_15_code (3 : Nat) (Option.some Jvm.ClassFile.FieldType.int)) ∈ gtbl := g_in4 (List.mem_of_getElem? (i := 74) rfl) rfl
theorem qcX8_force : Cond.code (kY kX8_force) (kB kX8_force) (kN kX8_force) (kR kX8_force) ∈ gtbl := q4_74
theorem q4_72 : (Jvm.Cond.instanceMethod ({ cls := "PeeledHash", name := "force", desc := "(I)I" } : Jvm.MethodName)) ∈ gtbl := g_in4 (List.mem_of_getElem? (i := 72) rfl) rfl
theorem imX8_force : Cond.instanceMethod (kY kX8_force) ∈ gtbl := q4_72
theorem q4_73 : (Jvm.Cond.selects "PeeledHash" ({ cls := "PeeledHash", name := "force", desc := "(I)I" } : Jvm.MethodName) ({ cls := "PeeledHash", name := "force", desc := "(I)I" } : Jvm.MethodName)) ∈ gtbl := g_in4 (List.mem_of_getElem? (i := 73) rfl) rfl
theorem seX8_force : Cond.selects RX8 (kY kX8_force) (kY kX8_force) ∈ gtbl := q4_73
abbrev kX8_add : gK := (RX8, yX8_add, cX8_add, 2, some .int)
theorem q4_78 : (Jvm.Cond.code ({ cls := "PeeledHash", name := "add", desc := "(I)I" } : Jvm.MethodName) prog_1_method_16_code (2 : Nat) (Option.some Jvm.ClassFile.FieldType.int)) ∈ gtbl := g_in4 (List.mem_of_getElem? (i := 78) rfl) rfl
theorem qcX8_add : Cond.code (kY kX8_add) (kB kX8_add) (kN kX8_add) (kR kX8_add) ∈ gtbl := q4_78
theorem q4_76 : (Jvm.Cond.instanceMethod ({ cls := "PeeledHash", name := "add", desc := "(I)I" } : Jvm.MethodName)) ∈ gtbl := g_in4 (List.mem_of_getElem? (i := 76) rfl) rfl
theorem imX8_add : Cond.instanceMethod (kY kX8_add) ∈ gtbl := q4_76
theorem q4_77 : (Jvm.Cond.selects "PeeledHash" ({ cls := "PeeledHash", name := "add", desc := "(I)I" } : Jvm.MethodName) ({ cls := "PeeledHash", name := "add", desc := "(I)I" } : Jvm.MethodName)) ∈ gtbl := g_in4 (List.mem_of_getElem? (i := 77) rfl) rfl
theorem seX8_add : Cond.selects RX8 (kY kX8_add) (kY kX8_add) ∈ gtbl := q4_77
abbrev kX8_change : gK := (RX8, yX8_change, cX8_change, 4, some .int)
theorem q4_82 : (Jvm.Cond.code ({ cls := "PeeledHash", name := "change", desc := "(II)I" } : Jvm.MethodName) prog_1_method_46_code (4 : Nat) (Option.some Jvm.ClassFile.FieldType.int)) ∈ gtbl := g_in4 (List.mem_of_getElem? (i := 82) rfl) rfl
theorem qcX8_change : Cond.code (kY kX8_change) (kB kX8_change) (kN kX8_change) (kR kX8_change) ∈ gtbl := q4_82
theorem q4_81 : (Jvm.Cond.instanceMethod ({ cls := "PeeledHash", name := "change", desc := "(II)I" } : Jvm.MethodName)) ∈ gtbl := g_in4 (List.mem_of_getElem? (i := 81) rfl) rfl
theorem imX8_change : Cond.instanceMethod (kY kX8_change) ∈ gtbl := q4_81
abbrev kX8_take : gK := (RX8, yX8_take, cX8_take, 2, some .int)
theorem q4_86 : (Jvm.Cond.code ({ cls := "PeeledHash", name := "take", desc := "(I)I" } : Jvm.MethodName) prog_1_method_17_code (2 : Nat) (Option.some Jvm.ClassFile.FieldType.int)) ∈ gtbl := g_in4 (List.mem_of_getElem? (i := 86) rfl) rfl
theorem qcX8_take : Cond.code (kY kX8_take) (kB kX8_take) (kN kX8_take) (kR kX8_take) ∈ gtbl := q4_86
theorem q4_84 : (Jvm.Cond.instanceMethod ({ cls := "PeeledHash", name := "take", desc := "(I)I" } : Jvm.MethodName)) ∈ gtbl := g_in4 (List.mem_of_getElem? (i := 84) rfl) rfl
theorem imX8_take : Cond.instanceMethod (kY kX8_take) ∈ gtbl := q4_84
theorem q4_85 : (Jvm.Cond.selects "PeeledHash" ({ cls := "PeeledHash", name := "take", desc := "(I)I" } : Jvm.MethodName) ({ cls := "PeeledHash", name := "take", desc := "(I)I" } : Jvm.MethodName)) ∈ gtbl := g_in4 (List.mem_of_getElem? (i := 85) rfl) rfl
theorem seX8_take : Cond.selects RX8 (kY kX8_take) (kY kX8_take) ∈ gtbl := q4_85
abbrev kX8_side : gK := (RX8, yX8_side, cX8_side, 2, some .int)
theorem q4_90 : (Jvm.Cond.code ({ cls := "PeeledHash", name := "side", desc := "(I)I" } : Jvm.MethodName) prog_1_method_18_code (2 : Nat) (Option.some Jvm.ClassFile.FieldType.int)) ∈ gtbl := g_in4 (List.mem_of_getElem? (i := 90) rfl) rfl
theorem qcX8_side : Cond.code (kY kX8_side) (kB kX8_side) (kN kX8_side) (kR kX8_side) ∈ gtbl := q4_90
theorem q4_88 : (Jvm.Cond.instanceMethod ({ cls := "PeeledHash", name := "side", desc := "(I)I" } : Jvm.MethodName)) ∈ gtbl := g_in4 (List.mem_of_getElem? (i := 88) rfl) rfl
theorem imX8_side : Cond.instanceMethod (kY kX8_side) ∈ gtbl := q4_88
theorem q4_89 : (Jvm.Cond.selects "PeeledHash" ({ cls := "PeeledHash", name := "side", desc := "(I)I" } : Jvm.MethodName) ({ cls := "PeeledHash", name := "side", desc := "(I)I" } : Jvm.MethodName)) ∈ gtbl := g_in4 (List.mem_of_getElem? (i := 89) rfl) rfl
theorem seX8_side : Cond.selects RX8 (kY kX8_side) (kY kX8_side) ∈ gtbl := q4_89
abbrev kX8_seed : gK := (RX8, yX8_seed, cX8_seed, 2, some .int)
theorem q4_94 : (Jvm.Cond.code ({ cls := "PeeledHash", name := "seed", desc := "(I)I" } : Jvm.MethodName) prog_1_method_19_code (2 : Nat) (Option.some Jvm.ClassFile.FieldType.int)) ∈ gtbl := g_in4 (List.mem_of_getElem? (i := 94) rfl) rfl
theorem qcX8_seed : Cond.code (kY kX8_seed) (kB kX8_seed) (kN kX8_seed) (kR kX8_seed) ∈ gtbl := q4_94
theorem q4_92 : (Jvm.Cond.instanceMethod ({ cls := "PeeledHash", name := "seed", desc := "(I)I" } : Jvm.MethodName)) ∈ gtbl := g_in4 (List.mem_of_getElem? (i := 92) rfl) rfl
theorem imX8_seed : Cond.instanceMethod (kY kX8_seed) ∈ gtbl := q4_92
theorem q4_93 : (Jvm.Cond.selects "PeeledHash" ({ cls := "PeeledHash", name := "seed", desc := "(I)I" } : Jvm.MethodName) ({ cls := "PeeledHash", name := "seed", desc := "(I)I" } : Jvm.MethodName)) ∈ gtbl := g_in4 (List.mem_of_getElem? (i := 93) rfl) rfl
theorem seX8_seed : Cond.selects RX8 (kY kX8_seed) (kY kX8_seed) ∈ gtbl := q4_93
abbrev kX8_build : gK := (RX8, yX8_build, cX8_build, 1, some .int)
theorem q4_98 : (Jvm.Cond.code ({ cls := "PeeledHash", name := "build", desc := "()I" } : Jvm.MethodName) prog_1_method_20_code (1 : Nat) (Option.some Jvm.ClassFile.FieldType.int)) ∈ gtbl := g_in4 (List.mem_of_getElem? (i := 98) rfl) rfl
theorem qcX8_build : Cond.code (kY kX8_build) (kB kX8_build) (kN kX8_build) (kR kX8_build) ∈ gtbl := q4_98
theorem q4_96 : (Jvm.Cond.instanceMethod ({ cls := "PeeledHash", name := "build", desc := "()I" } : Jvm.MethodName)) ∈ gtbl := g_in4 (List.mem_of_getElem? (i := 96) rfl) rfl
theorem imX8_build : Cond.instanceMethod (kY kX8_build) ∈ gtbl := q4_96
theorem q4_97 : (Jvm.Cond.selects "PeeledHash" ({ cls := "PeeledHash", name := "build", desc := "()I" } : Jvm.MethodName) ({ cls := "PeeledHash", name := "build", desc := "()I" } : Jvm.MethodName)) ∈ gtbl := g_in4 (List.mem_of_getElem? (i := 97) rfl) rfl
theorem seX8_build : Cond.selects RX8 (kY kX8_build) (kY kX8_build) ∈ gtbl := q4_97
abbrev kX8_undo : gK := (RX8, yX8_undo, cX8_undo, 2, some .int)
theorem q4_102 : (Jvm.Cond.code ({ cls := "PeeledHash", name := "undo", desc := "()I" } : Jvm.MethodName) prog_1_method_21_code (2 : Nat) (Option.some Jvm.ClassFile.FieldType.int)) ∈ gtbl := g_in4 (List.mem_of_getElem? (i := 102) rfl) rfl
theorem qcX8_undo : Cond.code (kY kX8_undo) (kB kX8_undo) (kN kX8_undo) (kR kX8_undo) ∈ gtbl := q4_102
theorem q4_100 : (Jvm.Cond.instanceMethod ({ cls := "PeeledHash", name := "undo", desc := "()I" } : Jvm.MethodName)) ∈ gtbl := g_in4 (List.mem_of_getElem? (i := 100) rfl) rfl
theorem imX8_undo : Cond.instanceMethod (kY kX8_undo) ∈ gtbl := q4_100
theorem q4_101 : (Jvm.Cond.selects "PeeledHash" ({ cls := "PeeledHash", name := "undo", desc := "()I" } : Jvm.MethodName) ({ cls := "PeeledHash", name := "undo", desc := "()I" } : Jvm.MethodName)) ∈ gtbl := g_in4 (List.mem_of_getElem? (i := 101) rfl) rfl
theorem seX8_undo : Cond.selects RX8 (kY kX8_undo) (kY kX8_undo) ∈ gtbl := q4_101
abbrev kX0_takeBack : gK := (RX0, yX0_takeBack, cX0_takeBack, 3, some .int)
theorem q4_106 : (Jvm.Cond.code ({ cls := "PeeledHash$History", name := "takeBack", desc := "(LPeeledHash$State;)I" } : Jvm.MethodName) prog_2_method_5_code (3 : Nat) (Option.some Jvm.ClassFile.FieldType.int)) ∈ gtbl := g_in4 (List.mem_of_getElem? (i := 106) rfl) rfl
theorem qcX0_takeBack : Cond.code (kY kX0_takeBack) (kB kX0_takeBack) (kN kX0_takeBack) (kR kX0_takeBack) ∈ gtbl := q4_106
theorem q4_104 : (Jvm.Cond.instanceMethod ({ cls := "PeeledHash$History", name := "takeBack", desc := "(LPeeledHash$State;)I" } : Jvm.MethodName)) ∈ gtbl := g_in4 (List.mem_of_getElem? (i := 104) rfl) rfl
theorem imX0_takeBack : Cond.instanceMethod (kY kX0_takeBack) ∈ gtbl := q4_104
theorem q4_105 : (Jvm.Cond.selects "PeeledHash$History" ({ cls := "PeeledHash$History", name := "takeBack", desc := "(LPeeledHash$State;)I" } : Jvm.MethodName) ({ cls := "PeeledHash$History", name := "takeBack", desc := "(LPeeledHash$State;)I" } : Jvm.MethodName)) ∈ gtbl := g_in4 (List.mem_of_getElem? (i := 105) rfl) rfl
theorem seX0_takeBack : Cond.selects RX0 (kY kX0_takeBack) (kY kX0_takeBack) ∈ gtbl := q4_105
abbrev kX8_core : gK := (RX8, yX8_core, cX8_core, 2, some .int)
theorem q4_110 : (Jvm.Cond.code ({ cls := "PeeledHash", name := "core", desc := "(I)I" } : Jvm.MethodName) prog_1_method_22_code (2 : Nat) (Option.some Jvm.ClassFile.FieldType.int)) ∈ gtbl := g_in4 (List.mem_of_getElem? (i := 110) rfl) rfl
theorem qcX8_core : Cond.code (kY kX8_core) (kB kX8_core) (kN kX8_core) (kR kX8_core) ∈ gtbl := q4_110
theorem q4_108 : (Jvm.Cond.instanceMethod ({ cls := "PeeledHash", name := "core", desc := "(I)I" } : Jvm.MethodName)) ∈ gtbl := g_in4 (List.mem_of_getElem? (i := 108) rfl) rfl
theorem imX8_core : Cond.instanceMethod (kY kX8_core) ∈ gtbl := q4_108
theorem q4_109 : (Jvm.Cond.selects "PeeledHash" ({ cls := "PeeledHash", name := "core", desc := "(I)I" } : Jvm.MethodName) ({ cls := "PeeledHash", name := "core", desc := "(I)I" } : Jvm.MethodName)) ∈ gtbl := g_in4 (List.mem_of_getElem? (i := 109) rfl) rfl
theorem seX8_core : Cond.selects RX8 (kY kX8_core) (kY kX8_core) ∈ gtbl := q4_109
abbrev kX8_peeled : gK := (RX8, yX8_peeled, cX8_peeled, 4, some .int)
theorem q4_115 : (Jvm.Cond.code ({ cls := "PeeledHash", name := "peeled", desc := "(II)I" } : Jvm.MethodName) prog_1_method_23_code (4 : Nat) (Option.some Jvm.ClassFile.FieldType.int)) ∈ gtbl := g_in4 (List.mem_of_getElem? (i := 115) rfl) rfl
theorem qcX8_peeled : Cond.code (kY kX8_peeled) (kB kX8_peeled) (kN kX8_peeled) (kR kX8_peeled) ∈ gtbl := q4_115
theorem q4_113 : (Jvm.Cond.instanceMethod ({ cls := "PeeledHash", name := "peeled", desc := "(II)I" } : Jvm.MethodName)) ∈ gtbl := g_in4 (List.mem_of_getElem? (i := 113) rfl) rfl
theorem imX8_peeled : Cond.instanceMethod (kY kX8_peeled) ∈ gtbl := q4_113
theorem q4_114 : (Jvm.Cond.selects "PeeledHash" ({ cls := "PeeledHash", name := "peeled", desc := "(II)I" } : Jvm.MethodName) ({ cls := "PeeledHash", name := "peeled", desc := "(II)I" } : Jvm.MethodName)) ∈ gtbl := g_in4 (List.mem_of_getElem? (i := 114) rfl) rfl
theorem seX8_peeled : Cond.selects RX8 (kY kX8_peeled) (kY kX8_peeled) ∈ gtbl := q4_114
abbrev kX8_good : gK := (RX8, yX8_good, cX8_good, 4, some .int)
theorem q4_119 : (Jvm.Cond.code ({ cls := "PeeledHash", name := "good", desc := "(I)I" } : Jvm.MethodName) prog_1_method_24_code (4 : Nat) (Option.some Jvm.ClassFile.FieldType.int)) ∈ gtbl := g_in4 (List.mem_of_getElem? (i := 119) rfl) rfl
theorem qcX8_good : Cond.code (kY kX8_good) (kB kX8_good) (kN kX8_good) (kR kX8_good) ∈ gtbl := q4_119
theorem q4_117 : (Jvm.Cond.instanceMethod ({ cls := "PeeledHash", name := "good", desc := "(I)I" } : Jvm.MethodName)) ∈ gtbl := g_in4 (List.mem_of_getElem? (i := 117) rfl) rfl
theorem imX8_good : Cond.instanceMethod (kY kX8_good) ∈ gtbl := q4_117
theorem q4_118 : (Jvm.Cond.selects "PeeledHash" ({ cls := "PeeledHash", name := "good", desc := "(I)I" } : Jvm.MethodName) ({ cls := "PeeledHash", name := "good", desc := "(I)I" } : Jvm.MethodName)) ∈ gtbl := g_in4 (List.mem_of_getElem? (i := 118) rfl) rfl
theorem seX8_good : Cond.selects RX8 (kY kX8_good) (kY kX8_good) ∈ gtbl := q4_118
abbrev kX8_leastSide : gK := (RX8, yX8_leastSide, cX8_leastSide, 3, some .int)
theorem q4_123 : (Jvm.Cond.code ({ cls := "PeeledHash", name := "leastSide", desc := "()I" } : Jvm.MethodName) prog_1_method_25_code (3 : Nat) (Option.some Jvm.ClassFile.FieldType.int)) ∈ gtbl := g_in4 (List.mem_of_getElem? (i := 123) rfl) rfl
theorem qcX8_leastSide : Cond.code (kY kX8_leastSide) (kB kX8_leastSide) (kN kX8_leastSide) (kR kX8_leastSide) ∈ gtbl := q4_123
theorem q4_121 : (Jvm.Cond.instanceMethod ({ cls := "PeeledHash", name := "leastSide", desc := "()I" } : Jvm.MethodName)) ∈ gtbl := g_in4 (List.mem_of_getElem? (i := 121) rfl) rfl
theorem imX8_leastSide : Cond.instanceMethod (kY kX8_leastSide) ∈ gtbl := q4_121
theorem q4_122 : (Jvm.Cond.selects "PeeledHash" ({ cls := "PeeledHash", name := "leastSide", desc := "()I" } : Jvm.MethodName) ({ cls := "PeeledHash", name := "leastSide", desc := "()I" } : Jvm.MethodName)) ∈ gtbl := g_in4 (List.mem_of_getElem? (i := 122) rfl) rfl
theorem seX8_leastSide : Cond.selects RX8 (kY kX8_leastSide) (kY kX8_leastSide) ∈ gtbl := q4_122
abbrev kX8_found : gK := (RX8, yX8_found, cX8_found, 4, some .int)
theorem q4_127 : (Jvm.Cond.code ({ cls := "PeeledHash", name := "found", desc := "(II)I" } : Jvm.MethodName) prog_1_method_26_code (4 : Nat) (Option.some Jvm.ClassFile.FieldType.int)) ∈ gtbl := g_in4 (List.mem_of_getElem? (i := 127) rfl) rfl
theorem qcX8_found : Cond.code (kY kX8_found) (kB kX8_found) (kN kX8_found) (kR kX8_found) ∈ gtbl := q4_127
theorem q4_125 : (Jvm.Cond.instanceMethod ({ cls := "PeeledHash", name := "found", desc := "(II)I" } : Jvm.MethodName)) ∈ gtbl := g_in4 (List.mem_of_getElem? (i := 125) rfl) rfl
theorem imX8_found : Cond.instanceMethod (kY kX8_found) ∈ gtbl := q4_125
theorem q4_126 : (Jvm.Cond.selects "PeeledHash" ({ cls := "PeeledHash", name := "found", desc := "(II)I" } : Jvm.MethodName) ({ cls := "PeeledHash", name := "found", desc := "(II)I" } : Jvm.MethodName)) ∈ gtbl := g_in4 (List.mem_of_getElem? (i := 126) rfl) rfl
theorem seX8_found : Cond.selects RX8 (kY kX8_found) (kY kX8_found) ∈ gtbl := q4_126
abbrev kX5_placeOf : gK := (RX5, yX5_placeOf, cX5_placeOf, 4, some .int)
theorem q4_132 : (Jvm.Cond.code ({ cls := "PeeledHash$Table", name := "placeOf", desc := "(I)I" } : Jvm.MethodName) prog_7_method_8_code (4 : Nat) (Option.some Jvm.ClassFile.FieldType.int)) ∈ gtbl := g_in4 (List.mem_of_getElem? (i := 132) rfl) rfl
theorem qcX5_placeOf : Cond.code (kY kX5_placeOf) (kB kX5_placeOf) (kN kX5_placeOf) (kR kX5_placeOf) ∈ gtbl := q4_132
theorem q4_130 : (Jvm.Cond.instanceMethod ({ cls := "PeeledHash$Table", name := "placeOf", desc := "(I)I" } : Jvm.MethodName)) ∈ gtbl := g_in4 (List.mem_of_getElem? (i := 130) rfl) rfl
theorem imX5_placeOf : Cond.instanceMethod (kY kX5_placeOf) ∈ gtbl := q4_130
theorem q4_131 : (Jvm.Cond.selects "PeeledHash$Table" ({ cls := "PeeledHash$Table", name := "placeOf", desc := "(I)I" } : Jvm.MethodName) ({ cls := "PeeledHash$Table", name := "placeOf", desc := "(I)I" } : Jvm.MethodName)) ∈ gtbl := g_in4 (List.mem_of_getElem? (i := 131) rfl) rfl
theorem seX5_placeOf : Cond.selects RX5 (kY kX5_placeOf) (kY kX5_placeOf) ∈ gtbl := q4_131
abbrev kX8_table : gK := (RX8, yX8_table, cX8_table, 3, some .int)
theorem q4_136 : (Jvm.Cond.code ({ cls := "PeeledHash", name := "table", desc := "(I)I" } : Jvm.MethodName) prog_1_method_27_code (3 : Nat) (Option.some Jvm.ClassFile.FieldType.int)) ∈ gtbl := g_in4 (List.mem_of_getElem? (i := 136) rfl) rfl
theorem qcX8_table : Cond.code (kY kX8_table) (kB kX8_table) (kN kX8_table) (kR kX8_table) ∈ gtbl := q4_136
theorem q4_134 : (Jvm.Cond.instanceMethod ({ cls := "PeeledHash", name := "table", desc := "(I)I" } : Jvm.MethodName)) ∈ gtbl := g_in4 (List.mem_of_getElem? (i := 134) rfl) rfl
theorem imX8_table : Cond.instanceMethod (kY kX8_table) ∈ gtbl := q4_134
theorem q4_135 : (Jvm.Cond.selects "PeeledHash" ({ cls := "PeeledHash", name := "table", desc := "(I)I" } : Jvm.MethodName) ({ cls := "PeeledHash", name := "table", desc := "(I)I" } : Jvm.MethodName)) ∈ gtbl := g_in4 (List.mem_of_getElem? (i := 135) rfl) rfl
theorem seX8_table : Cond.selects RX8 (kY kX8_table) (kY kX8_table) ∈ gtbl := q4_135
abbrev kX5_signAt : gK := (RX5, yX5_signAt, cX5_signAt, 2, some .int)
theorem q4_141 : (Jvm.Cond.code ({ cls := "PeeledHash$Table", name := "signAt", desc := "(I)I" } : Jvm.MethodName) prog_7_method_10_code (2 : Nat) (Option.some Jvm.ClassFile.FieldType.int)) ∈ gtbl := g_in4 (List.mem_of_getElem? (i := 141) rfl) rfl
theorem qcX5_signAt : Cond.code (kY kX5_signAt) (kB kX5_signAt) (kN kX5_signAt) (kR kX5_signAt) ∈ gtbl := q4_141
theorem q4_139 : (Jvm.Cond.instanceMethod ({ cls := "PeeledHash$Table", name := "signAt", desc := "(I)I" } : Jvm.MethodName)) ∈ gtbl := g_in4 (List.mem_of_getElem? (i := 139) rfl) rfl
theorem imX5_signAt : Cond.instanceMethod (kY kX5_signAt) ∈ gtbl := q4_139
theorem q4_140 : (Jvm.Cond.selects "PeeledHash$Table" ({ cls := "PeeledHash$Table", name := "signAt", desc := "(I)I" } : Jvm.MethodName) ({ cls := "PeeledHash$Table", name := "signAt", desc := "(I)I" } : Jvm.MethodName)) ∈ gtbl := g_in4 (List.mem_of_getElem? (i := 140) rfl) rfl
theorem seX5_signAt : Cond.selects RX5 (kY kX5_signAt) (kY kX5_signAt) ∈ gtbl := q4_140
abbrev kX5_packed : gK := (RX5, yX5_packed, cX5_packed, 5, some .int)
theorem q4_145 : (Jvm.Cond.code ({ cls := "PeeledHash$Table", name := "packed", desc := "(I)I" } : Jvm.MethodName) prog_7_method_11_code (5 : Nat) (Option.some Jvm.ClassFile.FieldType.int)) ∈ gtbl := g_in4 (List.mem_of_getElem? (i := 145) rfl) rfl
theorem qcX5_packed : Cond.code (kY kX5_packed) (kB kX5_packed) (kN kX5_packed) (kR kX5_packed) ∈ gtbl := q4_145
theorem q4_143 : (Jvm.Cond.instanceMethod ({ cls := "PeeledHash$Table", name := "packed", desc := "(I)I" } : Jvm.MethodName)) ∈ gtbl := g_in4 (List.mem_of_getElem? (i := 143) rfl) rfl
theorem imX5_packed : Cond.instanceMethod (kY kX5_packed) ∈ gtbl := q4_143
theorem q4_144 : (Jvm.Cond.selects "PeeledHash$Table" ({ cls := "PeeledHash$Table", name := "packed", desc := "(I)I" } : Jvm.MethodName) ({ cls := "PeeledHash$Table", name := "packed", desc := "(I)I" } : Jvm.MethodName)) ∈ gtbl := g_in4 (List.mem_of_getElem? (i := 144) rfl) rfl
theorem seX5_packed : Cond.selects RX5 (kY kX5_packed) (kY kX5_packed) ∈ gtbl := q4_144
abbrev kX8_twin : gK := (RX8, yX8_twin, cX8_twin, 5, some .int)
theorem q4_150 : (Jvm.Cond.code ({ cls := "PeeledHash", name := "twin", desc := "(I)I" } : Jvm.MethodName) prog_1_method_28_code (5 : Nat) (Option.some Jvm.ClassFile.FieldType.int)) ∈ gtbl := g_in4 (List.mem_of_getElem? (i := 150) rfl) rfl
theorem qcX8_twin : Cond.code (kY kX8_twin) (kB kX8_twin) (kN kX8_twin) (kR kX8_twin) ∈ gtbl := q4_150
theorem q4_148 : (Jvm.Cond.instanceMethod ({ cls := "PeeledHash", name := "twin", desc := "(I)I" } : Jvm.MethodName)) ∈ gtbl := g_in4 (List.mem_of_getElem? (i := 148) rfl) rfl
theorem imX8_twin : Cond.instanceMethod (kY kX8_twin) ∈ gtbl := q4_148
theorem q4_149 : (Jvm.Cond.selects "PeeledHash" ({ cls := "PeeledHash", name := "twin", desc := "(I)I" } : Jvm.MethodName) ({ cls := "PeeledHash", name := "twin", desc := "(I)I" } : Jvm.MethodName)) ∈ gtbl := g_in4 (List.mem_of_getElem? (i := 149) rfl) rfl
theorem seX8_twin : Cond.selects RX8 (kY kX8_twin) (kY kX8_twin) ∈ gtbl := q4_149
abbrev kX5_hadKey : gK := (RX5, yX5_hadKey, cX5_hadKey, 3, some .boolean)
theorem q4_154 : (Jvm.Cond.code ({ cls := "PeeledHash$Table", name := "hadKey", desc := "(I)Z" } : Jvm.MethodName) prog_7_method_5_code (3 : Nat) (Option.some Jvm.ClassFile.FieldType.boolean)) ∈ gtbl := g_in4 (List.mem_of_getElem? (i := 154) rfl) rfl
theorem qcX5_hadKey : Cond.code (kY kX5_hadKey) (kB kX5_hadKey) (kN kX5_hadKey) (kR kX5_hadKey) ∈ gtbl := q4_154
theorem q4_152 : (Jvm.Cond.instanceMethod ({ cls := "PeeledHash$Table", name := "hadKey", desc := "(I)Z" } : Jvm.MethodName)) ∈ gtbl := g_in4 (List.mem_of_getElem? (i := 152) rfl) rfl
theorem imX5_hadKey : Cond.instanceMethod (kY kX5_hadKey) ∈ gtbl := q4_152
theorem q4_153 : (Jvm.Cond.selects "PeeledHash$Table" ({ cls := "PeeledHash$Table", name := "hadKey", desc := "(I)Z" } : Jvm.MethodName) ({ cls := "PeeledHash$Table", name := "hadKey", desc := "(I)Z" } : Jvm.MethodName)) ∈ gtbl := g_in4 (List.mem_of_getElem? (i := 153) rfl) rfl
theorem seX5_hadKey : Cond.selects RX5 (kY kX5_hadKey) (kY kX5_hadKey) ∈ gtbl := q4_153
abbrev kX8_seen : gK := (RX8, yX8_seen, cX8_seen, 3, some .int)
theorem q4_158 : (Jvm.Cond.code ({ cls := "PeeledHash", name := "seen", desc := "(II)I" } : Jvm.MethodName) prog_1_method_29_code (3 : Nat) (Option.some Jvm.ClassFile.FieldType.int)) ∈ gtbl := g_in4 (List.mem_of_getElem? (i := 158) rfl) rfl
theorem qcX8_seen : Cond.code (kY kX8_seen) (kB kX8_seen) (kN kX8_seen) (kR kX8_seen) ∈ gtbl := q4_158
theorem q4_156 : (Jvm.Cond.instanceMethod ({ cls := "PeeledHash", name := "seen", desc := "(II)I" } : Jvm.MethodName)) ∈ gtbl := g_in4 (List.mem_of_getElem? (i := 156) rfl) rfl
theorem imX8_seen : Cond.instanceMethod (kY kX8_seen) ∈ gtbl := q4_156
theorem q4_157 : (Jvm.Cond.selects "PeeledHash" ({ cls := "PeeledHash", name := "seen", desc := "(II)I" } : Jvm.MethodName) ({ cls := "PeeledHash", name := "seen", desc := "(II)I" } : Jvm.MethodName)) ∈ gtbl := g_in4 (List.mem_of_getElem? (i := 157) rfl) rfl
theorem seX8_seen : Cond.selects RX8 (kY kX8_seen) (kY kX8_seen) ∈ gtbl := q4_157
abbrev kX8_forget : gK := (RX8, yX8_forget, cX8_forget, 2, some .int)
theorem q4_162 : (Jvm.Cond.code ({ cls := "PeeledHash", name := "forget", desc := "()I" } : Jvm.MethodName) prog_1_method_30_code (2 : Nat) (Option.some Jvm.ClassFile.FieldType.int)) ∈ gtbl := g_in4 (List.mem_of_getElem? (i := 162) rfl) rfl
theorem qcX8_forget : Cond.code (kY kX8_forget) (kB kX8_forget) (kN kX8_forget) (kR kX8_forget) ∈ gtbl := q4_162
theorem q4_160 : (Jvm.Cond.instanceMethod ({ cls := "PeeledHash", name := "forget", desc := "()I" } : Jvm.MethodName)) ∈ gtbl := g_in4 (List.mem_of_getElem? (i := 160) rfl) rfl
theorem imX8_forget : Cond.instanceMethod (kY kX8_forget) ∈ gtbl := q4_160
theorem q4_161 : (Jvm.Cond.selects "PeeledHash" ({ cls := "PeeledHash", name := "forget", desc := "()I" } : Jvm.MethodName) ({ cls := "PeeledHash", name := "forget", desc := "()I" } : Jvm.MethodName)) ∈ gtbl := g_in4 (List.mem_of_getElem? (i := 161) rfl) rfl
theorem seX8_forget : Cond.selects RX8 (kY kX8_forget) (kY kX8_forget) ∈ gtbl := q4_161
abbrev kX8_canBe : gK := (RX8, yX8_canBe, cX8_canBe, 3, some .int)
theorem q4_166 : (Jvm.Cond.code ({ cls := "PeeledHash", name := "canBe", desc := "(I)I" } : Jvm.MethodName) prog_1_method_31_code (3 : Nat) (Option.some Jvm.ClassFile.FieldType.int)) ∈ gtbl := g_in4 (List.mem_of_getElem? (i := 166) rfl) rfl
theorem qcX8_canBe : Cond.code (kY kX8_canBe) (kB kX8_canBe) (kN kX8_canBe) (kR kX8_canBe) ∈ gtbl := q4_166
theorem q4_164 : (Jvm.Cond.instanceMethod ({ cls := "PeeledHash", name := "canBe", desc := "(I)I" } : Jvm.MethodName)) ∈ gtbl := g_in4 (List.mem_of_getElem? (i := 164) rfl) rfl
theorem imX8_canBe : Cond.instanceMethod (kY kX8_canBe) ∈ gtbl := q4_164
theorem q4_165 : (Jvm.Cond.selects "PeeledHash" ({ cls := "PeeledHash", name := "canBe", desc := "(I)I" } : Jvm.MethodName) ({ cls := "PeeledHash", name := "canBe", desc := "(I)I" } : Jvm.MethodName)) ∈ gtbl := g_in4 (List.mem_of_getElem? (i := 165) rfl) rfl
theorem seX8_canBe : Cond.selects RX8 (kY kX8_canBe) (kY kX8_canBe) ∈ gtbl := q4_165
abbrev kX8_collectPossible : gK := (RX8, yX8_collectPossible, cX8_collectPossible, 4, some .int)
theorem q4_170 : (Jvm.Cond.code ({ cls := "PeeledHash", name := "collectPossible", desc := "()I" } : Jvm.MethodName) prog_1_method_55_code (4 : Nat) (Option.some Jvm.ClassFile.FieldType.int)) ∈ gtbl := g_in4 (List.mem_of_getElem? (i := 170) rfl) rfl
theorem qcX8_collectPossible : Cond.code (kY kX8_collectPossible) (kB kX8_collectPossible) (kN kX8_collectPossible) (kR kX8_collectPossible) ∈ gtbl := q4_170
theorem q4_169 : (Jvm.Cond.instanceMethod ({ cls := "PeeledHash", name := "collectPossible", desc := "()I" } : Jvm.MethodName)) ∈ gtbl := g_in4 (List.mem_of_getElem? (i := 169) rfl) rfl
theorem imX8_collectPossible : Cond.instanceMethod (kY kX8_collectPossible) ∈ gtbl := q4_169
abbrev kX7_fitsSeen : gK := (RX7, yX7_fitsSeen, cX7_fitsSeen, 3, some .boolean)
theorem q4_174 : (Jvm.Cond.code ({ cls := "PeeledHash$Whole", name := "fitsSeen", desc := "(I)Z" } : Jvm.MethodName) prog_9_method_3_code (3 : Nat) (Option.some Jvm.ClassFile.FieldType.boolean)) ∈ gtbl := g_in4 (List.mem_of_getElem? (i := 174) rfl) rfl
theorem qcX7_fitsSeen : Cond.code (kY kX7_fitsSeen) (kB kX7_fitsSeen) (kN kX7_fitsSeen) (kR kX7_fitsSeen) ∈ gtbl := q4_174
theorem q4_172 : (Jvm.Cond.instanceMethod ({ cls := "PeeledHash$Whole", name := "fitsSeen", desc := "(I)Z" } : Jvm.MethodName)) ∈ gtbl := g_in4 (List.mem_of_getElem? (i := 172) rfl) rfl
theorem imX7_fitsSeen : Cond.instanceMethod (kY kX7_fitsSeen) ∈ gtbl := q4_172
theorem q4_173 : (Jvm.Cond.selects "PeeledHash$Whole" ({ cls := "PeeledHash$Whole", name := "fitsSeen", desc := "(I)Z" } : Jvm.MethodName) ({ cls := "PeeledHash$Whole", name := "fitsSeen", desc := "(I)Z" } : Jvm.MethodName)) ∈ gtbl := g_in4 (List.mem_of_getElem? (i := 173) rfl) rfl
theorem seX7_fitsSeen : Cond.selects RX7 (kY kX7_fitsSeen) (kY kX7_fitsSeen) ∈ gtbl := q4_173
abbrev kX8_ask : gK := (RX8, yX8_ask, cX8_ask, 9, some .int)
theorem q4_179 : (Jvm.Cond.code ({ cls := "PeeledHash", name := "ask", desc := "(I)I" } : Jvm.MethodName) prog_1_method_32_code (9 : Nat) (Option.some Jvm.ClassFile.FieldType.int)) ∈ gtbl := g_in4 (List.mem_of_getElem? (i := 179) rfl) rfl
theorem qcX8_ask : Cond.code (kY kX8_ask) (kB kX8_ask) (kN kX8_ask) (kR kX8_ask) ∈ gtbl := q4_179
theorem q4_177 : (Jvm.Cond.instanceMethod ({ cls := "PeeledHash", name := "ask", desc := "(I)I" } : Jvm.MethodName)) ∈ gtbl := g_in4 (List.mem_of_getElem? (i := 177) rfl) rfl
theorem imX8_ask : Cond.instanceMethod (kY kX8_ask) ∈ gtbl := q4_177
theorem q4_178 : (Jvm.Cond.selects "PeeledHash" ({ cls := "PeeledHash", name := "ask", desc := "(I)I" } : Jvm.MethodName) ({ cls := "PeeledHash", name := "ask", desc := "(I)I" } : Jvm.MethodName)) ∈ gtbl := g_in4 (List.mem_of_getElem? (i := 178) rfl) rfl
theorem seX8_ask : Cond.selects RX8 (kY kX8_ask) (kY kX8_ask) ∈ gtbl := q4_178
abbrev kX8_few : gK := (RX8, yX8_few, cX8_few, 9, some .long)
theorem q4_185 : (Jvm.Cond.code ({ cls := "PeeledHash", name := "few", desc := "(II)J" } : Jvm.MethodName) prog_1_method_33_code (9 : Nat) (Option.some Jvm.ClassFile.FieldType.long)) ∈ gtbl := g_in4 (List.mem_of_getElem? (i := 185) rfl) rfl
theorem qcX8_few : Cond.code (kY kX8_few) (kB kX8_few) (kN kX8_few) (kR kX8_few) ∈ gtbl := q4_185
theorem q4_183 : (Jvm.Cond.instanceMethod ({ cls := "PeeledHash", name := "few", desc := "(II)J" } : Jvm.MethodName)) ∈ gtbl := g_in4 (List.mem_of_getElem? (i := 183) rfl) rfl
theorem imX8_few : Cond.instanceMethod (kY kX8_few) ∈ gtbl := q4_183
theorem q4_184 : (Jvm.Cond.selects "PeeledHash" ({ cls := "PeeledHash", name := "few", desc := "(II)J" } : Jvm.MethodName) ({ cls := "PeeledHash", name := "few", desc := "(II)J" } : Jvm.MethodName)) ∈ gtbl := g_in4 (List.mem_of_getElem? (i := 184) rfl) rfl
theorem seX8_few : Cond.selects RX8 (kY kX8_few) (kY kX8_few) ∈ gtbl := q4_184
abbrev kJ7_fill_d0a16 : gK := (RJ7, yJ7_fill_d0a16, cJ7_fill_d0a16, 5, none)
theorem q4_189 : (Jvm.Cond.code ({ cls := "java/util/Arrays", name := "fill", desc := "([JJ)V" } : Jvm.MethodName) prog_17_method_101_code (5 : Nat) (Option.none : Option Jvm.ClassFile.FieldType)) ∈ gtbl := g_in4 (List.mem_of_getElem? (i := 189) rfl) rfl
theorem qcJ7_fill_d0a16 : Cond.code (kY kJ7_fill_d0a16) (kB kJ7_fill_d0a16) (kN kJ7_fill_d0a16) (kR kJ7_fill_d0a16) ∈ gtbl := q4_189
theorem q4_188 : (Jvm.Cond.static ({ cls := "java/util/Arrays", name := "fill", desc := "([JJ)V" } : Jvm.MethodName)) ∈ gtbl := g_in4 (List.mem_of_getElem? (i := 188) rfl) rfl
theorem smJ7_fill_d0a16 : Cond.static (kY kJ7_fill_d0a16) ∈ gtbl := q4_188
abbrev kX8_compare : gK := (RX8, yX8_compare, cX8_compare, 4, some .int)
theorem q4_195 : (Jvm.Cond.code ({ cls := "PeeledHash", name := "compare", desc := "(II)I" } : Jvm.MethodName) prog_1_method_34_code (4 : Nat) (Option.some Jvm.ClassFile.FieldType.int)) ∈ gtbl := g_in4 (List.mem_of_getElem? (i := 195) rfl) rfl
theorem qcX8_compare : Cond.code (kY kX8_compare) (kB kX8_compare) (kN kX8_compare) (kR kX8_compare) ∈ gtbl := q4_195
theorem q4_193 : (Jvm.Cond.instanceMethod ({ cls := "PeeledHash", name := "compare", desc := "(II)I" } : Jvm.MethodName)) ∈ gtbl := g_in4 (List.mem_of_getElem? (i := 193) rfl) rfl
theorem imX8_compare : Cond.instanceMethod (kY kX8_compare) ∈ gtbl := q4_193
theorem q4_194 : (Jvm.Cond.selects "PeeledHash" ({ cls := "PeeledHash", name := "compare", desc := "(II)I" } : Jvm.MethodName) ({ cls := "PeeledHash", name := "compare", desc := "(II)I" } : Jvm.MethodName)) ∈ gtbl := g_in4 (List.mem_of_getElem? (i := 194) rfl) rfl
theorem seX8_compare : Cond.selects RX8 (kY kX8_compare) (kY kX8_compare) ∈ gtbl := q4_194
abbrev kX8_years : gK := (RX8, yX8_years, cX8_years, 7, some .int)
theorem q4_199 : (Jvm.Cond.code ({ cls := "PeeledHash", name := "years", desc := "(II)I" } : Jvm.MethodName) prog_1_method_35_code (7 : Nat) (Option.some Jvm.ClassFile.FieldType.int)) ∈ gtbl := g_in4 (List.mem_of_getElem? (i := 199) rfl) rfl
theorem qcX8_years : Cond.code (kY kX8_years) (kB kX8_years) (kN kX8_years) (kR kX8_years) ∈ gtbl := q4_199
theorem q4_197 : (Jvm.Cond.instanceMethod ({ cls := "PeeledHash", name := "years", desc := "(II)I" } : Jvm.MethodName)) ∈ gtbl := g_in4 (List.mem_of_getElem? (i := 197) rfl) rfl
theorem imX8_years : Cond.instanceMethod (kY kX8_years) ∈ gtbl := q4_197
theorem q4_198 : (Jvm.Cond.selects "PeeledHash" ({ cls := "PeeledHash", name := "years", desc := "(II)I" } : Jvm.MethodName) ({ cls := "PeeledHash", name := "years", desc := "(II)I" } : Jvm.MethodName)) ∈ gtbl := g_in4 (List.mem_of_getElem? (i := 198) rfl) rfl
theorem seX8_years : Cond.selects RX8 (kY kX8_years) (kY kX8_years) ∈ gtbl := q4_198
abbrev kX8_nextDrawing : gK := (RX8, yX8_nextDrawing, cX8_nextDrawing, 1, some .int)
theorem q4_203 : (Jvm.Cond.code ({ cls := "PeeledHash", name := "nextDrawing", desc := "(I)I" } : Jvm.MethodName) prog_1_method_56_code (1 : Nat) (Option.some Jvm.ClassFile.FieldType.int)) ∈ gtbl := g_in4 (List.mem_of_getElem? (i := 203) rfl) rfl
theorem qcX8_nextDrawing : Cond.code (kY kX8_nextDrawing) (kB kX8_nextDrawing) (kN kX8_nextDrawing) (kR kX8_nextDrawing) ∈ gtbl := q4_203
theorem q4_202 : (Jvm.Cond.static ({ cls := "PeeledHash", name := "nextDrawing", desc := "(I)I" } : Jvm.MethodName)) ∈ gtbl := g_in4 (List.mem_of_getElem? (i := 202) rfl) rfl
theorem smX8_nextDrawing : Cond.static (kY kX8_nextDrawing) ∈ gtbl := q4_202
abbrev kX8_drawn : gK := (RX8, yX8_drawn, cX8_drawn, 2, some .int)
theorem q4_210 : (Jvm.Cond.code ({ cls := "PeeledHash", name := "drawn", desc := "(I)I" } : Jvm.MethodName) prog_1_method_36_code (2 : Nat) (Option.some Jvm.ClassFile.FieldType.int)) ∈ gtbl := g_in4 (List.mem_of_getElem? (i := 210) rfl) rfl
theorem qcX8_drawn : Cond.code (kY kX8_drawn) (kB kX8_drawn) (kN kX8_drawn) (kR kX8_drawn) ∈ gtbl := q4_210
theorem q4_208 : (Jvm.Cond.instanceMethod ({ cls := "PeeledHash", name := "drawn", desc := "(I)I" } : Jvm.MethodName)) ∈ gtbl := g_in4 (List.mem_of_getElem? (i := 208) rfl) rfl
theorem imX8_drawn : Cond.instanceMethod (kY kX8_drawn) ∈ gtbl := q4_208
theorem q4_209 : (Jvm.Cond.selects "PeeledHash" ({ cls := "PeeledHash", name := "drawn", desc := "(I)I" } : Jvm.MethodName) ({ cls := "PeeledHash", name := "drawn", desc := "(I)I" } : Jvm.MethodName)) ∈ gtbl := g_in4 (List.mem_of_getElem? (i := 209) rfl) rfl
theorem seX8_drawn : Cond.selects RX8 (kY kX8_drawn) (kY kX8_drawn) ∈ gtbl := q4_209
abbrev kX8_image : gK := (RX8, yX8_image, cX8_image, 3, some .int)
theorem q4_214 : (Jvm.Cond.code ({ cls := "PeeledHash", name := "image", desc := "(I)I" } : Jvm.MethodName) prog_1_method_37_code (3 : Nat) (Option.some Jvm.ClassFile.FieldType.int)) ∈ gtbl := g_in4 (List.mem_of_getElem? (i := 214) rfl) rfl
theorem qcX8_image : Cond.code (kY kX8_image) (kB kX8_image) (kN kX8_image) (kR kX8_image) ∈ gtbl := q4_214
theorem q4_212 : (Jvm.Cond.instanceMethod ({ cls := "PeeledHash", name := "image", desc := "(I)I" } : Jvm.MethodName)) ∈ gtbl := g_in4 (List.mem_of_getElem? (i := 212) rfl) rfl
theorem imX8_image : Cond.instanceMethod (kY kX8_image) ∈ gtbl := q4_212
theorem q4_213 : (Jvm.Cond.selects "PeeledHash" ({ cls := "PeeledHash", name := "image", desc := "(I)I" } : Jvm.MethodName) ({ cls := "PeeledHash", name := "image", desc := "(I)I" } : Jvm.MethodName)) ∈ gtbl := g_in4 (List.mem_of_getElem? (i := 213) rfl) rfl
theorem seX8_image : Cond.selects RX8 (kY kX8_image) (kY kX8_image) ∈ gtbl := q4_213
abbrev kX8_imageNumbered : gK := (RX8, yX8_imageNumbered, cX8_imageNumbered, 2, some (.object "PeeledHash$Whole"))
theorem q4_218 : (Jvm.Cond.code ({ cls := "PeeledHash", name := "imageNumbered", desc := "(I)LPeeledHash$Whole;" } : Jvm.MethodName) prog_1_method_43_code (2 : Nat) (Option.some (Jvm.ClassFile.FieldType.object "PeeledHash$Whole"))) ∈ gtbl := g_in4 (List.mem_of_getElem? (i := 218) rfl) rfl
theorem qcX8_imageNumbered : Cond.code (kY kX8_imageNumbered) (kB kX8_imageNumbered) (kN kX8_imageNumbered) (kR kX8_imageNumbered) ∈ gtbl := q4_218
theorem q4_217 : (Jvm.Cond.instanceMethod ({ cls := "PeeledHash", name := "imageNumbered", desc := "(I)LPeeledHash$Whole;" } : Jvm.MethodName)) ∈ gtbl := g_in4 (List.mem_of_getElem? (i := 217) rfl) rfl
theorem imX8_imageNumbered : Cond.instanceMethod (kY kX8_imageNumbered) ∈ gtbl := q4_217
abbrev kX7_copyFrom : gK := (RX7, yX7_copyFrom, cX7_copyFrom, 3, none)
theorem q4_222 : (Jvm.Cond.code ({ cls := "PeeledHash$Whole", name := "copyFrom", desc := "(LPeeledHash$Whole;)V" } : Jvm.MethodName) prog_9_method_2_code (3 : Nat) (Option.none : Option Jvm.ClassFile.FieldType)) ∈ gtbl := g_in4 (List.mem_of_getElem? (i := 222) rfl) rfl
theorem qcX7_copyFrom : Cond.code (kY kX7_copyFrom) (kB kX7_copyFrom) (kN kX7_copyFrom) (kR kX7_copyFrom) ∈ gtbl := q4_222
theorem q4_220 : (Jvm.Cond.instanceMethod ({ cls := "PeeledHash$Whole", name := "copyFrom", desc := "(LPeeledHash$Whole;)V" } : Jvm.MethodName)) ∈ gtbl := g_in4 (List.mem_of_getElem? (i := 220) rfl) rfl
theorem imX7_copyFrom : Cond.instanceMethod (kY kX7_copyFrom) ∈ gtbl := q4_220
theorem q4_221 : (Jvm.Cond.selects "PeeledHash$Whole" ({ cls := "PeeledHash$Whole", name := "copyFrom", desc := "(LPeeledHash$Whole;)V" } : Jvm.MethodName) ({ cls := "PeeledHash$Whole", name := "copyFrom", desc := "(LPeeledHash$Whole;)V" } : Jvm.MethodName)) ∈ gtbl := g_in4 (List.mem_of_getElem? (i := 221) rfl) rfl
theorem seX7_copyFrom : Cond.selects RX7 (kY kX7_copyFrom) (kY kX7_copyFrom) ∈ gtbl := q4_221
abbrev kX8_back : gK := (RX8, yX8_back, cX8_back, 3, some .int)
theorem q4_227 : (Jvm.Cond.code ({ cls := "PeeledHash", name := "back", desc := "(I)I" } : Jvm.MethodName) prog_1_method_38_code (3 : Nat) (Option.some Jvm.ClassFile.FieldType.int)) ∈ gtbl := g_in4 (List.mem_of_getElem? (i := 227) rfl) rfl
theorem qcX8_back : Cond.code (kY kX8_back) (kB kX8_back) (kN kX8_back) (kR kX8_back) ∈ gtbl := q4_227
theorem q4_225 : (Jvm.Cond.instanceMethod ({ cls := "PeeledHash", name := "back", desc := "(I)I" } : Jvm.MethodName)) ∈ gtbl := g_in4 (List.mem_of_getElem? (i := 225) rfl) rfl
theorem imX8_back : Cond.instanceMethod (kY kX8_back) ∈ gtbl := q4_225
theorem q4_226 : (Jvm.Cond.selects "PeeledHash" ({ cls := "PeeledHash", name := "back", desc := "(I)I" } : Jvm.MethodName) ({ cls := "PeeledHash", name := "back", desc := "(I)I" } : Jvm.MethodName)) ∈ gtbl := g_in4 (List.mem_of_getElem? (i := 226) rfl) rfl
theorem seX8_back : Cond.selects RX8 (kY kX8_back) (kY kX8_back) ∈ gtbl := q4_226
abbrev kX8_count : gK := (RX8, yX8_count, cX8_count, 3, some .int)
theorem q4_231 : (Jvm.Cond.code ({ cls := "PeeledHash", name := "count", desc := "(I)I" } : Jvm.MethodName) prog_1_method_39_code (3 : Nat) (Option.some Jvm.ClassFile.FieldType.int)) ∈ gtbl := g_in4 (List.mem_of_getElem? (i := 231) rfl) rfl
theorem qcX8_count : Cond.code (kY kX8_count) (kB kX8_count) (kN kX8_count) (kR kX8_count) ∈ gtbl := q4_231
theorem q4_229 : (Jvm.Cond.instanceMethod ({ cls := "PeeledHash", name := "count", desc := "(I)I" } : Jvm.MethodName)) ∈ gtbl := g_in4 (List.mem_of_getElem? (i := 229) rfl) rfl
theorem imX8_count : Cond.instanceMethod (kY kX8_count) ∈ gtbl := q4_229
theorem q4_230 : (Jvm.Cond.selects "PeeledHash" ({ cls := "PeeledHash", name := "count", desc := "(I)I" } : Jvm.MethodName) ({ cls := "PeeledHash", name := "count", desc := "(I)I" } : Jvm.MethodName)) ∈ gtbl := g_in4 (List.mem_of_getElem? (i := 230) rfl) rfl
theorem seX8_count : Cond.selects RX8 (kY kX8_count) (kY kX8_count) ∈ gtbl := q4_230
abbrev kX8_status : gK := (RX8, yX8_status, cX8_status, 1, some .int)
theorem q4_235 : (Jvm.Cond.code ({ cls := "PeeledHash", name := "status", desc := "()I" } : Jvm.MethodName) prog_1_method_40_code (1 : Nat) (Option.some Jvm.ClassFile.FieldType.int)) ∈ gtbl := g_in4 (List.mem_of_getElem? (i := 235) rfl) rfl
theorem qcX8_status : Cond.code (kY kX8_status) (kB kX8_status) (kN kX8_status) (kR kX8_status) ∈ gtbl := q4_235
theorem q4_233 : (Jvm.Cond.instanceMethod ({ cls := "PeeledHash", name := "status", desc := "()I" } : Jvm.MethodName)) ∈ gtbl := g_in4 (List.mem_of_getElem? (i := 233) rfl) rfl
theorem imX8_status : Cond.instanceMethod (kY kX8_status) ∈ gtbl := q4_233
theorem q4_234 : (Jvm.Cond.selects "PeeledHash" ({ cls := "PeeledHash", name := "status", desc := "()I" } : Jvm.MethodName) ({ cls := "PeeledHash", name := "status", desc := "()I" } : Jvm.MethodName)) ∈ gtbl := g_in4 (List.mem_of_getElem? (i := 234) rfl) rfl
theorem seX8_status : Cond.selects RX8 (kY kX8_status) (kY kX8_status) ∈ gtbl := q4_234
abbrev kX9_init : gK := (RX9, yX9_init, cX9_init, 1, none)
theorem q5_0 : (Jvm.Cond.code ({ cls := "PeeledHashModel", name := "<init>", desc := "()V" } : Jvm.MethodName) prog_11_method_9_code (1 : Nat) (Option.none : Option Jvm.ClassFile.FieldType)) ∈ gtbl := g_in5 (List.mem_of_getElem? (i := 0) rfl) rfl
theorem qcX9_init : Cond.code (kY kX9_init) (kB kX9_init) (kN kX9_init) (kR kX9_init) ∈ gtbl := q5_0
theorem q4_239 : (Jvm.Cond.instanceMethod ({ cls := "PeeledHashModel", name := "<init>", desc := "()V" } : Jvm.MethodName)) ∈ gtbl := g_in4 (List.mem_of_getElem? (i := 239) rfl) rfl
theorem imX9_init : Cond.instanceMethod (kY kX9_init) ∈ gtbl := q4_239
abbrev kX9_image : gK := (RX9, yX9_image, cX9_image, 3, some .int)
theorem q5_156 : (Jvm.Cond.code ({ cls := "PeeledHashModel", name := "image", desc := "(I)I" } : Jvm.MethodName) prog_11_method_12_code (3 : Nat) (Option.some Jvm.ClassFile.FieldType.int)) ∈ gtbl := g_in5 (List.mem_of_getElem? (i := 156) rfl) rfl
theorem qcX9_image : Cond.code (kY kX9_image) (kB kX9_image) (kN kX9_image) (kR kX9_image) ∈ gtbl := q5_156
theorem q5_154 : (Jvm.Cond.instanceMethod ({ cls := "PeeledHashModel", name := "image", desc := "(I)I" } : Jvm.MethodName)) ∈ gtbl := g_in5 (List.mem_of_getElem? (i := 154) rfl) rfl
theorem imX9_image : Cond.instanceMethod (kY kX9_image) ∈ gtbl := q5_154
theorem q5_155 : (Jvm.Cond.selects "PeeledHashModel" ({ cls := "PeeledHashModel", name := "image", desc := "(I)I" } : Jvm.MethodName) ({ cls := "PeeledHashModel", name := "image", desc := "(I)I" } : Jvm.MethodName)) ∈ gtbl := g_in5 (List.mem_of_getElem? (i := 155) rfl) rfl
theorem seX9_image : Cond.selects RX9 (kY kX9_image) (kY kX9_image) ∈ gtbl := q5_155
abbrev kX9_lies : gK := (RX9, yX9_lies, cX9_lies, 3, some .boolean)
theorem q5_159 : (Jvm.Cond.code ({ cls := "PeeledHashModel", name := "lies", desc := "(III)Z" } : Jvm.MethodName) prog_11_method_1_code (3 : Nat) (Option.some Jvm.ClassFile.FieldType.boolean)) ∈ gtbl := g_in5 (List.mem_of_getElem? (i := 159) rfl) rfl
theorem qcX9_lies : Cond.code (kY kX9_lies) (kB kX9_lies) (kN kX9_lies) (kR kX9_lies) ∈ gtbl := q5_159
theorem q5_158 : (Jvm.Cond.static ({ cls := "PeeledHashModel", name := "lies", desc := "(III)Z" } : Jvm.MethodName)) ∈ gtbl := g_in5 (List.mem_of_getElem? (i := 158) rfl) rfl
theorem smX9_lies : Cond.static (kY kX9_lies) ∈ gtbl := q5_158
abbrev kX9_refuses : gK := (RX9, yX9_refuses, cX9_refuses, 2, some .int)
theorem q5_163 : (Jvm.Cond.code ({ cls := "PeeledHashModel", name := "refuses", desc := "(I)I" } : Jvm.MethodName) prog_11_method_4_code (2 : Nat) (Option.some Jvm.ClassFile.FieldType.int)) ∈ gtbl := g_in5 (List.mem_of_getElem? (i := 163) rfl) rfl
theorem qcX9_refuses : Cond.code (kY kX9_refuses) (kB kX9_refuses) (kN kX9_refuses) (kR kX9_refuses) ∈ gtbl := q5_163
theorem q5_162 : (Jvm.Cond.instanceMethod ({ cls := "PeeledHashModel", name := "refuses", desc := "(I)I" } : Jvm.MethodName)) ∈ gtbl := g_in5 (List.mem_of_getElem? (i := 162) rfl) rfl
theorem imX9_refuses : Cond.instanceMethod (kY kX9_refuses) ∈ gtbl := q5_162
abbrev kX9_good0 : gK := (RX9, yX9_good0, cX9_good0, 2, some .int)
theorem q5_167 : (Jvm.Cond.code ({ cls := "PeeledHashModel", name := "good0", desc := "(I)I" } : Jvm.MethodName) prog_11_method_5_code (2 : Nat) (Option.some Jvm.ClassFile.FieldType.int)) ∈ gtbl := g_in5 (List.mem_of_getElem? (i := 167) rfl) rfl
theorem qcX9_good0 : Cond.code (kY kX9_good0) (kB kX9_good0) (kN kX9_good0) (kR kX9_good0) ∈ gtbl := q5_167
theorem q5_166 : (Jvm.Cond.instanceMethod ({ cls := "PeeledHashModel", name := "good0", desc := "(I)I" } : Jvm.MethodName)) ∈ gtbl := g_in5 (List.mem_of_getElem? (i := 166) rfl) rfl
theorem imX9_good0 : Cond.instanceMethod (kY kX9_good0) ∈ gtbl := q5_166
abbrev kX9_back : gK := (RX9, yX9_back, cX9_back, 3, some .int)
theorem q5_171 : (Jvm.Cond.code ({ cls := "PeeledHashModel", name := "back", desc := "(I)I" } : Jvm.MethodName) prog_11_method_13_code (3 : Nat) (Option.some Jvm.ClassFile.FieldType.int)) ∈ gtbl := g_in5 (List.mem_of_getElem? (i := 171) rfl) rfl
theorem qcX9_back : Cond.code (kY kX9_back) (kB kX9_back) (kN kX9_back) (kR kX9_back) ∈ gtbl := q5_171
theorem q5_169 : (Jvm.Cond.instanceMethod ({ cls := "PeeledHashModel", name := "back", desc := "(I)I" } : Jvm.MethodName)) ∈ gtbl := g_in5 (List.mem_of_getElem? (i := 169) rfl) rfl
theorem imX9_back : Cond.instanceMethod (kY kX9_back) ∈ gtbl := q5_169
theorem q5_170 : (Jvm.Cond.selects "PeeledHashModel" ({ cls := "PeeledHashModel", name := "back", desc := "(I)I" } : Jvm.MethodName) ({ cls := "PeeledHashModel", name := "back", desc := "(I)I" } : Jvm.MethodName)) ∈ gtbl := g_in5 (List.mem_of_getElem? (i := 170) rfl) rfl
theorem seX9_back : Cond.selects RX9 (kY kX9_back) (kY kX9_back) ∈ gtbl := q5_170
abbrev kX9_settled : gK := (RX9, yX9_settled, cX9_settled, 2, some .int)
theorem q5_175 : (Jvm.Cond.code ({ cls := "PeeledHashModel", name := "settled", desc := "(I)I" } : Jvm.MethodName) prog_11_method_6_code (2 : Nat) (Option.some Jvm.ClassFile.FieldType.int)) ∈ gtbl := g_in5 (List.mem_of_getElem? (i := 175) rfl) rfl
theorem qcX9_settled : Cond.code (kY kX9_settled) (kB kX9_settled) (kN kX9_settled) (kR kX9_settled) ∈ gtbl := q5_175
theorem q5_174 : (Jvm.Cond.instanceMethod ({ cls := "PeeledHashModel", name := "settled", desc := "(I)I" } : Jvm.MethodName)) ∈ gtbl := g_in5 (List.mem_of_getElem? (i := 174) rfl) rfl
theorem imX9_settled : Cond.instanceMethod (kY kX9_settled) ∈ gtbl := q5_174
abbrev kX9_key : gK := (RX9, yX9_key, cX9_key, 3, some .int)
theorem q5_179 : (Jvm.Cond.code ({ cls := "PeeledHashModel", name := "key", desc := "(II)I" } : Jvm.MethodName) prog_11_method_22_code (3 : Nat) (Option.some Jvm.ClassFile.FieldType.int)) ∈ gtbl := g_in5 (List.mem_of_getElem? (i := 179) rfl) rfl
theorem qcX9_key : Cond.code (kY kX9_key) (kB kX9_key) (kN kX9_key) (kR kX9_key) ∈ gtbl := q5_179
theorem q5_177 : (Jvm.Cond.instanceMethod ({ cls := "PeeledHashModel", name := "key", desc := "(II)I" } : Jvm.MethodName)) ∈ gtbl := g_in5 (List.mem_of_getElem? (i := 177) rfl) rfl
theorem imX9_key : Cond.instanceMethod (kY kX9_key) ∈ gtbl := q5_177
theorem q5_178 : (Jvm.Cond.selects "PeeledHashModel" ({ cls := "PeeledHashModel", name := "key", desc := "(II)I" } : Jvm.MethodName) ({ cls := "PeeledHashModel", name := "key", desc := "(II)I" } : Jvm.MethodName)) ∈ gtbl := g_in5 (List.mem_of_getElem? (i := 178) rfl) rfl
theorem seX9_key : Cond.selects RX9 (kY kX9_key) (kY kX9_key) ∈ gtbl := q5_178
abbrev kX9_isKey : gK := (RX9, yX9_isKey, cX9_isKey, 1, some .boolean)
theorem q5_182 : (Jvm.Cond.code ({ cls := "PeeledHashModel", name := "isKey", desc := "(I)Z" } : Jvm.MethodName) prog_11_method_7_code (1 : Nat) (Option.some Jvm.ClassFile.FieldType.boolean)) ∈ gtbl := g_in5 (List.mem_of_getElem? (i := 182) rfl) rfl
theorem qcX9_isKey : Cond.code (kY kX9_isKey) (kB kX9_isKey) (kN kX9_isKey) (kR kX9_isKey) ∈ gtbl := q5_182
theorem q5_181 : (Jvm.Cond.static ({ cls := "PeeledHashModel", name := "isKey", desc := "(I)Z" } : Jvm.MethodName)) ∈ gtbl := g_in5 (List.mem_of_getElem? (i := 181) rfl) rfl
theorem smX9_isKey : Cond.static (kY kX9_isKey) ∈ gtbl := q5_181
abbrev kX9_isThere : gK := (RX9, yX9_isThere, cX9_isThere, 3, some .boolean)
theorem q5_186 : (Jvm.Cond.code ({ cls := "PeeledHashModel", name := "isThere", desc := "(I)Z" } : Jvm.MethodName) prog_11_method_16_code (3 : Nat) (Option.some Jvm.ClassFile.FieldType.boolean)) ∈ gtbl := g_in5 (List.mem_of_getElem? (i := 186) rfl) rfl
theorem qcX9_isThere : Cond.code (kY kX9_isThere) (kB kX9_isThere) (kN kX9_isThere) (kR kX9_isThere) ∈ gtbl := q5_186
theorem q5_185 : (Jvm.Cond.instanceMethod ({ cls := "PeeledHashModel", name := "isThere", desc := "(I)Z" } : Jvm.MethodName)) ∈ gtbl := g_in5 (List.mem_of_getElem? (i := 185) rfl) rfl
theorem imX9_isThere : Cond.instanceMethod (kY kX9_isThere) ∈ gtbl := q5_185
abbrev kX9_lowerMany : gK := (RX9, yX9_lowerMany, cX9_lowerMany, 4, some .int)
theorem q5_190 : (Jvm.Cond.code ({ cls := "PeeledHashModel", name := "lowerMany", desc := "(I)I" } : Jvm.MethodName) prog_11_method_15_code (4 : Nat) (Option.some Jvm.ClassFile.FieldType.int)) ∈ gtbl := g_in5 (List.mem_of_getElem? (i := 190) rfl) rfl
theorem qcX9_lowerMany : Cond.code (kY kX9_lowerMany) (kB kX9_lowerMany) (kN kX9_lowerMany) (kR kX9_lowerMany) ∈ gtbl := q5_190
theorem q5_189 : (Jvm.Cond.instanceMethod ({ cls := "PeeledHashModel", name := "lowerMany", desc := "(I)I" } : Jvm.MethodName)) ∈ gtbl := g_in5 (List.mem_of_getElem? (i := 189) rfl) rfl
theorem imX9_lowerMany : Cond.instanceMethod (kY kX9_lowerMany) ∈ gtbl := q5_189
abbrev kX9_keyAt : gK := (RX9, yX9_keyAt, cX9_keyAt, 2, some .int)
theorem q5_194 : (Jvm.Cond.code ({ cls := "PeeledHashModel", name := "keyAt", desc := "(I)I" } : Jvm.MethodName) prog_11_method_14_code (2 : Nat) (Option.some Jvm.ClassFile.FieldType.int)) ∈ gtbl := g_in5 (List.mem_of_getElem? (i := 194) rfl) rfl
theorem qcX9_keyAt : Cond.code (kY kX9_keyAt) (kB kX9_keyAt) (kN kX9_keyAt) (kR kX9_keyAt) ∈ gtbl := q5_194
theorem q5_193 : (Jvm.Cond.instanceMethod ({ cls := "PeeledHashModel", name := "keyAt", desc := "(I)I" } : Jvm.MethodName)) ∈ gtbl := g_in5 (List.mem_of_getElem? (i := 193) rfl) rfl
theorem imX9_keyAt : Cond.instanceMethod (kY kX9_keyAt) ∈ gtbl := q5_193
abbrev kX9_isBarred : gK := (RX9, yX9_isBarred, cX9_isBarred, 2, some .boolean)
theorem q5_198 : (Jvm.Cond.code ({ cls := "PeeledHashModel", name := "isBarred", desc := "(I)Z" } : Jvm.MethodName) prog_11_method_74_code (2 : Nat) (Option.some Jvm.ClassFile.FieldType.boolean)) ∈ gtbl := g_in5 (List.mem_of_getElem? (i := 198) rfl) rfl
theorem qcX9_isBarred : Cond.code (kY kX9_isBarred) (kB kX9_isBarred) (kN kX9_isBarred) (kR kX9_isBarred) ∈ gtbl := q5_198
theorem q5_197 : (Jvm.Cond.instanceMethod ({ cls := "PeeledHashModel", name := "isBarred", desc := "(I)Z" } : Jvm.MethodName)) ∈ gtbl := g_in5 (List.mem_of_getElem? (i := 197) rfl) rfl
theorem imX9_isBarred : Cond.instanceMethod (kY kX9_isBarred) ∈ gtbl := q5_197
abbrev kX9_setsAsked : gK := (RX9, yX9_setsAsked, cX9_setsAsked, 6, none)
theorem q5_202 : (Jvm.Cond.code ({ cls := "PeeledHashModel", name := "setsAsked", desc := "(IIIII)V" } : Jvm.MethodName) prog_11_method_72_code (6 : Nat) (Option.none : Option Jvm.ClassFile.FieldType)) ∈ gtbl := g_in5 (List.mem_of_getElem? (i := 202) rfl) rfl
theorem qcX9_setsAsked : Cond.code (kY kX9_setsAsked) (kB kX9_setsAsked) (kN kX9_setsAsked) (kR kX9_setsAsked) ∈ gtbl := q5_202
theorem q5_201 : (Jvm.Cond.instanceMethod ({ cls := "PeeledHashModel", name := "setsAsked", desc := "(IIIII)V" } : Jvm.MethodName)) ∈ gtbl := g_in5 (List.mem_of_getElem? (i := 201) rfl) rfl
theorem imX9_setsAsked : Cond.instanceMethod (kY kX9_setsAsked) ∈ gtbl := q5_201
abbrev kX9_tells : gK := (RX9, yX9_tells, cX9_tells, 10, some .int)
theorem q5_206 : (Jvm.Cond.code ({ cls := "PeeledHashModel", name := "tells", desc := "(II)I" } : Jvm.MethodName) prog_11_method_71_code (10 : Nat) (Option.some Jvm.ClassFile.FieldType.int)) ∈ gtbl := g_in5 (List.mem_of_getElem? (i := 206) rfl) rfl
theorem qcX9_tells : Cond.code (kY kX9_tells) (kB kX9_tells) (kN kX9_tells) (kR kX9_tells) ∈ gtbl := q5_206
theorem q5_205 : (Jvm.Cond.instanceMethod ({ cls := "PeeledHashModel", name := "tells", desc := "(II)I" } : Jvm.MethodName)) ∈ gtbl := g_in5 (List.mem_of_getElem? (i := 205) rfl) rfl
theorem imX9_tells : Cond.instanceMethod (kY kX9_tells) ∈ gtbl := q5_205
abbrev kX9_codeAt : gK := (RX9, yX9_codeAt, cX9_codeAt, 2, some .int)
theorem q5_210 : (Jvm.Cond.code ({ cls := "PeeledHashModel", name := "codeAt", desc := "(I)I" } : Jvm.MethodName) prog_11_method_60_code (2 : Nat) (Option.some Jvm.ClassFile.FieldType.int)) ∈ gtbl := g_in5 (List.mem_of_getElem? (i := 210) rfl) rfl
theorem qcX9_codeAt : Cond.code (kY kX9_codeAt) (kB kX9_codeAt) (kN kX9_codeAt) (kR kX9_codeAt) ∈ gtbl := q5_210
theorem q5_209 : (Jvm.Cond.instanceMethod ({ cls := "PeeledHashModel", name := "codeAt", desc := "(I)I" } : Jvm.MethodName)) ∈ gtbl := g_in5 (List.mem_of_getElem? (i := 209) rfl) rfl
theorem imX9_codeAt : Cond.instanceMethod (kY kX9_codeAt) ∈ gtbl := q5_209
abbrev kX9_sumOf : gK := (RX9, yX9_sumOf, cX9_sumOf, 7, some .long)
theorem q5_214 : (Jvm.Cond.code ({ cls := "PeeledHashModel", name := "sumOf", desc := "(Z)J" } : Jvm.MethodName) prog_11_method_63_code (7 : Nat) (Option.some Jvm.ClassFile.FieldType.long)) ∈ gtbl := g_in5 (List.mem_of_getElem? (i := 214) rfl) rfl
theorem qcX9_sumOf : Cond.code (kY kX9_sumOf) (kB kX9_sumOf) (kN kX9_sumOf) (kR kX9_sumOf) ∈ gtbl := q5_214
theorem q5_213 : (Jvm.Cond.instanceMethod ({ cls := "PeeledHashModel", name := "sumOf", desc := "(Z)J" } : Jvm.MethodName)) ∈ gtbl := g_in5 (List.mem_of_getElem? (i := 213) rfl) rfl
theorem imX9_sumOf : Cond.instanceMethod (kY kX9_sumOf) ∈ gtbl := q5_213
abbrev kX9_termOf : gK := (RX9, yX9_termOf, cX9_termOf, 7, some .long)
theorem q5_218 : (Jvm.Cond.code ({ cls := "PeeledHashModel", name := "termOf", desc := "(Z)J" } : Jvm.MethodName) prog_11_method_64_code (7 : Nat) (Option.some Jvm.ClassFile.FieldType.long)) ∈ gtbl := g_in5 (List.mem_of_getElem? (i := 218) rfl) rfl
theorem qcX9_termOf : Cond.code (kY kX9_termOf) (kB kX9_termOf) (kN kX9_termOf) (kR kX9_termOf) ∈ gtbl := q5_218
theorem q5_217 : (Jvm.Cond.instanceMethod ({ cls := "PeeledHashModel", name := "termOf", desc := "(Z)J" } : Jvm.MethodName)) ∈ gtbl := g_in5 (List.mem_of_getElem? (i := 217) rfl) rfl
theorem imX9_termOf : Cond.instanceMethod (kY kX9_termOf) ∈ gtbl := q5_217
abbrev kX9_partOf : gK := (RX9, yX9_partOf, cX9_partOf, 4, some .long)
theorem q5_222 : (Jvm.Cond.code ({ cls := "PeeledHashModel", name := "partOf", desc := "(Z)J" } : Jvm.MethodName) prog_11_method_65_code (4 : Nat) (Option.some Jvm.ClassFile.FieldType.long)) ∈ gtbl := g_in5 (List.mem_of_getElem? (i := 222) rfl) rfl
theorem qcX9_partOf : Cond.code (kY kX9_partOf) (kB kX9_partOf) (kN kX9_partOf) (kR kX9_partOf) ∈ gtbl := q5_222
theorem q5_221 : (Jvm.Cond.instanceMethod ({ cls := "PeeledHashModel", name := "partOf", desc := "(Z)J" } : Jvm.MethodName)) ∈ gtbl := g_in5 (List.mem_of_getElem? (i := 221) rfl) rfl
theorem imX9_partOf : Cond.instanceMethod (kY kX9_partOf) ∈ gtbl := q5_221
abbrev kX9_sign : gK := (RX9, yX9_sign, cX9_sign, 1, some .int)
theorem q5_225 : (Jvm.Cond.code ({ cls := "PeeledHashModel", name := "sign", desc := "(C)I" } : Jvm.MethodName) prog_11_method_42_code (1 : Nat) (Option.some Jvm.ClassFile.FieldType.int)) ∈ gtbl := g_in5 (List.mem_of_getElem? (i := 225) rfl) rfl
theorem qcX9_sign : Cond.code (kY kX9_sign) (kB kX9_sign) (kN kX9_sign) (kR kX9_sign) ∈ gtbl := q5_225
theorem q5_224 : (Jvm.Cond.static ({ cls := "PeeledHashModel", name := "sign", desc := "(C)I" } : Jvm.MethodName)) ∈ gtbl := g_in5 (List.mem_of_getElem? (i := 224) rfl) rfl
theorem smX9_sign : Cond.static (kY kX9_sign) ∈ gtbl := q5_224
abbrev kX9_passes0 : gK := (RX9, yX9_passes0, cX9_passes0, 3, some .boolean)
theorem q5_229 : (Jvm.Cond.code ({ cls := "PeeledHashModel", name := "passes0", desc := "(I)Z" } : Jvm.MethodName) prog_11_method_61_code (3 : Nat) (Option.some Jvm.ClassFile.FieldType.boolean)) ∈ gtbl := g_in5 (List.mem_of_getElem? (i := 229) rfl) rfl
theorem qcX9_passes0 : Cond.code (kY kX9_passes0) (kB kX9_passes0) (kN kX9_passes0) (kR kX9_passes0) ∈ gtbl := q5_229
theorem q5_228 : (Jvm.Cond.instanceMethod ({ cls := "PeeledHashModel", name := "passes0", desc := "(I)Z" } : Jvm.MethodName)) ∈ gtbl := g_in5 (List.mem_of_getElem? (i := 228) rfl) rfl
theorem imX9_passes0 : Cond.instanceMethod (kY kX9_passes0) ∈ gtbl := q5_228
abbrev kX9_orderValue : gK := (RX9, yX9_orderValue, cX9_orderValue, 3, some .int)
theorem q5_233 : (Jvm.Cond.code ({ cls := "PeeledHashModel", name := "orderValue", desc := "(II)I" } : Jvm.MethodName) prog_11_method_66_code (3 : Nat) (Option.some Jvm.ClassFile.FieldType.int)) ∈ gtbl := g_in5 (List.mem_of_getElem? (i := 233) rfl) rfl
theorem qcX9_orderValue : Cond.code (kY kX9_orderValue) (kB kX9_orderValue) (kN kX9_orderValue) (kR kX9_orderValue) ∈ gtbl := q5_233
theorem q5_232 : (Jvm.Cond.instanceMethod ({ cls := "PeeledHashModel", name := "orderValue", desc := "(II)I" } : Jvm.MethodName)) ∈ gtbl := g_in5 (List.mem_of_getElem? (i := 232) rfl) rfl
theorem imX9_orderValue : Cond.instanceMethod (kY kX9_orderValue) ∈ gtbl := q5_232
abbrev kX9_isVertex : gK := (RX9, yX9_isVertex, cX9_isVertex, 2, some .boolean)
theorem q5_237 : (Jvm.Cond.code ({ cls := "PeeledHashModel", name := "isVertex", desc := "(I)Z" } : Jvm.MethodName) prog_11_method_21_code (2 : Nat) (Option.some Jvm.ClassFile.FieldType.boolean)) ∈ gtbl := g_in5 (List.mem_of_getElem? (i := 237) rfl) rfl
theorem qcX9_isVertex : Cond.code (kY kX9_isVertex) (kB kX9_isVertex) (kN kX9_isVertex) (kR kX9_isVertex) ∈ gtbl := q5_237
theorem q5_236 : (Jvm.Cond.instanceMethod ({ cls := "PeeledHashModel", name := "isVertex", desc := "(I)Z" } : Jvm.MethodName)) ∈ gtbl := g_in5 (List.mem_of_getElem? (i := 236) rfl) rfl
theorem imX9_isVertex : Cond.instanceMethod (kY kX9_isVertex) ∈ gtbl := q5_236
abbrev kX9_vertexMany : gK := (RX9, yX9_vertexMany, cX9_vertexMany, 1, some .int)
theorem q6_1 : (Jvm.Cond.code ({ cls := "PeeledHashModel", name := "vertexMany", desc := "()I" } : Jvm.MethodName) prog_11_method_20_code (1 : Nat) (Option.some Jvm.ClassFile.FieldType.int)) ∈ gtbl := g_in6 (List.mem_of_getElem? (i := 1) rfl) rfl
theorem qcX9_vertexMany : Cond.code (kY kX9_vertexMany) (kB kX9_vertexMany) (kN kX9_vertexMany) (kR kX9_vertexMany) ∈ gtbl := q6_1
theorem q6_0 : (Jvm.Cond.instanceMethod ({ cls := "PeeledHashModel", name := "vertexMany", desc := "()I" } : Jvm.MethodName)) ∈ gtbl := g_in6 (List.mem_of_getElem? (i := 0) rfl) rfl
theorem imX9_vertexMany : Cond.instanceMethod (kY kX9_vertexMany) ∈ gtbl := q6_0
abbrev kX9_degreeOf : gK := (RX9, yX9_degreeOf, cX9_degreeOf, 5, some .int)
theorem q6_5 : (Jvm.Cond.code ({ cls := "PeeledHashModel", name := "degreeOf", desc := "(II)I" } : Jvm.MethodName) prog_11_method_19_code (5 : Nat) (Option.some Jvm.ClassFile.FieldType.int)) ∈ gtbl := g_in6 (List.mem_of_getElem? (i := 5) rfl) rfl
theorem qcX9_degreeOf : Cond.code (kY kX9_degreeOf) (kB kX9_degreeOf) (kN kX9_degreeOf) (kR kX9_degreeOf) ∈ gtbl := q6_5
theorem q6_4 : (Jvm.Cond.instanceMethod ({ cls := "PeeledHashModel", name := "degreeOf", desc := "(II)I" } : Jvm.MethodName)) ∈ gtbl := g_in6 (List.mem_of_getElem? (i := 4) rfl) rfl
theorem imX9_degreeOf : Cond.instanceMethod (kY kX9_degreeOf) ∈ gtbl := q6_4
abbrev kX9_hasVertex : gK := (RX9, yX9_hasVertex, cX9_hasVertex, 6, some .boolean)
theorem q6_8 : (Jvm.Cond.code ({ cls := "PeeledHashModel", name := "hasVertex", desc := "(IIII)Z" } : Jvm.MethodName) prog_11_method_18_code (6 : Nat) (Option.some Jvm.ClassFile.FieldType.boolean)) ∈ gtbl := g_in6 (List.mem_of_getElem? (i := 8) rfl) rfl
theorem qcX9_hasVertex : Cond.code (kY kX9_hasVertex) (kB kX9_hasVertex) (kN kX9_hasVertex) (kR kX9_hasVertex) ∈ gtbl := q6_8
theorem q6_7 : (Jvm.Cond.static ({ cls := "PeeledHashModel", name := "hasVertex", desc := "(IIII)Z" } : Jvm.MethodName)) ∈ gtbl := g_in6 (List.mem_of_getElem? (i := 7) rfl) rfl
theorem smX9_hasVertex : Cond.static (kY kX9_hasVertex) ∈ gtbl := q6_7
abbrev kX9_vertexOf : gK := (RX9, yX9_vertexOf, cX9_vertexOf, 4, some .int)
theorem q6_11 : (Jvm.Cond.code ({ cls := "PeeledHashModel", name := "vertexOf", desc := "(IIII)I" } : Jvm.MethodName) prog_11_method_17_code (4 : Nat) (Option.some Jvm.ClassFile.FieldType.int)) ∈ gtbl := g_in6 (List.mem_of_getElem? (i := 11) rfl) rfl
theorem qcX9_vertexOf : Cond.code (kY kX9_vertexOf) (kB kX9_vertexOf) (kN kX9_vertexOf) (kR kX9_vertexOf) ∈ gtbl := q6_11
theorem q6_10 : (Jvm.Cond.static ({ cls := "PeeledHashModel", name := "vertexOf", desc := "(IIII)I" } : Jvm.MethodName)) ∈ gtbl := g_in6 (List.mem_of_getElem? (i := 10) rfl) rfl
theorem smX9_vertexOf : Cond.static (kY kX9_vertexOf) ∈ gtbl := q6_10
abbrev kX9_found : gK := (RX9, yX9_found, cX9_found, 3, some .int)
theorem q6_15 : (Jvm.Cond.code ({ cls := "PeeledHashModel", name := "found", desc := "(II)I" } : Jvm.MethodName) prog_11_method_108_code (3 : Nat) (Option.some Jvm.ClassFile.FieldType.int)) ∈ gtbl := g_in6 (List.mem_of_getElem? (i := 15) rfl) rfl
theorem qcX9_found : Cond.code (kY kX9_found) (kB kX9_found) (kN kX9_found) (kR kX9_found) ∈ gtbl := q6_15
theorem q6_13 : (Jvm.Cond.instanceMethod ({ cls := "PeeledHashModel", name := "found", desc := "(II)I" } : Jvm.MethodName)) ∈ gtbl := g_in6 (List.mem_of_getElem? (i := 13) rfl) rfl
theorem imX9_found : Cond.instanceMethod (kY kX9_found) ∈ gtbl := q6_13
theorem q6_14 : (Jvm.Cond.selects "PeeledHashModel" ({ cls := "PeeledHashModel", name := "found", desc := "(II)I" } : Jvm.MethodName) ({ cls := "PeeledHashModel", name := "found", desc := "(II)I" } : Jvm.MethodName)) ∈ gtbl := g_in6 (List.mem_of_getElem? (i := 14) rfl) rfl
theorem seX9_found : Cond.selects RX9 (kY kX9_found) (kY kX9_found) ∈ gtbl := q6_14
abbrev kX9_ownOf : gK := (RX9, yX9_ownOf, cX9_ownOf, 3, some .int)
theorem q6_19 : (Jvm.Cond.code ({ cls := "PeeledHashModel", name := "ownOf", desc := "(I)I" } : Jvm.MethodName) prog_11_method_105_code (3 : Nat) (Option.some Jvm.ClassFile.FieldType.int)) ∈ gtbl := g_in6 (List.mem_of_getElem? (i := 19) rfl) rfl
theorem qcX9_ownOf : Cond.code (kY kX9_ownOf) (kB kX9_ownOf) (kN kX9_ownOf) (kR kX9_ownOf) ∈ gtbl := q6_19
theorem q6_18 : (Jvm.Cond.instanceMethod ({ cls := "PeeledHashModel", name := "ownOf", desc := "(I)I" } : Jvm.MethodName)) ∈ gtbl := g_in6 (List.mem_of_getElem? (i := 18) rfl) rfl
theorem imX9_ownOf : Cond.instanceMethod (kY kX9_ownOf) ∈ gtbl := q6_18
abbrev kX9_together : gK := (RX9, yX9_together, cX9_together, 5, some .int)
theorem q6_23 : (Jvm.Cond.code ({ cls := "PeeledHashModel", name := "together", desc := "(II)I" } : Jvm.MethodName) prog_11_method_84_code (5 : Nat) (Option.some Jvm.ClassFile.FieldType.int)) ∈ gtbl := g_in6 (List.mem_of_getElem? (i := 23) rfl) rfl
theorem qcX9_together : Cond.code (kY kX9_together) (kB kX9_together) (kN kX9_together) (kR kX9_together) ∈ gtbl := q6_23
theorem q6_22 : (Jvm.Cond.instanceMethod ({ cls := "PeeledHashModel", name := "together", desc := "(II)I" } : Jvm.MethodName)) ∈ gtbl := g_in6 (List.mem_of_getElem? (i := 22) rfl) rfl
theorem imX9_together : Cond.instanceMethod (kY kX9_together) ∈ gtbl := q6_22
abbrev kX9_signedBelow : gK := (RX9, yX9_signedBelow, cX9_signedBelow, 4, some .int)
theorem q6_27 : (Jvm.Cond.code ({ cls := "PeeledHashModel", name := "signedBelow", desc := "(I)I" } : Jvm.MethodName) prog_11_method_107_code (4 : Nat) (Option.some Jvm.ClassFile.FieldType.int)) ∈ gtbl := g_in6 (List.mem_of_getElem? (i := 27) rfl) rfl
theorem qcX9_signedBelow : Cond.code (kY kX9_signedBelow) (kB kX9_signedBelow) (kN kX9_signedBelow) (kR kX9_signedBelow) ∈ gtbl := q6_27
theorem q6_26 : (Jvm.Cond.instanceMethod ({ cls := "PeeledHashModel", name := "signedBelow", desc := "(I)I" } : Jvm.MethodName)) ∈ gtbl := g_in6 (List.mem_of_getElem? (i := 26) rfl) rfl
theorem imX9_signedBelow : Cond.instanceMethod (kY kX9_signedBelow) ∈ gtbl := q6_26
abbrev kX9_placeBy : gK := (RX9, yX9_placeBy, cX9_placeBy, 3, some .int)
theorem q6_31 : (Jvm.Cond.code ({ cls := "PeeledHashModel", name := "placeBy", desc := "(I)I" } : Jvm.MethodName) prog_11_method_106_code (3 : Nat) (Option.some Jvm.ClassFile.FieldType.int)) ∈ gtbl := g_in6 (List.mem_of_getElem? (i := 31) rfl) rfl
theorem qcX9_placeBy : Cond.code (kY kX9_placeBy) (kB kX9_placeBy) (kN kX9_placeBy) (kR kX9_placeBy) ∈ gtbl := q6_31
theorem q6_30 : (Jvm.Cond.instanceMethod ({ cls := "PeeledHashModel", name := "placeBy", desc := "(I)I" } : Jvm.MethodName)) ∈ gtbl := g_in6 (List.mem_of_getElem? (i := 30) rfl) rfl
theorem imX9_placeBy : Cond.instanceMethod (kY kX9_placeBy) ∈ gtbl := q6_30
abbrev kX9_bounded : gK := (RX9, yX9_bounded, cX9_bounded, 4, some .long)
theorem q6_35 : (Jvm.Cond.code ({ cls := "PeeledHashModel", name := "bounded", desc := "(JZ)J" } : Jvm.MethodName) prog_11_method_62_code (4 : Nat) (Option.some Jvm.ClassFile.FieldType.long)) ∈ gtbl := g_in6 (List.mem_of_getElem? (i := 35) rfl) rfl
theorem qcX9_bounded : Cond.code (kY kX9_bounded) (kB kX9_bounded) (kN kX9_bounded) (kR kX9_bounded) ∈ gtbl := q6_35
theorem q6_34 : (Jvm.Cond.instanceMethod ({ cls := "PeeledHashModel", name := "bounded", desc := "(JZ)J" } : Jvm.MethodName)) ∈ gtbl := g_in6 (List.mem_of_getElem? (i := 34) rfl) rfl
theorem imX9_bounded : Cond.instanceMethod (kY kX9_bounded) ∈ gtbl := q6_34
abbrev kX9_testOf : gK := (RX9, yX9_testOf, cX9_testOf, 4, some .boolean)
theorem q6_41 : (Jvm.Cond.code ({ cls := "PeeledHashModel", name := "testOf", desc := "(Z)Z" } : Jvm.MethodName) prog_11_method_67_code (4 : Nat) (Option.some Jvm.ClassFile.FieldType.boolean)) ∈ gtbl := g_in6 (List.mem_of_getElem? (i := 41) rfl) rfl
theorem qcX9_testOf : Cond.code (kY kX9_testOf) (kB kX9_testOf) (kN kX9_testOf) (kR kX9_testOf) ∈ gtbl := q6_41
theorem q6_40 : (Jvm.Cond.instanceMethod ({ cls := "PeeledHashModel", name := "testOf", desc := "(Z)Z" } : Jvm.MethodName)) ∈ gtbl := g_in6 (List.mem_of_getElem? (i := 40) rfl) rfl
theorem imX9_testOf : Cond.instanceMethod (kY kX9_testOf) ∈ gtbl := q6_40
abbrev kX9_bothOf : gK := (RX9, yX9_bothOf, cX9_bothOf, 4, some .boolean)
theorem q6_45 : (Jvm.Cond.code ({ cls := "PeeledHashModel", name := "bothOf", desc := "(Z)Z" } : Jvm.MethodName) prog_11_method_68_code (4 : Nat) (Option.some Jvm.ClassFile.FieldType.boolean)) ∈ gtbl := g_in6 (List.mem_of_getElem? (i := 45) rfl) rfl
theorem qcX9_bothOf : Cond.code (kY kX9_bothOf) (kB kX9_bothOf) (kN kX9_bothOf) (kR kX9_bothOf) ∈ gtbl := q6_45
theorem q6_44 : (Jvm.Cond.instanceMethod ({ cls := "PeeledHashModel", name := "bothOf", desc := "(Z)Z" } : Jvm.MethodName)) ∈ gtbl := g_in6 (List.mem_of_getElem? (i := 44) rfl) rfl
theorem imX9_bothOf : Cond.instanceMethod (kY kX9_bothOf) ∈ gtbl := q6_44
abbrev kX9_plainOf : gK := (RX9, yX9_plainOf, cX9_plainOf, 3, some .boolean)
theorem q6_49 : (Jvm.Cond.code ({ cls := "PeeledHashModel", name := "plainOf", desc := "(Z)Z" } : Jvm.MethodName) prog_11_method_69_code (3 : Nat) (Option.some Jvm.ClassFile.FieldType.boolean)) ∈ gtbl := g_in6 (List.mem_of_getElem? (i := 49) rfl) rfl
theorem qcX9_plainOf : Cond.code (kY kX9_plainOf) (kB kX9_plainOf) (kN kX9_plainOf) (kR kX9_plainOf) ∈ gtbl := q6_49
theorem q6_48 : (Jvm.Cond.instanceMethod ({ cls := "PeeledHashModel", name := "plainOf", desc := "(Z)Z" } : Jvm.MethodName)) ∈ gtbl := g_in6 (List.mem_of_getElem? (i := 48) rfl) rfl
theorem imX9_plainOf : Cond.instanceMethod (kY kX9_plainOf) ∈ gtbl := q6_48
abbrev kX9_positiveOf : gK := (RX9, yX9_positiveOf, cX9_positiveOf, 7, some .boolean)
theorem q6_53 : (Jvm.Cond.code ({ cls := "PeeledHashModel", name := "positiveOf", desc := "(Z)Z" } : Jvm.MethodName) prog_11_method_70_code (7 : Nat) (Option.some Jvm.ClassFile.FieldType.boolean)) ∈ gtbl := g_in6 (List.mem_of_getElem? (i := 53) rfl) rfl
theorem qcX9_positiveOf : Cond.code (kY kX9_positiveOf) (kB kX9_positiveOf) (kN kX9_positiveOf) (kR kX9_positiveOf) ∈ gtbl := q6_53
theorem q6_52 : (Jvm.Cond.instanceMethod ({ cls := "PeeledHashModel", name := "positiveOf", desc := "(Z)Z" } : Jvm.MethodName)) ∈ gtbl := g_in6 (List.mem_of_getElem? (i := 52) rfl) rfl
theorem imX9_positiveOf : Cond.instanceMethod (kY kX9_positiveOf) ∈ gtbl := q6_52
abbrev kX9_vertex : gK := (RX9, yX9_vertex, cX9_vertex, 3, some .int)
theorem q6_58 : (Jvm.Cond.code ({ cls := "PeeledHashModel", name := "vertex", desc := "(II)I" } : Jvm.MethodName) prog_11_method_23_code (3 : Nat) (Option.some Jvm.ClassFile.FieldType.int)) ∈ gtbl := g_in6 (List.mem_of_getElem? (i := 58) rfl) rfl
theorem qcX9_vertex : Cond.code (kY kX9_vertex) (kB kX9_vertex) (kN kX9_vertex) (kR kX9_vertex) ∈ gtbl := q6_58
theorem q6_56 : (Jvm.Cond.instanceMethod ({ cls := "PeeledHashModel", name := "vertex", desc := "(II)I" } : Jvm.MethodName)) ∈ gtbl := g_in6 (List.mem_of_getElem? (i := 56) rfl) rfl
theorem imX9_vertex : Cond.instanceMethod (kY kX9_vertex) ∈ gtbl := q6_56
theorem q6_57 : (Jvm.Cond.selects "PeeledHashModel" ({ cls := "PeeledHashModel", name := "vertex", desc := "(II)I" } : Jvm.MethodName) ({ cls := "PeeledHashModel", name := "vertex", desc := "(II)I" } : Jvm.MethodName)) ∈ gtbl := g_in6 (List.mem_of_getElem? (i := 57) rfl) rfl
theorem seX9_vertex : Cond.selects RX9 (kY kX9_vertex) (kY kX9_vertex) ∈ gtbl := q6_57
abbrev kX9_ranksOf : gK := (RX9, yX9_ranksOf, cX9_ranksOf, 3, some .int)
theorem q6_62 : (Jvm.Cond.code ({ cls := "PeeledHashModel", name := "ranksOf", desc := "(II)I" } : Jvm.MethodName) prog_11_method_73_code (3 : Nat) (Option.some Jvm.ClassFile.FieldType.int)) ∈ gtbl := g_in6 (List.mem_of_getElem? (i := 62) rfl) rfl
theorem qcX9_ranksOf : Cond.code (kY kX9_ranksOf) (kB kX9_ranksOf) (kN kX9_ranksOf) (kR kX9_ranksOf) ∈ gtbl := q6_62
theorem q6_61 : (Jvm.Cond.instanceMethod ({ cls := "PeeledHashModel", name := "ranksOf", desc := "(II)I" } : Jvm.MethodName)) ∈ gtbl := g_in6 (List.mem_of_getElem? (i := 61) rfl) rfl
theorem imX9_ranksOf : Cond.instanceMethod (kY kX9_ranksOf) ∈ gtbl := q6_61
abbrev kX9_there : gK := (RX9, yX9_there, cX9_there, 2, some .int)
theorem q6_66 : (Jvm.Cond.code ({ cls := "PeeledHashModel", name := "there", desc := "(I)I" } : Jvm.MethodName) prog_11_method_24_code (2 : Nat) (Option.some Jvm.ClassFile.FieldType.int)) ∈ gtbl := g_in6 (List.mem_of_getElem? (i := 66) rfl) rfl
theorem qcX9_there : Cond.code (kY kX9_there) (kB kX9_there) (kN kX9_there) (kR kX9_there) ∈ gtbl := q6_66
theorem q6_64 : (Jvm.Cond.instanceMethod ({ cls := "PeeledHashModel", name := "there", desc := "(I)I" } : Jvm.MethodName)) ∈ gtbl := g_in6 (List.mem_of_getElem? (i := 64) rfl) rfl
theorem imX9_there : Cond.instanceMethod (kY kX9_there) ∈ gtbl := q6_64
theorem q6_65 : (Jvm.Cond.selects "PeeledHashModel" ({ cls := "PeeledHashModel", name := "there", desc := "(I)I" } : Jvm.MethodName) ({ cls := "PeeledHashModel", name := "there", desc := "(I)I" } : Jvm.MethodName)) ∈ gtbl := g_in6 (List.mem_of_getElem? (i := 65) rfl) rfl
theorem seX9_there : Cond.selects RX9 (kY kX9_there) (kY kX9_there) ∈ gtbl := q6_65
abbrev kX9_ceiling : gK := (RX9, yX9_ceiling, cX9_ceiling, 3, some .int)
theorem q6_70 : (Jvm.Cond.code ({ cls := "PeeledHashModel", name := "ceiling", desc := "(I)I" } : Jvm.MethodName) prog_11_method_25_code (3 : Nat) (Option.some Jvm.ClassFile.FieldType.int)) ∈ gtbl := g_in6 (List.mem_of_getElem? (i := 70) rfl) rfl
theorem qcX9_ceiling : Cond.code (kY kX9_ceiling) (kB kX9_ceiling) (kN kX9_ceiling) (kR kX9_ceiling) ∈ gtbl := q6_70
theorem q6_68 : (Jvm.Cond.instanceMethod ({ cls := "PeeledHashModel", name := "ceiling", desc := "(I)I" } : Jvm.MethodName)) ∈ gtbl := g_in6 (List.mem_of_getElem? (i := 68) rfl) rfl
theorem imX9_ceiling : Cond.instanceMethod (kY kX9_ceiling) ∈ gtbl := q6_68
theorem q6_69 : (Jvm.Cond.selects "PeeledHashModel" ({ cls := "PeeledHashModel", name := "ceiling", desc := "(I)I" } : Jvm.MethodName) ({ cls := "PeeledHashModel", name := "ceiling", desc := "(I)I" } : Jvm.MethodName)) ∈ gtbl := g_in6 (List.mem_of_getElem? (i := 69) rfl) rfl
theorem seX9_ceiling : Cond.selects RX9 (kY kX9_ceiling) (kY kX9_ceiling) ∈ gtbl := q6_69
abbrev kX9_terms : gK := (RX9, yX9_terms, cX9_terms, 4, some .int)
theorem q6_75 : (Jvm.Cond.code ({ cls := "PeeledHashModel", name := "terms", desc := "(II)I" } : Jvm.MethodName) prog_11_method_28_code (4 : Nat) (Option.some Jvm.ClassFile.FieldType.int)) ∈ gtbl := g_in6 (List.mem_of_getElem? (i := 75) rfl) rfl
theorem qcX9_terms : Cond.code (kY kX9_terms) (kB kX9_terms) (kN kX9_terms) (kR kX9_terms) ∈ gtbl := q6_75
theorem q6_73 : (Jvm.Cond.instanceMethod ({ cls := "PeeledHashModel", name := "terms", desc := "(II)I" } : Jvm.MethodName)) ∈ gtbl := g_in6 (List.mem_of_getElem? (i := 73) rfl) rfl
theorem imX9_terms : Cond.instanceMethod (kY kX9_terms) ∈ gtbl := q6_73
theorem q6_74 : (Jvm.Cond.selects "PeeledHashModel" ({ cls := "PeeledHashModel", name := "terms", desc := "(II)I" } : Jvm.MethodName) ({ cls := "PeeledHashModel", name := "terms", desc := "(II)I" } : Jvm.MethodName)) ∈ gtbl := g_in6 (List.mem_of_getElem? (i := 74) rfl) rfl
theorem seX9_terms : Cond.selects RX9 (kY kX9_terms) (kY kX9_terms) ∈ gtbl := q6_74
abbrev kX9_isTerm : gK := (RX9, yX9_isTerm, cX9_isTerm, 2, some .boolean)
theorem q6_78 : (Jvm.Cond.code ({ cls := "PeeledHashModel", name := "isTerm", desc := "(II)Z" } : Jvm.MethodName) prog_11_method_26_code (2 : Nat) (Option.some Jvm.ClassFile.FieldType.boolean)) ∈ gtbl := g_in6 (List.mem_of_getElem? (i := 78) rfl) rfl
theorem qcX9_isTerm : Cond.code (kY kX9_isTerm) (kB kX9_isTerm) (kN kX9_isTerm) (kR kX9_isTerm) ∈ gtbl := q6_78
theorem q6_77 : (Jvm.Cond.static ({ cls := "PeeledHashModel", name := "isTerm", desc := "(II)Z" } : Jvm.MethodName)) ∈ gtbl := g_in6 (List.mem_of_getElem? (i := 77) rfl) rfl
theorem smX9_isTerm : Cond.static (kY kX9_isTerm) ∈ gtbl := q6_77
abbrev kX9_termAt : gK := (RX9, yX9_termAt, cX9_termAt, 1, some .int)
theorem q6_81 : (Jvm.Cond.code ({ cls := "PeeledHashModel", name := "termAt", desc := "(I)I" } : Jvm.MethodName) prog_11_method_27_code (1 : Nat) (Option.some Jvm.ClassFile.FieldType.int)) ∈ gtbl := g_in6 (List.mem_of_getElem? (i := 81) rfl) rfl
theorem qcX9_termAt : Cond.code (kY kX9_termAt) (kB kX9_termAt) (kN kX9_termAt) (kR kX9_termAt) ∈ gtbl := q6_81
theorem q6_80 : (Jvm.Cond.static ({ cls := "PeeledHashModel", name := "termAt", desc := "(I)I" } : Jvm.MethodName)) ∈ gtbl := g_in6 (List.mem_of_getElem? (i := 80) rfl) rfl
theorem smX9_termAt : Cond.static (kY kX9_termAt) ∈ gtbl := q6_80
abbrev kX9_row : gK := (RX9, yX9_row, cX9_row, 5, some .int)
theorem q6_85 : (Jvm.Cond.code ({ cls := "PeeledHashModel", name := "row", desc := "()I" } : Jvm.MethodName) prog_11_method_29_code (5 : Nat) (Option.some Jvm.ClassFile.FieldType.int)) ∈ gtbl := g_in6 (List.mem_of_getElem? (i := 85) rfl) rfl
theorem qcX9_row : Cond.code (kY kX9_row) (kB kX9_row) (kN kX9_row) (kR kX9_row) ∈ gtbl := q6_85
theorem q6_83 : (Jvm.Cond.instanceMethod ({ cls := "PeeledHashModel", name := "row", desc := "()I" } : Jvm.MethodName)) ∈ gtbl := g_in6 (List.mem_of_getElem? (i := 83) rfl) rfl
theorem imX9_row : Cond.instanceMethod (kY kX9_row) ∈ gtbl := q6_83
theorem q6_84 : (Jvm.Cond.selects "PeeledHashModel" ({ cls := "PeeledHashModel", name := "row", desc := "()I" } : Jvm.MethodName) ({ cls := "PeeledHashModel", name := "row", desc := "()I" } : Jvm.MethodName)) ∈ gtbl := g_in6 (List.mem_of_getElem? (i := 84) rfl) rfl
theorem seX9_row : Cond.selects RX9 (kY kX9_row) (kY kX9_row) ∈ gtbl := q6_84
abbrev kX9_adds : gK := (RX9, yX9_adds, cX9_adds, 4, some .int)
theorem q6_89 : (Jvm.Cond.code ({ cls := "PeeledHashModel", name := "adds", desc := "(I)I" } : Jvm.MethodName) prog_11_method_80_code (4 : Nat) (Option.some Jvm.ClassFile.FieldType.int)) ∈ gtbl := g_in6 (List.mem_of_getElem? (i := 89) rfl) rfl
theorem qcX9_adds : Cond.code (kY kX9_adds) (kB kX9_adds) (kN kX9_adds) (kR kX9_adds) ∈ gtbl := q6_89
theorem q6_88 : (Jvm.Cond.instanceMethod ({ cls := "PeeledHashModel", name := "adds", desc := "(I)I" } : Jvm.MethodName)) ∈ gtbl := g_in6 (List.mem_of_getElem? (i := 88) rfl) rfl
theorem imX9_adds : Cond.instanceMethod (kY kX9_adds) ∈ gtbl := q6_88
abbrev kX9_blanks : gK := (RX9, yX9_blanks, cX9_blanks, 1, some .int)
theorem q6_93 : (Jvm.Cond.code ({ cls := "PeeledHashModel", name := "blanks", desc := "()I" } : Jvm.MethodName) prog_11_method_30_code (1 : Nat) (Option.some Jvm.ClassFile.FieldType.int)) ∈ gtbl := g_in6 (List.mem_of_getElem? (i := 93) rfl) rfl
theorem qcX9_blanks : Cond.code (kY kX9_blanks) (kB kX9_blanks) (kN kX9_blanks) (kR kX9_blanks) ∈ gtbl := q6_93
theorem q6_91 : (Jvm.Cond.instanceMethod ({ cls := "PeeledHashModel", name := "blanks", desc := "()I" } : Jvm.MethodName)) ∈ gtbl := g_in6 (List.mem_of_getElem? (i := 91) rfl) rfl
theorem imX9_blanks : Cond.instanceMethod (kY kX9_blanks) ∈ gtbl := q6_91
theorem q6_92 : (Jvm.Cond.selects "PeeledHashModel" ({ cls := "PeeledHashModel", name := "blanks", desc := "()I" } : Jvm.MethodName) ({ cls := "PeeledHashModel", name := "blanks", desc := "()I" } : Jvm.MethodName)) ∈ gtbl := g_in6 (List.mem_of_getElem? (i := 92) rfl) rfl
theorem seX9_blanks : Cond.selects RX9 (kY kX9_blanks) (kY kX9_blanks) ∈ gtbl := q6_92
abbrev kX9_feed : gK := (RX9, yX9_feed, cX9_feed, 7, some .int)
theorem q6_97 : (Jvm.Cond.code ({ cls := "PeeledHashModel", name := "feed", desc := "(IIIII)I" } : Jvm.MethodName) prog_11_method_31_code (7 : Nat) (Option.some Jvm.ClassFile.FieldType.int)) ∈ gtbl := g_in6 (List.mem_of_getElem? (i := 97) rfl) rfl
theorem qcX9_feed : Cond.code (kY kX9_feed) (kB kX9_feed) (kN kX9_feed) (kR kX9_feed) ∈ gtbl := q6_97
theorem q6_95 : (Jvm.Cond.instanceMethod ({ cls := "PeeledHashModel", name := "feed", desc := "(IIIII)I" } : Jvm.MethodName)) ∈ gtbl := g_in6 (List.mem_of_getElem? (i := 95) rfl) rfl
theorem imX9_feed : Cond.instanceMethod (kY kX9_feed) ∈ gtbl := q6_95
theorem q6_96 : (Jvm.Cond.selects "PeeledHashModel" ({ cls := "PeeledHashModel", name := "feed", desc := "(IIIII)I" } : Jvm.MethodName) ({ cls := "PeeledHashModel", name := "feed", desc := "(IIIII)I" } : Jvm.MethodName)) ∈ gtbl := g_in6 (List.mem_of_getElem? (i := 96) rfl) rfl
theorem seX9_feed : Cond.selects RX9 (kY kX9_feed) (kY kX9_feed) ∈ gtbl := q6_96
abbrev kX9_end : gK := (RX9, yX9_end, cX9_end, 2, some .int)
theorem q6_101 : (Jvm.Cond.code ({ cls := "PeeledHashModel", name := "end", desc := "(I)I" } : Jvm.MethodName) prog_11_method_32_code (2 : Nat) (Option.some Jvm.ClassFile.FieldType.int)) ∈ gtbl := g_in6 (List.mem_of_getElem? (i := 101) rfl) rfl
theorem qcX9_end : Cond.code (kY kX9_end) (kB kX9_end) (kN kX9_end) (kR kX9_end) ∈ gtbl := q6_101
theorem q6_99 : (Jvm.Cond.instanceMethod ({ cls := "PeeledHashModel", name := "end", desc := "(I)I" } : Jvm.MethodName)) ∈ gtbl := g_in6 (List.mem_of_getElem? (i := 99) rfl) rfl
theorem imX9_end : Cond.instanceMethod (kY kX9_end) ∈ gtbl := q6_99
theorem q6_100 : (Jvm.Cond.selects "PeeledHashModel" ({ cls := "PeeledHashModel", name := "end", desc := "(I)I" } : Jvm.MethodName) ({ cls := "PeeledHashModel", name := "end", desc := "(I)I" } : Jvm.MethodName)) ∈ gtbl := g_in6 (List.mem_of_getElem? (i := 100) rfl) rfl
theorem seX9_end : Cond.selects RX9 (kY kX9_end) (kY kX9_end) ∈ gtbl := q6_100
abbrev kX9_law : gK := (RX9, yX9_law, cX9_law, 1, some .int)
theorem q6_105 : (Jvm.Cond.code ({ cls := "PeeledHashModel", name := "law", desc := "()I" } : Jvm.MethodName) prog_11_method_56_code (1 : Nat) (Option.some Jvm.ClassFile.FieldType.int)) ∈ gtbl := g_in6 (List.mem_of_getElem? (i := 105) rfl) rfl
theorem qcX9_law : Cond.code (kY kX9_law) (kB kX9_law) (kN kX9_law) (kR kX9_law) ∈ gtbl := q6_105
theorem q6_103 : (Jvm.Cond.instanceMethod ({ cls := "PeeledHashModel", name := "law", desc := "()I" } : Jvm.MethodName)) ∈ gtbl := g_in6 (List.mem_of_getElem? (i := 103) rfl) rfl
theorem imX9_law : Cond.instanceMethod (kY kX9_law) ∈ gtbl := q6_103
theorem q6_104 : (Jvm.Cond.selects "PeeledHashModel" ({ cls := "PeeledHashModel", name := "law", desc := "()I" } : Jvm.MethodName) ({ cls := "PeeledHashModel", name := "law", desc := "()I" } : Jvm.MethodName)) ∈ gtbl := g_in6 (List.mem_of_getElem? (i := 104) rfl) rfl
theorem seX9_law : Cond.selects RX9 (kY kX9_law) (kY kX9_law) ∈ gtbl := q6_104
abbrev kX9_readsAs : gK := (RX9, yX9_readsAs, cX9_readsAs, 2, some .boolean)
theorem q6_109 : (Jvm.Cond.code ({ cls := "PeeledHashModel", name := "readsAs", desc := "(Z)Z" } : Jvm.MethodName) prog_11_method_54_code (2 : Nat) (Option.some Jvm.ClassFile.FieldType.boolean)) ∈ gtbl := g_in6 (List.mem_of_getElem? (i := 109) rfl) rfl
theorem qcX9_readsAs : Cond.code (kY kX9_readsAs) (kB kX9_readsAs) (kN kX9_readsAs) (kR kX9_readsAs) ∈ gtbl := q6_109
theorem q6_108 : (Jvm.Cond.instanceMethod ({ cls := "PeeledHashModel", name := "readsAs", desc := "(Z)Z" } : Jvm.MethodName)) ∈ gtbl := g_in6 (List.mem_of_getElem? (i := 108) rfl) rfl
theorem imX9_readsAs : Cond.instanceMethod (kY kX9_readsAs) ∈ gtbl := q6_108
abbrev kX9_reads : gK := (RX9, yX9_reads, cX9_reads, 2, some .boolean)
theorem q6_113 : (Jvm.Cond.code ({ cls := "PeeledHashModel", name := "reads", desc := "()Z" } : Jvm.MethodName) prog_11_method_53_code (2 : Nat) (Option.some Jvm.ClassFile.FieldType.boolean)) ∈ gtbl := g_in6 (List.mem_of_getElem? (i := 113) rfl) rfl
theorem qcX9_reads : Cond.code (kY kX9_reads) (kB kX9_reads) (kN kX9_reads) (kR kX9_reads) ∈ gtbl := q6_113
theorem q6_112 : (Jvm.Cond.instanceMethod ({ cls := "PeeledHashModel", name := "reads", desc := "()Z" } : Jvm.MethodName)) ∈ gtbl := g_in6 (List.mem_of_getElem? (i := 112) rfl) rfl
theorem imX9_reads : Cond.instanceMethod (kY kX9_reads) ∈ gtbl := q6_112
abbrev kX9_splits : gK := (RX9, yX9_splits, cX9_splits, 6, none)
theorem q6_117 : (Jvm.Cond.code ({ cls := "PeeledHashModel", name := "splits", desc := "(I)V" } : Jvm.MethodName) prog_11_method_36_code (6 : Nat) (Option.none : Option Jvm.ClassFile.FieldType)) ∈ gtbl := g_in6 (List.mem_of_getElem? (i := 117) rfl) rfl
theorem qcX9_splits : Cond.code (kY kX9_splits) (kB kX9_splits) (kN kX9_splits) (kR kX9_splits) ∈ gtbl := q6_117
theorem q6_116 : (Jvm.Cond.instanceMethod ({ cls := "PeeledHashModel", name := "splits", desc := "(I)V" } : Jvm.MethodName)) ∈ gtbl := g_in6 (List.mem_of_getElem? (i := 116) rfl) rfl
theorem imX9_splits : Cond.instanceMethod (kY kX9_splits) ∈ gtbl := q6_116
abbrev kX9_isSmall : gK := (RX9, yX9_isSmall, cX9_isSmall, 1, some .boolean)
theorem q6_120 : (Jvm.Cond.code ({ cls := "PeeledHashModel", name := "isSmall", desc := "(I)Z" } : Jvm.MethodName) prog_11_method_33_code (1 : Nat) (Option.some Jvm.ClassFile.FieldType.boolean)) ∈ gtbl := g_in6 (List.mem_of_getElem? (i := 120) rfl) rfl
theorem qcX9_isSmall : Cond.code (kY kX9_isSmall) (kB kX9_isSmall) (kN kX9_isSmall) (kR kX9_isSmall) ∈ gtbl := q6_120
theorem q6_119 : (Jvm.Cond.static ({ cls := "PeeledHashModel", name := "isSmall", desc := "(I)Z" } : Jvm.MethodName)) ∈ gtbl := g_in6 (List.mem_of_getElem? (i := 119) rfl) rfl
theorem smX9_isSmall : Cond.static (kY kX9_isSmall) ∈ gtbl := q6_119
abbrev kX9_isDigit : gK := (RX9, yX9_isDigit, cX9_isDigit, 1, some .boolean)
theorem q6_123 : (Jvm.Cond.code ({ cls := "PeeledHashModel", name := "isDigit", desc := "(I)Z" } : Jvm.MethodName) prog_11_method_34_code (1 : Nat) (Option.some Jvm.ClassFile.FieldType.boolean)) ∈ gtbl := g_in6 (List.mem_of_getElem? (i := 123) rfl) rfl
theorem qcX9_isDigit : Cond.code (kY kX9_isDigit) (kB kX9_isDigit) (kN kX9_isDigit) (kR kX9_isDigit) ∈ gtbl := q6_123
theorem q6_122 : (Jvm.Cond.static ({ cls := "PeeledHashModel", name := "isDigit", desc := "(I)Z" } : Jvm.MethodName)) ∈ gtbl := g_in6 (List.mem_of_getElem? (i := 122) rfl) rfl
theorem smX9_isDigit : Cond.static (kY kX9_isDigit) ∈ gtbl := q6_122
abbrev kX9_wordOf : gK := (RX9, yX9_wordOf, cX9_wordOf, 8, some .int)
theorem q6_127 : (Jvm.Cond.code ({ cls := "PeeledHashModel", name := "wordOf", desc := "(II)I" } : Jvm.MethodName) prog_11_method_35_code (8 : Nat) (Option.some Jvm.ClassFile.FieldType.int)) ∈ gtbl := g_in6 (List.mem_of_getElem? (i := 127) rfl) rfl
theorem qcX9_wordOf : Cond.code (kY kX9_wordOf) (kB kX9_wordOf) (kN kX9_wordOf) (kR kX9_wordOf) ∈ gtbl := q6_127
theorem q6_126 : (Jvm.Cond.instanceMethod ({ cls := "PeeledHashModel", name := "wordOf", desc := "(II)I" } : Jvm.MethodName)) ∈ gtbl := g_in6 (List.mem_of_getElem? (i := 126) rfl) rfl
theorem imX9_wordOf : Cond.instanceMethod (kY kX9_wordOf) ∈ gtbl := q6_126
abbrev kX9_readOne : gK := (RX9, yX9_readOne, cX9_readOne, 1, none)
theorem q6_132 : (Jvm.Cond.code ({ cls := "PeeledHashModel", name := "readOne", desc := "()V" } : Jvm.MethodName) prog_11_method_46_code (1 : Nat) (Option.none : Option Jvm.ClassFile.FieldType)) ∈ gtbl := g_in6 (List.mem_of_getElem? (i := 132) rfl) rfl
theorem qcX9_readOne : Cond.code (kY kX9_readOne) (kB kX9_readOne) (kN kX9_readOne) (kR kX9_readOne) ∈ gtbl := q6_132
theorem q6_131 : (Jvm.Cond.instanceMethod ({ cls := "PeeledHashModel", name := "readOne", desc := "()V" } : Jvm.MethodName)) ∈ gtbl := g_in6 (List.mem_of_getElem? (i := 131) rfl) rfl
theorem imX9_readOne : Cond.instanceMethod (kY kX9_readOne) ∈ gtbl := q6_131
abbrev kX9_readOrder : gK := (RX9, yX9_readOrder, cX9_readOrder, 1, none)
theorem q6_136 : (Jvm.Cond.code ({ cls := "PeeledHashModel", name := "readOrder", desc := "()V" } : Jvm.MethodName) prog_11_method_45_code (1 : Nat) (Option.none : Option Jvm.ClassFile.FieldType)) ∈ gtbl := g_in6 (List.mem_of_getElem? (i := 136) rfl) rfl
theorem qcX9_readOrder : Cond.code (kY kX9_readOrder) (kB kX9_readOrder) (kN kX9_readOrder) (kR kX9_readOrder) ∈ gtbl := q6_136
theorem q6_135 : (Jvm.Cond.instanceMethod ({ cls := "PeeledHashModel", name := "readOrder", desc := "()V" } : Jvm.MethodName)) ∈ gtbl := g_in6 (List.mem_of_getElem? (i := 135) rfl) rfl
theorem imX9_readOrder : Cond.instanceMethod (kY kX9_readOrder) ∈ gtbl := q6_135
abbrev kX9_takes0 : gK := (RX9, yX9_takes0, cX9_takes0, 3, some .boolean)
theorem q6_140 : (Jvm.Cond.code ({ cls := "PeeledHashModel", name := "takes0", desc := "(I)Z" } : Jvm.MethodName) prog_11_method_39_code (3 : Nat) (Option.some Jvm.ClassFile.FieldType.boolean)) ∈ gtbl := g_in6 (List.mem_of_getElem? (i := 140) rfl) rfl
theorem qcX9_takes0 : Cond.code (kY kX9_takes0) (kB kX9_takes0) (kN kX9_takes0) (kR kX9_takes0) ∈ gtbl := q6_140
theorem q6_139 : (Jvm.Cond.instanceMethod ({ cls := "PeeledHashModel", name := "takes0", desc := "(I)Z" } : Jvm.MethodName)) ∈ gtbl := g_in6 (List.mem_of_getElem? (i := 139) rfl) rfl
theorem imX9_takes0 : Cond.instanceMethod (kY kX9_takes0) ∈ gtbl := q6_139
abbrev kX9_fine : gK := (RX9, yX9_fine, cX9_fine, 1, some .boolean)
theorem q6_144 : (Jvm.Cond.code ({ cls := "PeeledHashModel", name := "fine", desc := "()Z" } : Jvm.MethodName) prog_11_method_37_code (1 : Nat) (Option.some Jvm.ClassFile.FieldType.boolean)) ∈ gtbl := g_in6 (List.mem_of_getElem? (i := 144) rfl) rfl
theorem qcX9_fine : Cond.code (kY kX9_fine) (kB kX9_fine) (kN kX9_fine) (kR kX9_fine) ∈ gtbl := q6_144
theorem q6_143 : (Jvm.Cond.instanceMethod ({ cls := "PeeledHashModel", name := "fine", desc := "()Z" } : Jvm.MethodName)) ∈ gtbl := g_in6 (List.mem_of_getElem? (i := 143) rfl) rfl
theorem imX9_fine : Cond.instanceMethod (kY kX9_fine) ∈ gtbl := q6_143
abbrev kX9_readSum : gK := (RX9, yX9_readSum, cX9_readSum, 2, none)
theorem q6_148 : (Jvm.Cond.code ({ cls := "PeeledHashModel", name := "readSum", desc := "(I)V" } : Jvm.MethodName) prog_11_method_50_code (2 : Nat) (Option.none : Option Jvm.ClassFile.FieldType)) ∈ gtbl := g_in6 (List.mem_of_getElem? (i := 148) rfl) rfl
theorem qcX9_readSum : Cond.code (kY kX9_readSum) (kB kX9_readSum) (kN kX9_readSum) (kR kX9_readSum) ∈ gtbl := q6_148
theorem q6_147 : (Jvm.Cond.instanceMethod ({ cls := "PeeledHashModel", name := "readSum", desc := "(I)V" } : Jvm.MethodName)) ∈ gtbl := g_in6 (List.mem_of_getElem? (i := 147) rfl) rfl
theorem imX9_readSum : Cond.instanceMethod (kY kX9_readSum) ∈ gtbl := q6_147
abbrev kX9_readTerm : gK := (RX9, yX9_readTerm, cX9_readTerm, 2, none)
theorem q6_152 : (Jvm.Cond.code ({ cls := "PeeledHashModel", name := "readTerm", desc := "(I)V" } : Jvm.MethodName) prog_11_method_51_code (2 : Nat) (Option.none : Option Jvm.ClassFile.FieldType)) ∈ gtbl := g_in6 (List.mem_of_getElem? (i := 152) rfl) rfl
theorem qcX9_readTerm : Cond.code (kY kX9_readTerm) (kB kX9_readTerm) (kN kX9_readTerm) (kR kX9_readTerm) ∈ gtbl := q6_152
theorem q6_151 : (Jvm.Cond.instanceMethod ({ cls := "PeeledHashModel", name := "readTerm", desc := "(I)V" } : Jvm.MethodName)) ∈ gtbl := g_in6 (List.mem_of_getElem? (i := 151) rfl) rfl
theorem imX9_readTerm : Cond.instanceMethod (kY kX9_readTerm) ∈ gtbl := q6_151
abbrev kX9_readPart : gK := (RX9, yX9_readPart, cX9_readPart, 3, none)
theorem q6_156 : (Jvm.Cond.code ({ cls := "PeeledHashModel", name := "readPart", desc := "(I)V" } : Jvm.MethodName) prog_11_method_52_code (3 : Nat) (Option.none : Option Jvm.ClassFile.FieldType)) ∈ gtbl := g_in6 (List.mem_of_getElem? (i := 156) rfl) rfl
theorem qcX9_readPart : Cond.code (kY kX9_readPart) (kB kX9_readPart) (kN kX9_readPart) (kR kX9_readPart) ∈ gtbl := q6_156
theorem q6_155 : (Jvm.Cond.instanceMethod ({ cls := "PeeledHashModel", name := "readPart", desc := "(I)V" } : Jvm.MethodName)) ∈ gtbl := g_in6 (List.mem_of_getElem? (i := 155) rfl) rfl
theorem imX9_readPart : Cond.instanceMethod (kY kX9_readPart) ∈ gtbl := q6_155
abbrev kX9_faults : gK := (RX9, yX9_faults, cX9_faults, 1, none)
theorem q6_160 : (Jvm.Cond.code ({ cls := "PeeledHashModel", name := "faults", desc := "()V" } : Jvm.MethodName) prog_11_method_38_code (1 : Nat) (Option.none : Option Jvm.ClassFile.FieldType)) ∈ gtbl := g_in6 (List.mem_of_getElem? (i := 160) rfl) rfl
theorem qcX9_faults : Cond.code (kY kX9_faults) (kB kX9_faults) (kN kX9_faults) (kR kX9_faults) ∈ gtbl := q6_160
theorem q6_159 : (Jvm.Cond.instanceMethod ({ cls := "PeeledHashModel", name := "faults", desc := "()V" } : Jvm.MethodName)) ∈ gtbl := g_in6 (List.mem_of_getElem? (i := 159) rfl) rfl
theorem imX9_faults : Cond.instanceMethod (kY kX9_faults) ∈ gtbl := q6_159
abbrev kX9_must : gK := (RX9, yX9_must, cX9_must, 2, none)
theorem q6_164 : (Jvm.Cond.code ({ cls := "PeeledHashModel", name := "must", desc := "(I)V" } : Jvm.MethodName) prog_11_method_40_code (2 : Nat) (Option.none : Option Jvm.ClassFile.FieldType)) ∈ gtbl := g_in6 (List.mem_of_getElem? (i := 164) rfl) rfl
theorem qcX9_must : Cond.code (kY kX9_must) (kB kX9_must) (kN kX9_must) (kR kX9_must) ∈ gtbl := q6_164
theorem q6_163 : (Jvm.Cond.instanceMethod ({ cls := "PeeledHashModel", name := "must", desc := "(I)V" } : Jvm.MethodName)) ∈ gtbl := g_in6 (List.mem_of_getElem? (i := 163) rfl) rfl
theorem imX9_must : Cond.instanceMethod (kY kX9_must) ∈ gtbl := q6_163
abbrev kX9_leaf : gK := (RX9, yX9_leaf, cX9_leaf, 1, none)
theorem q6_168 : (Jvm.Cond.code ({ cls := "PeeledHashModel", name := "leaf", desc := "()V" } : Jvm.MethodName) prog_11_method_41_code (1 : Nat) (Option.none : Option Jvm.ClassFile.FieldType)) ∈ gtbl := g_in6 (List.mem_of_getElem? (i := 168) rfl) rfl
theorem qcX9_leaf : Cond.code (kY kX9_leaf) (kB kX9_leaf) (kN kX9_leaf) (kR kX9_leaf) ∈ gtbl := q6_168
theorem q6_167 : (Jvm.Cond.instanceMethod ({ cls := "PeeledHashModel", name := "leaf", desc := "()V" } : Jvm.MethodName)) ∈ gtbl := g_in6 (List.mem_of_getElem? (i := 167) rfl) rfl
theorem imX9_leaf : Cond.instanceMethod (kY kX9_leaf) ∈ gtbl := q6_167
abbrev kX9_mustNumber : gK := (RX9, yX9_mustNumber, cX9_mustNumber, 3, none)
theorem q6_172 : (Jvm.Cond.code ({ cls := "PeeledHashModel", name := "mustNumber", desc := "(II)V" } : Jvm.MethodName) prog_11_method_43_code (3 : Nat) (Option.none : Option Jvm.ClassFile.FieldType)) ∈ gtbl := g_in6 (List.mem_of_getElem? (i := 172) rfl) rfl
theorem qcX9_mustNumber : Cond.code (kY kX9_mustNumber) (kB kX9_mustNumber) (kN kX9_mustNumber) (kR kX9_mustNumber) ∈ gtbl := q6_172
theorem q6_171 : (Jvm.Cond.instanceMethod ({ cls := "PeeledHashModel", name := "mustNumber", desc := "(II)V" } : Jvm.MethodName)) ∈ gtbl := g_in6 (List.mem_of_getElem? (i := 171) rfl) rfl
theorem imX9_mustNumber : Cond.instanceMethod (kY kX9_mustNumber) ∈ gtbl := q6_171
abbrev kX9_readTest : gK := (RX9, yX9_readTest, cX9_readTest, 2, none)
theorem q6_176 : (Jvm.Cond.code ({ cls := "PeeledHashModel", name := "readTest", desc := "(I)V" } : Jvm.MethodName) prog_11_method_47_code (2 : Nat) (Option.none : Option Jvm.ClassFile.FieldType)) ∈ gtbl := g_in6 (List.mem_of_getElem? (i := 176) rfl) rfl
theorem qcX9_readTest : Cond.code (kY kX9_readTest) (kB kX9_readTest) (kN kX9_readTest) (kR kX9_readTest) ∈ gtbl := q6_176
theorem q6_175 : (Jvm.Cond.instanceMethod ({ cls := "PeeledHashModel", name := "readTest", desc := "(I)V" } : Jvm.MethodName)) ∈ gtbl := g_in6 (List.mem_of_getElem? (i := 175) rfl) rfl
theorem imX9_readTest : Cond.instanceMethod (kY kX9_readTest) ∈ gtbl := q6_175
abbrev kX9_readBoth : gK := (RX9, yX9_readBoth, cX9_readBoth, 2, none)
theorem q6_180 : (Jvm.Cond.code ({ cls := "PeeledHashModel", name := "readBoth", desc := "(I)V" } : Jvm.MethodName) prog_11_method_48_code (2 : Nat) (Option.none : Option Jvm.ClassFile.FieldType)) ∈ gtbl := g_in6 (List.mem_of_getElem? (i := 180) rfl) rfl
theorem qcX9_readBoth : Cond.code (kY kX9_readBoth) (kB kX9_readBoth) (kN kX9_readBoth) (kR kX9_readBoth) ∈ gtbl := q6_180
theorem q6_179 : (Jvm.Cond.instanceMethod ({ cls := "PeeledHashModel", name := "readBoth", desc := "(I)V" } : Jvm.MethodName)) ∈ gtbl := g_in6 (List.mem_of_getElem? (i := 179) rfl) rfl
theorem imX9_readBoth : Cond.instanceMethod (kY kX9_readBoth) ∈ gtbl := q6_179
abbrev kX9_readPlain : gK := (RX9, yX9_readPlain, cX9_readPlain, 4, none)
theorem q6_184 : (Jvm.Cond.code ({ cls := "PeeledHashModel", name := "readPlain", desc := "(I)V" } : Jvm.MethodName) prog_11_method_49_code (4 : Nat) (Option.none : Option Jvm.ClassFile.FieldType)) ∈ gtbl := g_in6 (List.mem_of_getElem? (i := 184) rfl) rfl
theorem qcX9_readPlain : Cond.code (kY kX9_readPlain) (kB kX9_readPlain) (kN kX9_readPlain) (kR kX9_readPlain) ∈ gtbl := q6_184
theorem q6_183 : (Jvm.Cond.instanceMethod ({ cls := "PeeledHashModel", name := "readPlain", desc := "(I)V" } : Jvm.MethodName)) ∈ gtbl := g_in6 (List.mem_of_getElem? (i := 183) rfl) rfl
theorem imX9_readPlain : Cond.instanceMethod (kY kX9_readPlain) ∈ gtbl := q6_183
abbrev kX9_readClause : gK := (RX9, yX9_readClause, cX9_readClause, 1, none)
theorem q6_188 : (Jvm.Cond.code ({ cls := "PeeledHashModel", name := "readClause", desc := "()V" } : Jvm.MethodName) prog_11_method_44_code (1 : Nat) (Option.none : Option Jvm.ClassFile.FieldType)) ∈ gtbl := g_in6 (List.mem_of_getElem? (i := 188) rfl) rfl
theorem qcX9_readClause : Cond.code (kY kX9_readClause) (kB kX9_readClause) (kN kX9_readClause) (kR kX9_readClause) ∈ gtbl := q6_188
theorem q6_187 : (Jvm.Cond.instanceMethod ({ cls := "PeeledHashModel", name := "readClause", desc := "()V" } : Jvm.MethodName)) ∈ gtbl := g_in6 (List.mem_of_getElem? (i := 187) rfl) rfl
theorem imX9_readClause : Cond.instanceMethod (kY kX9_readClause) ∈ gtbl := q6_187
abbrev kX9_lays : gK := (RX9, yX9_lays, cX9_lays, 3, none)
theorem q6_192 : (Jvm.Cond.code ({ cls := "PeeledHashModel", name := "lays", desc := "(I)V" } : Jvm.MethodName) prog_11_method_55_code (3 : Nat) (Option.none : Option Jvm.ClassFile.FieldType)) ∈ gtbl := g_in6 (List.mem_of_getElem? (i := 192) rfl) rfl
theorem qcX9_lays : Cond.code (kY kX9_lays) (kB kX9_lays) (kN kX9_lays) (kR kX9_lays) ∈ gtbl := q6_192
theorem q6_191 : (Jvm.Cond.instanceMethod ({ cls := "PeeledHashModel", name := "lays", desc := "(I)V" } : Jvm.MethodName)) ∈ gtbl := g_in6 (List.mem_of_getElem? (i := 191) rfl) rfl
theorem imX9_lays : Cond.instanceMethod (kY kX9_lays) ∈ gtbl := q6_191
abbrev kX9_fault : gK := (RX9, yX9_fault, cX9_fault, 1, some .int)
theorem q6_196 : (Jvm.Cond.code ({ cls := "PeeledHashModel", name := "fault", desc := "()I" } : Jvm.MethodName) prog_11_method_57_code (1 : Nat) (Option.some Jvm.ClassFile.FieldType.int)) ∈ gtbl := g_in6 (List.mem_of_getElem? (i := 196) rfl) rfl
theorem qcX9_fault : Cond.code (kY kX9_fault) (kB kX9_fault) (kN kX9_fault) (kR kX9_fault) ∈ gtbl := q6_196
theorem q6_194 : (Jvm.Cond.instanceMethod ({ cls := "PeeledHashModel", name := "fault", desc := "()I" } : Jvm.MethodName)) ∈ gtbl := g_in6 (List.mem_of_getElem? (i := 194) rfl) rfl
theorem imX9_fault : Cond.instanceMethod (kY kX9_fault) ∈ gtbl := q6_194
theorem q6_195 : (Jvm.Cond.selects "PeeledHashModel" ({ cls := "PeeledHashModel", name := "fault", desc := "()I" } : Jvm.MethodName) ({ cls := "PeeledHashModel", name := "fault", desc := "()I" } : Jvm.MethodName)) ∈ gtbl := g_in6 (List.mem_of_getElem? (i := 195) rfl) rfl
theorem seX9_fault : Cond.selects RX9 (kY kX9_fault) (kY kX9_fault) ∈ gtbl := q6_195
abbrev kX9_force : gK := (RX9, yX9_force, cX9_force, 3, some .int)
theorem q6_200 : (Jvm.Cond.code ({ cls := "PeeledHashModel", name := "force", desc := "(I)I" } : Jvm.MethodName) prog_11_method_59_code (3 : Nat) (Option.some Jvm.ClassFile.FieldType.int)) ∈ gtbl := g_in6 (List.mem_of_getElem? (i := 200) rfl) rfl
theorem qcX9_force : Cond.code (kY kX9_force) (kB kX9_force) (kN kX9_force) (kR kX9_force) ∈ gtbl := q6_200
theorem q6_198 : (Jvm.Cond.instanceMethod ({ cls := "PeeledHashModel", name := "force", desc := "(I)I" } : Jvm.MethodName)) ∈ gtbl := g_in6 (List.mem_of_getElem? (i := 198) rfl) rfl
theorem imX9_force : Cond.instanceMethod (kY kX9_force) ∈ gtbl := q6_198
theorem q6_199 : (Jvm.Cond.selects "PeeledHashModel" ({ cls := "PeeledHashModel", name := "force", desc := "(I)I" } : Jvm.MethodName) ({ cls := "PeeledHashModel", name := "force", desc := "(I)I" } : Jvm.MethodName)) ∈ gtbl := g_in6 (List.mem_of_getElem? (i := 199) rfl) rfl
theorem seX9_force : Cond.selects RX9 (kY kX9_force) (kY kX9_force) ∈ gtbl := q6_199
abbrev kX9_isLaw : gK := (RX9, yX9_isLaw, cX9_isLaw, 2, some .boolean)
theorem q6_204 : (Jvm.Cond.code ({ cls := "PeeledHashModel", name := "isLaw", desc := "(I)Z" } : Jvm.MethodName) prog_11_method_58_code (2 : Nat) (Option.some Jvm.ClassFile.FieldType.boolean)) ∈ gtbl := g_in6 (List.mem_of_getElem? (i := 204) rfl) rfl
theorem qcX9_isLaw : Cond.code (kY kX9_isLaw) (kB kX9_isLaw) (kN kX9_isLaw) (kR kX9_isLaw) ∈ gtbl := q6_204
theorem q6_203 : (Jvm.Cond.instanceMethod ({ cls := "PeeledHashModel", name := "isLaw", desc := "(I)Z" } : Jvm.MethodName)) ∈ gtbl := g_in6 (List.mem_of_getElem? (i := 203) rfl) rfl
theorem imX9_isLaw : Cond.instanceMethod (kY kX9_isLaw) ∈ gtbl := q6_203
abbrev kX9_undo : gK := (RX9, yX9_undo, cX9_undo, 3, some .int)
theorem q6_208 : (Jvm.Cond.code ({ cls := "PeeledHashModel", name := "undo", desc := "()I" } : Jvm.MethodName) prog_11_method_88_code (3 : Nat) (Option.some Jvm.ClassFile.FieldType.int)) ∈ gtbl := g_in6 (List.mem_of_getElem? (i := 208) rfl) rfl
theorem qcX9_undo : Cond.code (kY kX9_undo) (kB kX9_undo) (kN kX9_undo) (kR kX9_undo) ∈ gtbl := q6_208
theorem q6_206 : (Jvm.Cond.instanceMethod ({ cls := "PeeledHashModel", name := "undo", desc := "()I" } : Jvm.MethodName)) ∈ gtbl := g_in6 (List.mem_of_getElem? (i := 206) rfl) rfl
theorem imX9_undo : Cond.instanceMethod (kY kX9_undo) ∈ gtbl := q6_206
theorem q6_207 : (Jvm.Cond.selects "PeeledHashModel" ({ cls := "PeeledHashModel", name := "undo", desc := "()I" } : Jvm.MethodName) ({ cls := "PeeledHashModel", name := "undo", desc := "()I" } : Jvm.MethodName)) ∈ gtbl := g_in6 (List.mem_of_getElem? (i := 207) rfl) rfl
theorem seX9_undo : Cond.selects RX9 (kY kX9_undo) (kY kX9_undo) ∈ gtbl := q6_207
abbrev kX9_add : gK := (RX9, yX9_add, cX9_add, 2, some .int)
theorem q6_212 : (Jvm.Cond.code ({ cls := "PeeledHashModel", name := "add", desc := "(I)I" } : Jvm.MethodName) prog_11_method_95_code (2 : Nat) (Option.some Jvm.ClassFile.FieldType.int)) ∈ gtbl := g_in6 (List.mem_of_getElem? (i := 212) rfl) rfl
theorem qcX9_add : Cond.code (kY kX9_add) (kB kX9_add) (kN kX9_add) (kR kX9_add) ∈ gtbl := q6_212
theorem q6_210 : (Jvm.Cond.instanceMethod ({ cls := "PeeledHashModel", name := "add", desc := "(I)I" } : Jvm.MethodName)) ∈ gtbl := g_in6 (List.mem_of_getElem? (i := 210) rfl) rfl
theorem imX9_add : Cond.instanceMethod (kY kX9_add) ∈ gtbl := q6_210
theorem q6_211 : (Jvm.Cond.selects "PeeledHashModel" ({ cls := "PeeledHashModel", name := "add", desc := "(I)I" } : Jvm.MethodName) ({ cls := "PeeledHashModel", name := "add", desc := "(I)I" } : Jvm.MethodName)) ∈ gtbl := g_in6 (List.mem_of_getElem? (i := 211) rfl) rfl
theorem seX9_add : Cond.selects RX9 (kY kX9_add) (kY kX9_add) ∈ gtbl := q6_211
abbrev kX9_addsKept : gK := (RX9, yX9_addsKept, cX9_addsKept, 2, some .int)
theorem q6_216 : (Jvm.Cond.code ({ cls := "PeeledHashModel", name := "addsKept", desc := "(I)I" } : Jvm.MethodName) prog_11_method_90_code (2 : Nat) (Option.some Jvm.ClassFile.FieldType.int)) ∈ gtbl := g_in6 (List.mem_of_getElem? (i := 216) rfl) rfl
theorem qcX9_addsKept : Cond.code (kY kX9_addsKept) (kB kX9_addsKept) (kN kX9_addsKept) (kR kX9_addsKept) ∈ gtbl := q6_216
theorem q6_215 : (Jvm.Cond.instanceMethod ({ cls := "PeeledHashModel", name := "addsKept", desc := "(I)I" } : Jvm.MethodName)) ∈ gtbl := g_in6 (List.mem_of_getElem? (i := 215) rfl) rfl
theorem imX9_addsKept : Cond.instanceMethod (kY kX9_addsKept) ∈ gtbl := q6_215
abbrev kX9_laysAside : gK := (RX9, yX9_laysAside, cX9_laysAside, 3, none)
theorem q6_220 : (Jvm.Cond.code ({ cls := "PeeledHashModel", name := "laysAside", desc := "(I)V" } : Jvm.MethodName) prog_11_method_10_code (3 : Nat) (Option.none : Option Jvm.ClassFile.FieldType)) ∈ gtbl := g_in6 (List.mem_of_getElem? (i := 220) rfl) rfl
theorem qcX9_laysAside : Cond.code (kY kX9_laysAside) (kB kX9_laysAside) (kN kX9_laysAside) (kR kX9_laysAside) ∈ gtbl := q6_220
theorem q6_219 : (Jvm.Cond.instanceMethod ({ cls := "PeeledHashModel", name := "laysAside", desc := "(I)V" } : Jvm.MethodName)) ∈ gtbl := g_in6 (List.mem_of_getElem? (i := 219) rfl) rfl
theorem imX9_laysAside : Cond.instanceMethod (kY kX9_laysAside) ∈ gtbl := q6_219
abbrev kX9_keptOr : gK := (RX9, yX9_keptOr, cX9_keptOr, 5, some .int)
theorem q6_224 : (Jvm.Cond.code ({ cls := "PeeledHashModel", name := "keptOr", desc := "(II)I" } : Jvm.MethodName) prog_11_method_87_code (5 : Nat) (Option.some Jvm.ClassFile.FieldType.int)) ∈ gtbl := g_in6 (List.mem_of_getElem? (i := 224) rfl) rfl
theorem qcX9_keptOr : Cond.code (kY kX9_keptOr) (kB kX9_keptOr) (kN kX9_keptOr) (kR kX9_keptOr) ∈ gtbl := q6_224
theorem q6_223 : (Jvm.Cond.instanceMethod ({ cls := "PeeledHashModel", name := "keptOr", desc := "(II)I" } : Jvm.MethodName)) ∈ gtbl := g_in6 (List.mem_of_getElem? (i := 223) rfl) rfl
theorem imX9_keptOr : Cond.instanceMethod (kY kX9_keptOr) ∈ gtbl := q6_223
abbrev kX9_goodOr : gK := (RX9, yX9_goodOr, cX9_goodOr, 2, some .int)
theorem q6_228 : (Jvm.Cond.code ({ cls := "PeeledHashModel", name := "goodOr", desc := "(I)I" } : Jvm.MethodName) prog_11_method_89_code (2 : Nat) (Option.some Jvm.ClassFile.FieldType.int)) ∈ gtbl := g_in6 (List.mem_of_getElem? (i := 228) rfl) rfl
theorem qcX9_goodOr : Cond.code (kY kX9_goodOr) (kB kX9_goodOr) (kN kX9_goodOr) (kR kX9_goodOr) ∈ gtbl := q6_228
theorem q6_227 : (Jvm.Cond.instanceMethod ({ cls := "PeeledHashModel", name := "goodOr", desc := "(I)I" } : Jvm.MethodName)) ∈ gtbl := g_in6 (List.mem_of_getElem? (i := 227) rfl) rfl
theorem imX9_goodOr : Cond.instanceMethod (kY kX9_goodOr) ∈ gtbl := q6_227
abbrev kX9_take : gK := (RX9, yX9_take, cX9_take, 2, some .int)
theorem q6_232 : (Jvm.Cond.code ({ cls := "PeeledHashModel", name := "take", desc := "(I)I" } : Jvm.MethodName) prog_11_method_96_code (2 : Nat) (Option.some Jvm.ClassFile.FieldType.int)) ∈ gtbl := g_in6 (List.mem_of_getElem? (i := 232) rfl) rfl
theorem qcX9_take : Cond.code (kY kX9_take) (kB kX9_take) (kN kX9_take) (kR kX9_take) ∈ gtbl := q6_232
theorem q6_230 : (Jvm.Cond.instanceMethod ({ cls := "PeeledHashModel", name := "take", desc := "(I)I" } : Jvm.MethodName)) ∈ gtbl := g_in6 (List.mem_of_getElem? (i := 230) rfl) rfl
theorem imX9_take : Cond.instanceMethod (kY kX9_take) ∈ gtbl := q6_230
theorem q6_231 : (Jvm.Cond.selects "PeeledHashModel" ({ cls := "PeeledHashModel", name := "take", desc := "(I)I" } : Jvm.MethodName) ({ cls := "PeeledHashModel", name := "take", desc := "(I)I" } : Jvm.MethodName)) ∈ gtbl := g_in6 (List.mem_of_getElem? (i := 231) rfl) rfl
theorem seX9_take : Cond.selects RX9 (kY kX9_take) (kY kX9_take) ∈ gtbl := q6_231
abbrev kX9_takesKept : gK := (RX9, yX9_takesKept, cX9_takesKept, 2, some .int)
theorem q6_236 : (Jvm.Cond.code ({ cls := "PeeledHashModel", name := "takesKept", desc := "(I)I" } : Jvm.MethodName) prog_11_method_91_code (2 : Nat) (Option.some Jvm.ClassFile.FieldType.int)) ∈ gtbl := g_in6 (List.mem_of_getElem? (i := 236) rfl) rfl
theorem qcX9_takesKept : Cond.code (kY kX9_takesKept) (kB kX9_takesKept) (kN kX9_takesKept) (kR kX9_takesKept) ∈ gtbl := q6_236
theorem q6_235 : (Jvm.Cond.instanceMethod ({ cls := "PeeledHashModel", name := "takesKept", desc := "(I)I" } : Jvm.MethodName)) ∈ gtbl := g_in6 (List.mem_of_getElem? (i := 235) rfl) rfl
theorem imX9_takesKept : Cond.instanceMethod (kY kX9_takesKept) ∈ gtbl := q6_235
abbrev kX9_takesKey : gK := (RX9, yX9_takesKey, cX9_takesKey, 4, some .int)
theorem q7_0 : (Jvm.Cond.code ({ cls := "PeeledHashModel", name := "takesKey", desc := "(I)I" } : Jvm.MethodName) prog_11_method_81_code (4 : Nat) (Option.some Jvm.ClassFile.FieldType.int)) ∈ gtbl := g_in7 (List.mem_of_getElem? (i := 0) rfl) rfl
theorem qcX9_takesKey : Cond.code (kY kX9_takesKey) (kB kX9_takesKey) (kN kX9_takesKey) (kR kX9_takesKey) ∈ gtbl := q7_0
theorem q6_239 : (Jvm.Cond.instanceMethod ({ cls := "PeeledHashModel", name := "takesKey", desc := "(I)I" } : Jvm.MethodName)) ∈ gtbl := g_in6 (List.mem_of_getElem? (i := 239) rfl) rfl
theorem imX9_takesKey : Cond.instanceMethod (kY kX9_takesKey) ∈ gtbl := q6_239
abbrev kX9_side : gK := (RX9, yX9_side, cX9_side, 2, some .int)
theorem q7_4 : (Jvm.Cond.code ({ cls := "PeeledHashModel", name := "side", desc := "(I)I" } : Jvm.MethodName) prog_11_method_97_code (2 : Nat) (Option.some Jvm.ClassFile.FieldType.int)) ∈ gtbl := g_in7 (List.mem_of_getElem? (i := 4) rfl) rfl
theorem qcX9_side : Cond.code (kY kX9_side) (kB kX9_side) (kN kX9_side) (kR kX9_side) ∈ gtbl := q7_4
theorem q7_2 : (Jvm.Cond.instanceMethod ({ cls := "PeeledHashModel", name := "side", desc := "(I)I" } : Jvm.MethodName)) ∈ gtbl := g_in7 (List.mem_of_getElem? (i := 2) rfl) rfl
theorem imX9_side : Cond.instanceMethod (kY kX9_side) ∈ gtbl := q7_2
theorem q7_3 : (Jvm.Cond.selects "PeeledHashModel" ({ cls := "PeeledHashModel", name := "side", desc := "(I)I" } : Jvm.MethodName) ({ cls := "PeeledHashModel", name := "side", desc := "(I)I" } : Jvm.MethodName)) ∈ gtbl := g_in7 (List.mem_of_getElem? (i := 3) rfl) rfl
theorem seX9_side : Cond.selects RX9 (kY kX9_side) (kY kX9_side) ∈ gtbl := q7_3
abbrev kX9_sideKept : gK := (RX9, yX9_sideKept, cX9_sideKept, 2, some .int)
theorem q7_8 : (Jvm.Cond.code ({ cls := "PeeledHashModel", name := "sideKept", desc := "(I)I" } : Jvm.MethodName) prog_11_method_92_code (2 : Nat) (Option.some Jvm.ClassFile.FieldType.int)) ∈ gtbl := g_in7 (List.mem_of_getElem? (i := 8) rfl) rfl
theorem qcX9_sideKept : Cond.code (kY kX9_sideKept) (kB kX9_sideKept) (kN kX9_sideKept) (kR kX9_sideKept) ∈ gtbl := q7_8
theorem q7_7 : (Jvm.Cond.instanceMethod ({ cls := "PeeledHashModel", name := "sideKept", desc := "(I)I" } : Jvm.MethodName)) ∈ gtbl := g_in7 (List.mem_of_getElem? (i := 7) rfl) rfl
theorem imX9_sideKept : Cond.instanceMethod (kY kX9_sideKept) ∈ gtbl := q7_7
abbrev kX9_setsSide : gK := (RX9, yX9_setsSide, cX9_setsSide, 3, some .int)
theorem q7_12 : (Jvm.Cond.code ({ cls := "PeeledHashModel", name := "setsSide", desc := "(I)I" } : Jvm.MethodName) prog_11_method_82_code (3 : Nat) (Option.some Jvm.ClassFile.FieldType.int)) ∈ gtbl := g_in7 (List.mem_of_getElem? (i := 12) rfl) rfl
theorem qcX9_setsSide : Cond.code (kY kX9_setsSide) (kB kX9_setsSide) (kN kX9_setsSide) (kR kX9_setsSide) ∈ gtbl := q7_12
theorem q7_11 : (Jvm.Cond.instanceMethod ({ cls := "PeeledHashModel", name := "setsSide", desc := "(I)I" } : Jvm.MethodName)) ∈ gtbl := g_in7 (List.mem_of_getElem? (i := 11) rfl) rfl
theorem imX9_setsSide : Cond.instanceMethod (kY kX9_setsSide) ∈ gtbl := q7_11
abbrev kX9_seed : gK := (RX9, yX9_seed, cX9_seed, 2, some .int)
theorem q7_16 : (Jvm.Cond.code ({ cls := "PeeledHashModel", name := "seed", desc := "(I)I" } : Jvm.MethodName) prog_11_method_98_code (2 : Nat) (Option.some Jvm.ClassFile.FieldType.int)) ∈ gtbl := g_in7 (List.mem_of_getElem? (i := 16) rfl) rfl
theorem qcX9_seed : Cond.code (kY kX9_seed) (kB kX9_seed) (kN kX9_seed) (kR kX9_seed) ∈ gtbl := q7_16
theorem q7_14 : (Jvm.Cond.instanceMethod ({ cls := "PeeledHashModel", name := "seed", desc := "(I)I" } : Jvm.MethodName)) ∈ gtbl := g_in7 (List.mem_of_getElem? (i := 14) rfl) rfl
theorem imX9_seed : Cond.instanceMethod (kY kX9_seed) ∈ gtbl := q7_14
theorem q7_15 : (Jvm.Cond.selects "PeeledHashModel" ({ cls := "PeeledHashModel", name := "seed", desc := "(I)I" } : Jvm.MethodName) ({ cls := "PeeledHashModel", name := "seed", desc := "(I)I" } : Jvm.MethodName)) ∈ gtbl := g_in7 (List.mem_of_getElem? (i := 15) rfl) rfl
theorem seX9_seed : Cond.selects RX9 (kY kX9_seed) (kY kX9_seed) ∈ gtbl := q7_15
abbrev kX9_seedKept : gK := (RX9, yX9_seedKept, cX9_seedKept, 2, some .int)
theorem q7_20 : (Jvm.Cond.code ({ cls := "PeeledHashModel", name := "seedKept", desc := "(I)I" } : Jvm.MethodName) prog_11_method_93_code (2 : Nat) (Option.some Jvm.ClassFile.FieldType.int)) ∈ gtbl := g_in7 (List.mem_of_getElem? (i := 20) rfl) rfl
theorem qcX9_seedKept : Cond.code (kY kX9_seedKept) (kB kX9_seedKept) (kN kX9_seedKept) (kR kX9_seedKept) ∈ gtbl := q7_20
theorem q7_19 : (Jvm.Cond.instanceMethod ({ cls := "PeeledHashModel", name := "seedKept", desc := "(I)I" } : Jvm.MethodName)) ∈ gtbl := g_in7 (List.mem_of_getElem? (i := 19) rfl) rfl
theorem imX9_seedKept : Cond.instanceMethod (kY kX9_seedKept) ∈ gtbl := q7_19
abbrev kX9_setsSeed : gK := (RX9, yX9_setsSeed, cX9_setsSeed, 3, some .int)
theorem q7_24 : (Jvm.Cond.code ({ cls := "PeeledHashModel", name := "setsSeed", desc := "(I)I" } : Jvm.MethodName) prog_11_method_83_code (3 : Nat) (Option.some Jvm.ClassFile.FieldType.int)) ∈ gtbl := g_in7 (List.mem_of_getElem? (i := 24) rfl) rfl
theorem qcX9_setsSeed : Cond.code (kY kX9_setsSeed) (kB kX9_setsSeed) (kN kX9_setsSeed) (kR kX9_setsSeed) ∈ gtbl := q7_24
theorem q7_23 : (Jvm.Cond.instanceMethod ({ cls := "PeeledHashModel", name := "setsSeed", desc := "(I)I" } : Jvm.MethodName)) ∈ gtbl := g_in7 (List.mem_of_getElem? (i := 23) rfl) rfl
theorem imX9_setsSeed : Cond.instanceMethod (kY kX9_setsSeed) ∈ gtbl := q7_23
abbrev kX9_isSeed : gK := (RX9, yX9_isSeed, cX9_isSeed, 1, some .boolean)
theorem q7_27 : (Jvm.Cond.code ({ cls := "PeeledHashModel", name := "isSeed", desc := "(I)Z" } : Jvm.MethodName) prog_11_method_8_code (1 : Nat) (Option.some Jvm.ClassFile.FieldType.boolean)) ∈ gtbl := g_in7 (List.mem_of_getElem? (i := 27) rfl) rfl
theorem qcX9_isSeed : Cond.code (kY kX9_isSeed) (kB kX9_isSeed) (kN kX9_isSeed) (kR kX9_isSeed) ∈ gtbl := q7_27
theorem q7_26 : (Jvm.Cond.static ({ cls := "PeeledHashModel", name := "isSeed", desc := "(I)Z" } : Jvm.MethodName)) ∈ gtbl := g_in7 (List.mem_of_getElem? (i := 26) rfl) rfl
theorem smX9_isSeed : Cond.static (kY kX9_isSeed) ∈ gtbl := q7_26
abbrev kX9_build : gK := (RX9, yX9_build, cX9_build, 1, some .int)
theorem q7_31 : (Jvm.Cond.code ({ cls := "PeeledHashModel", name := "build", desc := "()I" } : Jvm.MethodName) prog_11_method_99_code (1 : Nat) (Option.some Jvm.ClassFile.FieldType.int)) ∈ gtbl := g_in7 (List.mem_of_getElem? (i := 31) rfl) rfl
theorem qcX9_build : Cond.code (kY kX9_build) (kB kX9_build) (kN kX9_build) (kR kX9_build) ∈ gtbl := q7_31
theorem q7_29 : (Jvm.Cond.instanceMethod ({ cls := "PeeledHashModel", name := "build", desc := "()I" } : Jvm.MethodName)) ∈ gtbl := g_in7 (List.mem_of_getElem? (i := 29) rfl) rfl
theorem imX9_build : Cond.instanceMethod (kY kX9_build) ∈ gtbl := q7_29
theorem q7_30 : (Jvm.Cond.selects "PeeledHashModel" ({ cls := "PeeledHashModel", name := "build", desc := "()I" } : Jvm.MethodName) ({ cls := "PeeledHashModel", name := "build", desc := "()I" } : Jvm.MethodName)) ∈ gtbl := g_in7 (List.mem_of_getElem? (i := 30) rfl) rfl
theorem seX9_build : Cond.selects RX9 (kY kX9_build) (kY kX9_build) ∈ gtbl := q7_30
abbrev kX9_buildsKept : gK := (RX9, yX9_buildsKept, cX9_buildsKept, 1, some .int)
theorem q7_35 : (Jvm.Cond.code ({ cls := "PeeledHashModel", name := "buildsKept", desc := "()I" } : Jvm.MethodName) prog_11_method_94_code (1 : Nat) (Option.some Jvm.ClassFile.FieldType.int)) ∈ gtbl := g_in7 (List.mem_of_getElem? (i := 35) rfl) rfl
theorem qcX9_buildsKept : Cond.code (kY kX9_buildsKept) (kB kX9_buildsKept) (kN kX9_buildsKept) (kR kX9_buildsKept) ∈ gtbl := q7_35
theorem q7_34 : (Jvm.Cond.instanceMethod ({ cls := "PeeledHashModel", name := "buildsKept", desc := "()I" } : Jvm.MethodName)) ∈ gtbl := g_in7 (List.mem_of_getElem? (i := 34) rfl) rfl
theorem imX9_buildsKept : Cond.instanceMethod (kY kX9_buildsKept) ∈ gtbl := q7_34
abbrev kX9_builds : gK := (RX9, yX9_builds, cX9_builds, 3, some .int)
theorem q7_39 : (Jvm.Cond.code ({ cls := "PeeledHashModel", name := "builds", desc := "()I" } : Jvm.MethodName) prog_11_method_86_code (3 : Nat) (Option.some Jvm.ClassFile.FieldType.int)) ∈ gtbl := g_in7 (List.mem_of_getElem? (i := 39) rfl) rfl
theorem qcX9_builds : Cond.code (kY kX9_builds) (kB kX9_builds) (kN kX9_builds) (kR kX9_builds) ∈ gtbl := q7_39
theorem q7_38 : (Jvm.Cond.instanceMethod ({ cls := "PeeledHashModel", name := "builds", desc := "()I" } : Jvm.MethodName)) ∈ gtbl := g_in7 (List.mem_of_getElem? (i := 38) rfl) rfl
theorem imX9_builds : Cond.instanceMethod (kY kX9_builds) ∈ gtbl := q7_38
abbrev kX9_coreOf : gK := (RX9, yX9_coreOf, cX9_coreOf, 3, some .int)
theorem q7_43 : (Jvm.Cond.code ({ cls := "PeeledHashModel", name := "coreOf", desc := "(I)I" } : Jvm.MethodName) prog_11_method_79_code (3 : Nat) (Option.some Jvm.ClassFile.FieldType.int)) ∈ gtbl := g_in7 (List.mem_of_getElem? (i := 43) rfl) rfl
theorem qcX9_coreOf : Cond.code (kY kX9_coreOf) (kB kX9_coreOf) (kN kX9_coreOf) (kR kX9_coreOf) ∈ gtbl := q7_43
theorem q7_42 : (Jvm.Cond.instanceMethod ({ cls := "PeeledHashModel", name := "coreOf", desc := "(I)I" } : Jvm.MethodName)) ∈ gtbl := g_in7 (List.mem_of_getElem? (i := 42) rfl) rfl
theorem imX9_coreOf : Cond.instanceMethod (kY kX9_coreOf) ∈ gtbl := q7_42
abbrev kX9_peels : gK := (RX9, yX9_peels, cX9_peels, 6, none)
theorem q7_47 : (Jvm.Cond.code ({ cls := "PeeledHashModel", name := "peels", desc := "(I)V" } : Jvm.MethodName) prog_11_method_78_code (6 : Nat) (Option.none : Option Jvm.ClassFile.FieldType)) ∈ gtbl := g_in7 (List.mem_of_getElem? (i := 47) rfl) rfl
theorem qcX9_peels : Cond.code (kY kX9_peels) (kB kX9_peels) (kN kX9_peels) (kR kX9_peels) ∈ gtbl := q7_47
theorem q7_46 : (Jvm.Cond.instanceMethod ({ cls := "PeeledHashModel", name := "peels", desc := "(I)V" } : Jvm.MethodName)) ∈ gtbl := g_in7 (List.mem_of_getElem? (i := 46) rfl) rfl
theorem imX9_peels : Cond.instanceMethod (kY kX9_peels) ∈ gtbl := q7_46
abbrev kX9_laysVertices : gK := (RX9, yX9_laysVertices, cX9_laysVertices, 5, none)
theorem q7_51 : (Jvm.Cond.code ({ cls := "PeeledHashModel", name := "laysVertices", desc := "(I)V" } : Jvm.MethodName) prog_11_method_76_code (5 : Nat) (Option.none : Option Jvm.ClassFile.FieldType)) ∈ gtbl := g_in7 (List.mem_of_getElem? (i := 51) rfl) rfl
theorem qcX9_laysVertices : Cond.code (kY kX9_laysVertices) (kB kX9_laysVertices) (kN kX9_laysVertices) (kR kX9_laysVertices) ∈ gtbl := q7_51
theorem q7_50 : (Jvm.Cond.instanceMethod ({ cls := "PeeledHashModel", name := "laysVertices", desc := "(I)V" } : Jvm.MethodName)) ∈ gtbl := g_in7 (List.mem_of_getElem? (i := 50) rfl) rfl
theorem imX9_laysVertices : Cond.instanceMethod (kY kX9_laysVertices) ∈ gtbl := q7_50
abbrev kX9_nextFree : gK := (RX9, yX9_nextFree, cX9_nextFree, 3, some .int)
theorem q7_55 : (Jvm.Cond.code ({ cls := "PeeledHashModel", name := "nextFree", desc := "()I" } : Jvm.MethodName) prog_11_method_77_code (3 : Nat) (Option.some Jvm.ClassFile.FieldType.int)) ∈ gtbl := g_in7 (List.mem_of_getElem? (i := 55) rfl) rfl
theorem qcX9_nextFree : Cond.code (kY kX9_nextFree) (kB kX9_nextFree) (kN kX9_nextFree) (kR kX9_nextFree) ∈ gtbl := q7_55
theorem q7_54 : (Jvm.Cond.instanceMethod ({ cls := "PeeledHashModel", name := "nextFree", desc := "()I" } : Jvm.MethodName)) ∈ gtbl := g_in7 (List.mem_of_getElem? (i := 54) rfl) rfl
theorem imX9_nextFree : Cond.instanceMethod (kY kX9_nextFree) ∈ gtbl := q7_54
abbrev kX9_laysRanks : gK := (RX9, yX9_laysRanks, cX9_laysRanks, 3, none)
theorem q7_59 : (Jvm.Cond.code ({ cls := "PeeledHashModel", name := "laysRanks", desc := "(I)V" } : Jvm.MethodName) prog_11_method_75_code (3 : Nat) (Option.none : Option Jvm.ClassFile.FieldType)) ∈ gtbl := g_in7 (List.mem_of_getElem? (i := 59) rfl) rfl
theorem qcX9_laysRanks : Cond.code (kY kX9_laysRanks) (kB kX9_laysRanks) (kN kX9_laysRanks) (kR kX9_laysRanks) ∈ gtbl := q7_59
theorem q7_58 : (Jvm.Cond.instanceMethod ({ cls := "PeeledHashModel", name := "laysRanks", desc := "(I)V" } : Jvm.MethodName)) ∈ gtbl := g_in7 (List.mem_of_getElem? (i := 58) rfl) rfl
theorem imX9_laysRanks : Cond.instanceMethod (kY kX9_laysRanks) ∈ gtbl := q7_58
abbrev kX9_laysTable : gK := (RX9, yX9_laysTable, cX9_laysTable, 4, none)
theorem q7_63 : (Jvm.Cond.code ({ cls := "PeeledHashModel", name := "laysTable", desc := "()V" } : Jvm.MethodName) prog_11_method_85_code (4 : Nat) (Option.none : Option Jvm.ClassFile.FieldType)) ∈ gtbl := g_in7 (List.mem_of_getElem? (i := 63) rfl) rfl
theorem qcX9_laysTable : Cond.code (kY kX9_laysTable) (kB kX9_laysTable) (kN kX9_laysTable) (kR kX9_laysTable) ∈ gtbl := q7_63
theorem q7_62 : (Jvm.Cond.instanceMethod ({ cls := "PeeledHashModel", name := "laysTable", desc := "()V" } : Jvm.MethodName)) ∈ gtbl := g_in7 (List.mem_of_getElem? (i := 62) rfl) rfl
theorem imX9_laysTable : Cond.instanceMethod (kY kX9_laysTable) ∈ gtbl := q7_62
abbrev kX9_lesser : gK := (RX9, yX9_lesser, cX9_lesser, 2, some .int)
theorem q7_66 : (Jvm.Cond.code ({ cls := "PeeledHashModel", name := "lesser", desc := "(II)I" } : Jvm.MethodName) prog_11_method_2_code (2 : Nat) (Option.some Jvm.ClassFile.FieldType.int)) ∈ gtbl := g_in7 (List.mem_of_getElem? (i := 66) rfl) rfl
theorem qcX9_lesser : Cond.code (kY kX9_lesser) (kB kX9_lesser) (kN kX9_lesser) (kR kX9_lesser) ∈ gtbl := q7_66
theorem q7_65 : (Jvm.Cond.static ({ cls := "PeeledHashModel", name := "lesser", desc := "(II)I" } : Jvm.MethodName)) ∈ gtbl := g_in7 (List.mem_of_getElem? (i := 65) rfl) rfl
theorem smX9_lesser : Cond.static (kY kX9_lesser) ∈ gtbl := q7_65
abbrev kX9_core : gK := (RX9, yX9_core, cX9_core, 2, some .int)
theorem q7_70 : (Jvm.Cond.code ({ cls := "PeeledHashModel", name := "core", desc := "(I)I" } : Jvm.MethodName) prog_11_method_100_code (2 : Nat) (Option.some Jvm.ClassFile.FieldType.int)) ∈ gtbl := g_in7 (List.mem_of_getElem? (i := 70) rfl) rfl
theorem qcX9_core : Cond.code (kY kX9_core) (kB kX9_core) (kN kX9_core) (kR kX9_core) ∈ gtbl := q7_70
theorem q7_68 : (Jvm.Cond.instanceMethod ({ cls := "PeeledHashModel", name := "core", desc := "(I)I" } : Jvm.MethodName)) ∈ gtbl := g_in7 (List.mem_of_getElem? (i := 68) rfl) rfl
theorem imX9_core : Cond.instanceMethod (kY kX9_core) ∈ gtbl := q7_68
theorem q7_69 : (Jvm.Cond.selects "PeeledHashModel" ({ cls := "PeeledHashModel", name := "core", desc := "(I)I" } : Jvm.MethodName) ({ cls := "PeeledHashModel", name := "core", desc := "(I)I" } : Jvm.MethodName)) ∈ gtbl := g_in7 (List.mem_of_getElem? (i := 69) rfl) rfl
theorem seX9_core : Cond.selects RX9 (kY kX9_core) (kY kX9_core) ∈ gtbl := q7_69
abbrev kX9_peeled : gK := (RX9, yX9_peeled, cX9_peeled, 3, some .int)
theorem q7_74 : (Jvm.Cond.code ({ cls := "PeeledHashModel", name := "peeled", desc := "(II)I" } : Jvm.MethodName) prog_11_method_101_code (3 : Nat) (Option.some Jvm.ClassFile.FieldType.int)) ∈ gtbl := g_in7 (List.mem_of_getElem? (i := 74) rfl) rfl
theorem qcX9_peeled : Cond.code (kY kX9_peeled) (kB kX9_peeled) (kN kX9_peeled) (kR kX9_peeled) ∈ gtbl := q7_74
theorem q7_72 : (Jvm.Cond.instanceMethod ({ cls := "PeeledHashModel", name := "peeled", desc := "(II)I" } : Jvm.MethodName)) ∈ gtbl := g_in7 (List.mem_of_getElem? (i := 72) rfl) rfl
theorem imX9_peeled : Cond.instanceMethod (kY kX9_peeled) ∈ gtbl := q7_72
theorem q7_73 : (Jvm.Cond.selects "PeeledHashModel" ({ cls := "PeeledHashModel", name := "peeled", desc := "(II)I" } : Jvm.MethodName) ({ cls := "PeeledHashModel", name := "peeled", desc := "(II)I" } : Jvm.MethodName)) ∈ gtbl := g_in7 (List.mem_of_getElem? (i := 73) rfl) rfl
theorem seX9_peeled : Cond.selects RX9 (kY kX9_peeled) (kY kX9_peeled) ∈ gtbl := q7_73
abbrev kX9_good : gK := (RX9, yX9_good, cX9_good, 4, some .int)
theorem q7_78 : (Jvm.Cond.code ({ cls := "PeeledHashModel", name := "good", desc := "(I)I" } : Jvm.MethodName) prog_11_method_102_code (4 : Nat) (Option.some Jvm.ClassFile.FieldType.int)) ∈ gtbl := g_in7 (List.mem_of_getElem? (i := 78) rfl) rfl
theorem qcX9_good : Cond.code (kY kX9_good) (kB kX9_good) (kN kX9_good) (kR kX9_good) ∈ gtbl := q7_78
theorem q7_76 : (Jvm.Cond.instanceMethod ({ cls := "PeeledHashModel", name := "good", desc := "(I)I" } : Jvm.MethodName)) ∈ gtbl := g_in7 (List.mem_of_getElem? (i := 76) rfl) rfl
theorem imX9_good : Cond.instanceMethod (kY kX9_good) ∈ gtbl := q7_76
theorem q7_77 : (Jvm.Cond.selects "PeeledHashModel" ({ cls := "PeeledHashModel", name := "good", desc := "(I)I" } : Jvm.MethodName) ({ cls := "PeeledHashModel", name := "good", desc := "(I)I" } : Jvm.MethodName)) ∈ gtbl := g_in7 (List.mem_of_getElem? (i := 77) rfl) rfl
theorem seX9_good : Cond.selects RX9 (kY kX9_good) (kY kX9_good) ∈ gtbl := q7_77
abbrev kX9_leastSide : gK := (RX9, yX9_leastSide, cX9_leastSide, 3, some .int)
theorem q7_82 : (Jvm.Cond.code ({ cls := "PeeledHashModel", name := "leastSide", desc := "()I" } : Jvm.MethodName) prog_11_method_104_code (3 : Nat) (Option.some Jvm.ClassFile.FieldType.int)) ∈ gtbl := g_in7 (List.mem_of_getElem? (i := 82) rfl) rfl
theorem qcX9_leastSide : Cond.code (kY kX9_leastSide) (kB kX9_leastSide) (kN kX9_leastSide) (kR kX9_leastSide) ∈ gtbl := q7_82
theorem q7_80 : (Jvm.Cond.instanceMethod ({ cls := "PeeledHashModel", name := "leastSide", desc := "()I" } : Jvm.MethodName)) ∈ gtbl := g_in7 (List.mem_of_getElem? (i := 80) rfl) rfl
theorem imX9_leastSide : Cond.instanceMethod (kY kX9_leastSide) ∈ gtbl := q7_80
theorem q7_81 : (Jvm.Cond.selects "PeeledHashModel" ({ cls := "PeeledHashModel", name := "leastSide", desc := "()I" } : Jvm.MethodName) ({ cls := "PeeledHashModel", name := "leastSide", desc := "()I" } : Jvm.MethodName)) ∈ gtbl := g_in7 (List.mem_of_getElem? (i := 81) rfl) rfl
theorem seX9_leastSide : Cond.selects RX9 (kY kX9_leastSide) (kY kX9_leastSide) ∈ gtbl := q7_81
abbrev kX9_hasGood : gK := (RX9, yX9_hasGood, cX9_hasGood, 2, some .boolean)
theorem q7_86 : (Jvm.Cond.code ({ cls := "PeeledHashModel", name := "hasGood", desc := "()Z" } : Jvm.MethodName) prog_11_method_103_code (2 : Nat) (Option.some Jvm.ClassFile.FieldType.boolean)) ∈ gtbl := g_in7 (List.mem_of_getElem? (i := 86) rfl) rfl
theorem qcX9_hasGood : Cond.code (kY kX9_hasGood) (kB kX9_hasGood) (kN kX9_hasGood) (kR kX9_hasGood) ∈ gtbl := q7_86
theorem q7_85 : (Jvm.Cond.instanceMethod ({ cls := "PeeledHashModel", name := "hasGood", desc := "()Z" } : Jvm.MethodName)) ∈ gtbl := g_in7 (List.mem_of_getElem? (i := 85) rfl) rfl
theorem imX9_hasGood : Cond.instanceMethod (kY kX9_hasGood) ∈ gtbl := q7_85
abbrev kX9_table : gK := (RX9, yX9_table, cX9_table, 3, some .int)
theorem q7_91 : (Jvm.Cond.code ({ cls := "PeeledHashModel", name := "table", desc := "(I)I" } : Jvm.MethodName) prog_11_method_110_code (3 : Nat) (Option.some Jvm.ClassFile.FieldType.int)) ∈ gtbl := g_in7 (List.mem_of_getElem? (i := 91) rfl) rfl
theorem qcX9_table : Cond.code (kY kX9_table) (kB kX9_table) (kN kX9_table) (kR kX9_table) ∈ gtbl := q7_91
theorem q7_89 : (Jvm.Cond.instanceMethod ({ cls := "PeeledHashModel", name := "table", desc := "(I)I" } : Jvm.MethodName)) ∈ gtbl := g_in7 (List.mem_of_getElem? (i := 89) rfl) rfl
theorem imX9_table : Cond.instanceMethod (kY kX9_table) ∈ gtbl := q7_89
theorem q7_90 : (Jvm.Cond.selects "PeeledHashModel" ({ cls := "PeeledHashModel", name := "table", desc := "(I)I" } : Jvm.MethodName) ({ cls := "PeeledHashModel", name := "table", desc := "(I)I" } : Jvm.MethodName)) ∈ gtbl := g_in7 (List.mem_of_getElem? (i := 90) rfl) rfl
theorem seX9_table : Cond.selects RX9 (kY kX9_table) (kY kX9_table) ∈ gtbl := q7_90
abbrev kX9_signOrByte : gK := (RX9, yX9_signOrByte, cX9_signOrByte, 4, some .int)
theorem q7_95 : (Jvm.Cond.code ({ cls := "PeeledHashModel", name := "signOrByte", desc := "(II)I" } : Jvm.MethodName) prog_11_method_111_code (4 : Nat) (Option.some Jvm.ClassFile.FieldType.int)) ∈ gtbl := g_in7 (List.mem_of_getElem? (i := 95) rfl) rfl
theorem qcX9_signOrByte : Cond.code (kY kX9_signOrByte) (kB kX9_signOrByte) (kN kX9_signOrByte) (kR kX9_signOrByte) ∈ gtbl := q7_95
theorem q7_94 : (Jvm.Cond.instanceMethod ({ cls := "PeeledHashModel", name := "signOrByte", desc := "(II)I" } : Jvm.MethodName)) ∈ gtbl := g_in7 (List.mem_of_getElem? (i := 94) rfl) rfl
theorem imX9_signOrByte : Cond.instanceMethod (kY kX9_signOrByte) ∈ gtbl := q7_94
abbrev kX9_packed : gK := (RX9, yX9_packed, cX9_packed, 4, some .int)
theorem q7_99 : (Jvm.Cond.code ({ cls := "PeeledHashModel", name := "packed", desc := "(I)I" } : Jvm.MethodName) prog_11_method_109_code (4 : Nat) (Option.some Jvm.ClassFile.FieldType.int)) ∈ gtbl := g_in7 (List.mem_of_getElem? (i := 99) rfl) rfl
theorem qcX9_packed : Cond.code (kY kX9_packed) (kB kX9_packed) (kN kX9_packed) (kR kX9_packed) ∈ gtbl := q7_99
theorem q7_98 : (Jvm.Cond.instanceMethod ({ cls := "PeeledHashModel", name := "packed", desc := "(I)I" } : Jvm.MethodName)) ∈ gtbl := g_in7 (List.mem_of_getElem? (i := 98) rfl) rfl
theorem imX9_packed : Cond.instanceMethod (kY kX9_packed) ∈ gtbl := q7_98
abbrev kX9_twin : gK := (RX9, yX9_twin, cX9_twin, 3, some .int)
theorem q7_103 : (Jvm.Cond.code ({ cls := "PeeledHashModel", name := "twin", desc := "(I)I" } : Jvm.MethodName) prog_11_method_113_code (3 : Nat) (Option.some Jvm.ClassFile.FieldType.int)) ∈ gtbl := g_in7 (List.mem_of_getElem? (i := 103) rfl) rfl
theorem qcX9_twin : Cond.code (kY kX9_twin) (kB kX9_twin) (kN kX9_twin) (kR kX9_twin) ∈ gtbl := q7_103
theorem q7_101 : (Jvm.Cond.instanceMethod ({ cls := "PeeledHashModel", name := "twin", desc := "(I)I" } : Jvm.MethodName)) ∈ gtbl := g_in7 (List.mem_of_getElem? (i := 101) rfl) rfl
theorem imX9_twin : Cond.instanceMethod (kY kX9_twin) ∈ gtbl := q7_101
theorem q7_102 : (Jvm.Cond.selects "PeeledHashModel" ({ cls := "PeeledHashModel", name := "twin", desc := "(I)I" } : Jvm.MethodName) ({ cls := "PeeledHashModel", name := "twin", desc := "(I)I" } : Jvm.MethodName)) ∈ gtbl := g_in7 (List.mem_of_getElem? (i := 102) rfl) rfl
theorem seX9_twin : Cond.selects RX9 (kY kX9_twin) (kY kX9_twin) ∈ gtbl := q7_102
abbrev kX9_wasThere : gK := (RX9, yX9_wasThere, cX9_wasThere, 4, some .boolean)
theorem q7_107 : (Jvm.Cond.code ({ cls := "PeeledHashModel", name := "wasThere", desc := "(I)Z" } : Jvm.MethodName) prog_11_method_112_code (4 : Nat) (Option.some Jvm.ClassFile.FieldType.boolean)) ∈ gtbl := g_in7 (List.mem_of_getElem? (i := 107) rfl) rfl
theorem qcX9_wasThere : Cond.code (kY kX9_wasThere) (kB kX9_wasThere) (kN kX9_wasThere) (kR kX9_wasThere) ∈ gtbl := q7_107
theorem q7_106 : (Jvm.Cond.instanceMethod ({ cls := "PeeledHashModel", name := "wasThere", desc := "(I)Z" } : Jvm.MethodName)) ∈ gtbl := g_in7 (List.mem_of_getElem? (i := 106) rfl) rfl
theorem imX9_wasThere : Cond.instanceMethod (kY kX9_wasThere) ∈ gtbl := q7_106
abbrev kX9_seen : gK := (RX9, yX9_seen, cX9_seen, 4, some .int)
theorem q7_111 : (Jvm.Cond.code ({ cls := "PeeledHashModel", name := "seen", desc := "(II)I" } : Jvm.MethodName) prog_11_method_114_code (4 : Nat) (Option.some Jvm.ClassFile.FieldType.int)) ∈ gtbl := g_in7 (List.mem_of_getElem? (i := 111) rfl) rfl
theorem qcX9_seen : Cond.code (kY kX9_seen) (kB kX9_seen) (kN kX9_seen) (kR kX9_seen) ∈ gtbl := q7_111
theorem q7_109 : (Jvm.Cond.instanceMethod ({ cls := "PeeledHashModel", name := "seen", desc := "(II)I" } : Jvm.MethodName)) ∈ gtbl := g_in7 (List.mem_of_getElem? (i := 109) rfl) rfl
theorem imX9_seen : Cond.instanceMethod (kY kX9_seen) ∈ gtbl := q7_109
theorem q7_110 : (Jvm.Cond.selects "PeeledHashModel" ({ cls := "PeeledHashModel", name := "seen", desc := "(II)I" } : Jvm.MethodName) ({ cls := "PeeledHashModel", name := "seen", desc := "(II)I" } : Jvm.MethodName)) ∈ gtbl := g_in7 (List.mem_of_getElem? (i := 110) rfl) rfl
theorem seX9_seen : Cond.selects RX9 (kY kX9_seen) (kY kX9_seen) ∈ gtbl := q7_110
abbrev kX9_forget : gK := (RX9, yX9_forget, cX9_forget, 2, some .int)
theorem q7_115 : (Jvm.Cond.code ({ cls := "PeeledHashModel", name := "forget", desc := "()I" } : Jvm.MethodName) prog_11_method_115_code (2 : Nat) (Option.some Jvm.ClassFile.FieldType.int)) ∈ gtbl := g_in7 (List.mem_of_getElem? (i := 115) rfl) rfl
theorem qcX9_forget : Cond.code (kY kX9_forget) (kB kX9_forget) (kN kX9_forget) (kR kX9_forget) ∈ gtbl := q7_115
theorem q7_113 : (Jvm.Cond.instanceMethod ({ cls := "PeeledHashModel", name := "forget", desc := "()I" } : Jvm.MethodName)) ∈ gtbl := g_in7 (List.mem_of_getElem? (i := 113) rfl) rfl
theorem imX9_forget : Cond.instanceMethod (kY kX9_forget) ∈ gtbl := q7_113
theorem q7_114 : (Jvm.Cond.selects "PeeledHashModel" ({ cls := "PeeledHashModel", name := "forget", desc := "()I" } : Jvm.MethodName) ({ cls := "PeeledHashModel", name := "forget", desc := "()I" } : Jvm.MethodName)) ∈ gtbl := g_in7 (List.mem_of_getElem? (i := 114) rfl) rfl
theorem seX9_forget : Cond.selects RX9 (kY kX9_forget) (kY kX9_forget) ∈ gtbl := q7_114
abbrev kX9_canBe : gK := (RX9, yX9_canBe, cX9_canBe, 4, some .int)
theorem q7_119 : (Jvm.Cond.code ({ cls := "PeeledHashModel", name := "canBe", desc := "(I)I" } : Jvm.MethodName) prog_11_method_118_code (4 : Nat) (Option.some Jvm.ClassFile.FieldType.int)) ∈ gtbl := g_in7 (List.mem_of_getElem? (i := 119) rfl) rfl
theorem qcX9_canBe : Cond.code (kY kX9_canBe) (kB kX9_canBe) (kN kX9_canBe) (kR kX9_canBe) ∈ gtbl := q7_119
theorem q7_117 : (Jvm.Cond.instanceMethod ({ cls := "PeeledHashModel", name := "canBe", desc := "(I)I" } : Jvm.MethodName)) ∈ gtbl := g_in7 (List.mem_of_getElem? (i := 117) rfl) rfl
theorem imX9_canBe : Cond.instanceMethod (kY kX9_canBe) ∈ gtbl := q7_117
theorem q7_118 : (Jvm.Cond.selects "PeeledHashModel" ({ cls := "PeeledHashModel", name := "canBe", desc := "(I)I" } : Jvm.MethodName) ({ cls := "PeeledHashModel", name := "canBe", desc := "(I)I" } : Jvm.MethodName)) ∈ gtbl := g_in7 (List.mem_of_getElem? (i := 118) rfl) rfl
theorem seX9_canBe : Cond.selects RX9 (kY kX9_canBe) (kY kX9_canBe) ∈ gtbl := q7_118
abbrev kX9_isSo : gK := (RX9, yX9_isSo, cX9_isSo, 4, some .boolean)
theorem q7_123 : (Jvm.Cond.code ({ cls := "PeeledHashModel", name := "isSo", desc := "(I)Z" } : Jvm.MethodName) prog_11_method_117_code (4 : Nat) (Option.some Jvm.ClassFile.FieldType.boolean)) ∈ gtbl := g_in7 (List.mem_of_getElem? (i := 123) rfl) rfl
theorem qcX9_isSo : Cond.code (kY kX9_isSo) (kB kX9_isSo) (kN kX9_isSo) (kR kX9_isSo) ∈ gtbl := q7_123
theorem q7_122 : (Jvm.Cond.instanceMethod ({ cls := "PeeledHashModel", name := "isSo", desc := "(I)Z" } : Jvm.MethodName)) ∈ gtbl := g_in7 (List.mem_of_getElem? (i := 122) rfl) rfl
theorem imX9_isSo : Cond.instanceMethod (kY kX9_isSo) ∈ gtbl := q7_122
abbrev kX9_has : gK := (RX9, yX9_has, cX9_has, 3, some .boolean)
theorem q7_127 : (Jvm.Cond.code ({ cls := "PeeledHashModel", name := "has", desc := "(II)Z" } : Jvm.MethodName) prog_11_method_116_code (3 : Nat) (Option.some Jvm.ClassFile.FieldType.boolean)) ∈ gtbl := g_in7 (List.mem_of_getElem? (i := 127) rfl) rfl
theorem qcX9_has : Cond.code (kY kX9_has) (kB kX9_has) (kN kX9_has) (kR kX9_has) ∈ gtbl := q7_127
theorem q7_126 : (Jvm.Cond.instanceMethod ({ cls := "PeeledHashModel", name := "has", desc := "(II)Z" } : Jvm.MethodName)) ∈ gtbl := g_in7 (List.mem_of_getElem? (i := 126) rfl) rfl
theorem imX9_has : Cond.instanceMethod (kY kX9_has) ∈ gtbl := q7_126
abbrev kX9_ask : gK := (RX9, yX9_ask, cX9_ask, 8, some .int)
theorem q7_131 : (Jvm.Cond.code ({ cls := "PeeledHashModel", name := "ask", desc := "(I)I" } : Jvm.MethodName) prog_11_method_119_code (8 : Nat) (Option.some Jvm.ClassFile.FieldType.int)) ∈ gtbl := g_in7 (List.mem_of_getElem? (i := 131) rfl) rfl
theorem qcX9_ask : Cond.code (kY kX9_ask) (kB kX9_ask) (kN kX9_ask) (kR kX9_ask) ∈ gtbl := q7_131
theorem q7_129 : (Jvm.Cond.instanceMethod ({ cls := "PeeledHashModel", name := "ask", desc := "(I)I" } : Jvm.MethodName)) ∈ gtbl := g_in7 (List.mem_of_getElem? (i := 129) rfl) rfl
theorem imX9_ask : Cond.instanceMethod (kY kX9_ask) ∈ gtbl := q7_129
theorem q7_130 : (Jvm.Cond.selects "PeeledHashModel" ({ cls := "PeeledHashModel", name := "ask", desc := "(I)I" } : Jvm.MethodName) ({ cls := "PeeledHashModel", name := "ask", desc := "(I)I" } : Jvm.MethodName)) ∈ gtbl := g_in7 (List.mem_of_getElem? (i := 130) rfl) rfl
theorem seX9_ask : Cond.selects RX9 (kY kX9_ask) (kY kX9_ask) ∈ gtbl := q7_130
abbrev kX9_greater : gK := (RX9, yX9_greater, cX9_greater, 2, some .int)
theorem q7_135 : (Jvm.Cond.code ({ cls := "PeeledHashModel", name := "greater", desc := "(II)I" } : Jvm.MethodName) prog_11_method_3_code (2 : Nat) (Option.some Jvm.ClassFile.FieldType.int)) ∈ gtbl := g_in7 (List.mem_of_getElem? (i := 135) rfl) rfl
theorem qcX9_greater : Cond.code (kY kX9_greater) (kB kX9_greater) (kN kX9_greater) (kR kX9_greater) ∈ gtbl := q7_135
theorem q7_134 : (Jvm.Cond.static ({ cls := "PeeledHashModel", name := "greater", desc := "(II)I" } : Jvm.MethodName)) ∈ gtbl := g_in7 (List.mem_of_getElem? (i := 134) rfl) rfl
theorem smX9_greater : Cond.static (kY kX9_greater) ∈ gtbl := q7_134
abbrev kX9_few : gK := (RX9, yX9_few, cX9_few, 6, some .long)
theorem q7_139 : (Jvm.Cond.code ({ cls := "PeeledHashModel", name := "few", desc := "(II)J" } : Jvm.MethodName) prog_11_method_120_code (6 : Nat) (Option.some Jvm.ClassFile.FieldType.long)) ∈ gtbl := g_in7 (List.mem_of_getElem? (i := 139) rfl) rfl
theorem qcX9_few : Cond.code (kY kX9_few) (kB kX9_few) (kN kX9_few) (kR kX9_few) ∈ gtbl := q7_139
theorem q7_137 : (Jvm.Cond.instanceMethod ({ cls := "PeeledHashModel", name := "few", desc := "(II)J" } : Jvm.MethodName)) ∈ gtbl := g_in7 (List.mem_of_getElem? (i := 137) rfl) rfl
theorem imX9_few : Cond.instanceMethod (kY kX9_few) ∈ gtbl := q7_137
theorem q7_138 : (Jvm.Cond.selects "PeeledHashModel" ({ cls := "PeeledHashModel", name := "few", desc := "(II)J" } : Jvm.MethodName) ({ cls := "PeeledHashModel", name := "few", desc := "(II)J" } : Jvm.MethodName)) ∈ gtbl := g_in7 (List.mem_of_getElem? (i := 138) rfl) rfl
theorem seX9_few : Cond.selects RX9 (kY kX9_few) (kY kX9_few) ∈ gtbl := q7_138
abbrev kX9_compare : gK := (RX9, yX9_compare, cX9_compare, 5, some .int)
theorem q7_146 : (Jvm.Cond.code ({ cls := "PeeledHashModel", name := "compare", desc := "(II)I" } : Jvm.MethodName) prog_11_method_121_code (5 : Nat) (Option.some Jvm.ClassFile.FieldType.int)) ∈ gtbl := g_in7 (List.mem_of_getElem? (i := 146) rfl) rfl
theorem qcX9_compare : Cond.code (kY kX9_compare) (kB kX9_compare) (kN kX9_compare) (kR kX9_compare) ∈ gtbl := q7_146
theorem q7_144 : (Jvm.Cond.instanceMethod ({ cls := "PeeledHashModel", name := "compare", desc := "(II)I" } : Jvm.MethodName)) ∈ gtbl := g_in7 (List.mem_of_getElem? (i := 144) rfl) rfl
theorem imX9_compare : Cond.instanceMethod (kY kX9_compare) ∈ gtbl := q7_144
theorem q7_145 : (Jvm.Cond.selects "PeeledHashModel" ({ cls := "PeeledHashModel", name := "compare", desc := "(II)I" } : Jvm.MethodName) ({ cls := "PeeledHashModel", name := "compare", desc := "(II)I" } : Jvm.MethodName)) ∈ gtbl := g_in7 (List.mem_of_getElem? (i := 145) rfl) rfl
theorem seX9_compare : Cond.selects RX9 (kY kX9_compare) (kY kX9_compare) ∈ gtbl := q7_145
abbrev kX9_stopped : gK := (RX9, yX9_stopped, cX9_stopped, 1, some .int)
theorem q7_150 : (Jvm.Cond.code ({ cls := "PeeledHashModel", name := "stopped", desc := "()I" } : Jvm.MethodName) prog_11_method_122_code (1 : Nat) (Option.some Jvm.ClassFile.FieldType.int)) ∈ gtbl := g_in7 (List.mem_of_getElem? (i := 150) rfl) rfl
theorem qcX9_stopped : Cond.code (kY kX9_stopped) (kB kX9_stopped) (kN kX9_stopped) (kR kX9_stopped) ∈ gtbl := q7_150
theorem q7_148 : (Jvm.Cond.instanceMethod ({ cls := "PeeledHashModel", name := "stopped", desc := "()I" } : Jvm.MethodName)) ∈ gtbl := g_in7 (List.mem_of_getElem? (i := 148) rfl) rfl
theorem imX9_stopped : Cond.instanceMethod (kY kX9_stopped) ∈ gtbl := q7_148
theorem q7_149 : (Jvm.Cond.selects "PeeledHashModel" ({ cls := "PeeledHashModel", name := "stopped", desc := "()I" } : Jvm.MethodName) ({ cls := "PeeledHashModel", name := "stopped", desc := "()I" } : Jvm.MethodName)) ∈ gtbl := g_in7 (List.mem_of_getElem? (i := 149) rfl) rfl
theorem seX9_stopped : Cond.selects RX9 (kY kX9_stopped) (kY kX9_stopped) ∈ gtbl := q7_149
abbrev kX9_orders : gK := (RX9, yX9_orders, cX9_orders, 5, some .int)
theorem q7_154 : (Jvm.Cond.code ({ cls := "PeeledHashModel", name := "orders", desc := "()I" } : Jvm.MethodName) prog_11_method_123_code (5 : Nat) (Option.some Jvm.ClassFile.FieldType.int)) ∈ gtbl := g_in7 (List.mem_of_getElem? (i := 154) rfl) rfl
theorem qcX9_orders : Cond.code (kY kX9_orders) (kB kX9_orders) (kN kX9_orders) (kR kX9_orders) ∈ gtbl := q7_154
theorem q7_152 : (Jvm.Cond.instanceMethod ({ cls := "PeeledHashModel", name := "orders", desc := "()I" } : Jvm.MethodName)) ∈ gtbl := g_in7 (List.mem_of_getElem? (i := 152) rfl) rfl
theorem imX9_orders : Cond.instanceMethod (kY kX9_orders) ∈ gtbl := q7_152
theorem q7_153 : (Jvm.Cond.selects "PeeledHashModel" ({ cls := "PeeledHashModel", name := "orders", desc := "()I" } : Jvm.MethodName) ({ cls := "PeeledHashModel", name := "orders", desc := "()I" } : Jvm.MethodName)) ∈ gtbl := g_in7 (List.mem_of_getElem? (i := 153) rfl) rfl
theorem seX9_orders : Cond.selects RX9 (kY kX9_orders) (kY kX9_orders) ∈ gtbl := q7_153
abbrev kX9_runs : gK := (RX9, yX9_runs, cX9_runs, 5, some .boolean)
theorem q7_158 : (Jvm.Cond.code ({ cls := "PeeledHashModel", name := "runs", desc := "(I)Z" } : Jvm.MethodName) prog_11_method_127_code (5 : Nat) (Option.some Jvm.ClassFile.FieldType.boolean)) ∈ gtbl := g_in7 (List.mem_of_getElem? (i := 158) rfl) rfl
theorem qcX9_runs : Cond.code (kY kX9_runs) (kB kX9_runs) (kN kX9_runs) (kR kX9_runs) ∈ gtbl := q7_158
theorem q7_157 : (Jvm.Cond.instanceMethod ({ cls := "PeeledHashModel", name := "runs", desc := "(I)Z" } : Jvm.MethodName)) ∈ gtbl := g_in7 (List.mem_of_getElem? (i := 157) rfl) rfl
theorem imX9_runs : Cond.instanceMethod (kY kX9_runs) ∈ gtbl := q7_157
abbrev kX9_goesAlong : gK := (RX9, yX9_goesAlong, cX9_goesAlong, 3, none)
theorem q7_162 : (Jvm.Cond.code ({ cls := "PeeledHashModel", name := "goesAlong", desc := "(IZ)V" } : Jvm.MethodName) prog_11_method_124_code (3 : Nat) (Option.none : Option Jvm.ClassFile.FieldType)) ∈ gtbl := g_in7 (List.mem_of_getElem? (i := 162) rfl) rfl
theorem qcX9_goesAlong : Cond.code (kY kX9_goesAlong) (kB kX9_goesAlong) (kN kX9_goesAlong) (kR kX9_goesAlong) ∈ gtbl := q7_162
theorem q7_161 : (Jvm.Cond.instanceMethod ({ cls := "PeeledHashModel", name := "goesAlong", desc := "(IZ)V" } : Jvm.MethodName)) ∈ gtbl := g_in7 (List.mem_of_getElem? (i := 161) rfl) rfl
theorem imX9_goesAlong : Cond.instanceMethod (kY kX9_goesAlong) ∈ gtbl := q7_161
abbrev kX9_obeys : gK := (RX9, yX9_obeys, cX9_obeys, 3, some .int)
theorem q7_166 : (Jvm.Cond.code ({ cls := "PeeledHashModel", name := "obeys", desc := "()I" } : Jvm.MethodName) prog_11_method_126_code (3 : Nat) (Option.some Jvm.ClassFile.FieldType.int)) ∈ gtbl := g_in7 (List.mem_of_getElem? (i := 166) rfl) rfl
theorem qcX9_obeys : Cond.code (kY kX9_obeys) (kB kX9_obeys) (kN kX9_obeys) (kR kX9_obeys) ∈ gtbl := q7_166
theorem q7_165 : (Jvm.Cond.instanceMethod ({ cls := "PeeledHashModel", name := "obeys", desc := "()I" } : Jvm.MethodName)) ∈ gtbl := g_in7 (List.mem_of_getElem? (i := 165) rfl) rfl
theorem imX9_obeys : Cond.instanceMethod (kY kX9_obeys) ∈ gtbl := q7_165
abbrev kX9_small : gK := (RX9, yX9_small, cX9_small, 2, some .int)
theorem q7_169 : (Jvm.Cond.code ({ cls := "PeeledHashModel", name := "small", desc := "(J)I" } : Jvm.MethodName) prog_11_method_125_code (2 : Nat) (Option.some Jvm.ClassFile.FieldType.int)) ∈ gtbl := g_in7 (List.mem_of_getElem? (i := 169) rfl) rfl
theorem qcX9_small : Cond.code (kY kX9_small) (kB kX9_small) (kN kX9_small) (kR kX9_small) ∈ gtbl := q7_169
theorem q7_168 : (Jvm.Cond.static ({ cls := "PeeledHashModel", name := "small", desc := "(J)I" } : Jvm.MethodName)) ∈ gtbl := g_in7 (List.mem_of_getElem? (i := 168) rfl) rfl
theorem smX9_small : Cond.static (kY kX9_small) ∈ gtbl := q7_168
abbrev kX9_takesBack : gK := (RX9, yX9_takesBack, cX9_takesBack, 3, none)
theorem q7_174 : (Jvm.Cond.code ({ cls := "PeeledHashModel", name := "takesBack", desc := "(I)V" } : Jvm.MethodName) prog_11_method_11_code (3 : Nat) (Option.none : Option Jvm.ClassFile.FieldType)) ∈ gtbl := g_in7 (List.mem_of_getElem? (i := 174) rfl) rfl
theorem qcX9_takesBack : Cond.code (kY kX9_takesBack) (kB kX9_takesBack) (kN kX9_takesBack) (kR kX9_takesBack) ∈ gtbl := q7_174
theorem q7_173 : (Jvm.Cond.instanceMethod ({ cls := "PeeledHashModel", name := "takesBack", desc := "(I)V" } : Jvm.MethodName)) ∈ gtbl := g_in7 (List.mem_of_getElem? (i := 173) rfl) rfl
theorem imX9_takesBack : Cond.instanceMethod (kY kX9_takesBack) ∈ gtbl := q7_173
abbrev kX9_years : gK := (RX9, yX9_years, cX9_years, 5, some .int)
theorem q7_178 : (Jvm.Cond.code ({ cls := "PeeledHashModel", name := "years", desc := "(II)I" } : Jvm.MethodName) prog_11_method_130_code (5 : Nat) (Option.some Jvm.ClassFile.FieldType.int)) ∈ gtbl := g_in7 (List.mem_of_getElem? (i := 178) rfl) rfl
theorem qcX9_years : Cond.code (kY kX9_years) (kB kX9_years) (kN kX9_years) (kR kX9_years) ∈ gtbl := q7_178
theorem q7_176 : (Jvm.Cond.instanceMethod ({ cls := "PeeledHashModel", name := "years", desc := "(II)I" } : Jvm.MethodName)) ∈ gtbl := g_in7 (List.mem_of_getElem? (i := 176) rfl) rfl
theorem imX9_years : Cond.instanceMethod (kY kX9_years) ∈ gtbl := q7_176
theorem q7_177 : (Jvm.Cond.selects "PeeledHashModel" ({ cls := "PeeledHashModel", name := "years", desc := "(II)I" } : Jvm.MethodName) ({ cls := "PeeledHashModel", name := "years", desc := "(II)I" } : Jvm.MethodName)) ∈ gtbl := g_in7 (List.mem_of_getElem? (i := 177) rfl) rfl
theorem seX9_years : Cond.selects RX9 (kY kX9_years) (kY kX9_years) ∈ gtbl := q7_177
abbrev kX9_drawnAct : gK := (RX9, yX9_drawnAct, cX9_drawnAct, 3, none)
theorem q7_182 : (Jvm.Cond.code ({ cls := "PeeledHashModel", name := "drawnAct", desc := "()V" } : Jvm.MethodName) prog_11_method_129_code (3 : Nat) (Option.none : Option Jvm.ClassFile.FieldType)) ∈ gtbl := g_in7 (List.mem_of_getElem? (i := 182) rfl) rfl
theorem qcX9_drawnAct : Cond.code (kY kX9_drawnAct) (kB kX9_drawnAct) (kN kX9_drawnAct) (kR kX9_drawnAct) ∈ gtbl := q7_182
theorem q7_181 : (Jvm.Cond.instanceMethod ({ cls := "PeeledHashModel", name := "drawnAct", desc := "()V" } : Jvm.MethodName)) ∈ gtbl := g_in7 (List.mem_of_getElem? (i := 181) rfl) rfl
theorem imX9_drawnAct : Cond.instanceMethod (kY kX9_drawnAct) ∈ gtbl := q7_181
abbrev kX9_draws : gK := (RX9, yX9_draws, cX9_draws, 2, some .int)
theorem q7_186 : (Jvm.Cond.code ({ cls := "PeeledHashModel", name := "draws", desc := "(I)I" } : Jvm.MethodName) prog_11_method_128_code (2 : Nat) (Option.some Jvm.ClassFile.FieldType.int)) ∈ gtbl := g_in7 (List.mem_of_getElem? (i := 186) rfl) rfl
theorem qcX9_draws : Cond.code (kY kX9_draws) (kB kX9_draws) (kN kX9_draws) (kR kX9_draws) ∈ gtbl := q7_186
theorem q7_185 : (Jvm.Cond.instanceMethod ({ cls := "PeeledHashModel", name := "draws", desc := "(I)I" } : Jvm.MethodName)) ∈ gtbl := g_in7 (List.mem_of_getElem? (i := 185) rfl) rfl
theorem imX9_draws : Cond.instanceMethod (kY kX9_draws) ∈ gtbl := q7_185
abbrev kX9_drawn : gK := (RX9, yX9_drawn, cX9_drawn, 2, some .int)
theorem q7_193 : (Jvm.Cond.code ({ cls := "PeeledHashModel", name := "drawn", desc := "(I)I" } : Jvm.MethodName) prog_11_method_131_code (2 : Nat) (Option.some Jvm.ClassFile.FieldType.int)) ∈ gtbl := g_in7 (List.mem_of_getElem? (i := 193) rfl) rfl
theorem qcX9_drawn : Cond.code (kY kX9_drawn) (kB kX9_drawn) (kN kX9_drawn) (kR kX9_drawn) ∈ gtbl := q7_193
theorem q7_191 : (Jvm.Cond.instanceMethod ({ cls := "PeeledHashModel", name := "drawn", desc := "(I)I" } : Jvm.MethodName)) ∈ gtbl := g_in7 (List.mem_of_getElem? (i := 191) rfl) rfl
theorem imX9_drawn : Cond.instanceMethod (kY kX9_drawn) ∈ gtbl := q7_191
theorem q7_192 : (Jvm.Cond.selects "PeeledHashModel" ({ cls := "PeeledHashModel", name := "drawn", desc := "(I)I" } : Jvm.MethodName) ({ cls := "PeeledHashModel", name := "drawn", desc := "(I)I" } : Jvm.MethodName)) ∈ gtbl := g_in7 (List.mem_of_getElem? (i := 192) rfl) rfl
theorem seX9_drawn : Cond.selects RX9 (kY kX9_drawn) (kY kX9_drawn) ∈ gtbl := q7_192
abbrev kX9_count : gK := (RX9, yX9_count, cX9_count, 2, some .int)
theorem q7_197 : (Jvm.Cond.code ({ cls := "PeeledHashModel", name := "count", desc := "(I)I" } : Jvm.MethodName) prog_11_method_132_code (2 : Nat) (Option.some Jvm.ClassFile.FieldType.int)) ∈ gtbl := g_in7 (List.mem_of_getElem? (i := 197) rfl) rfl
theorem qcX9_count : Cond.code (kY kX9_count) (kB kX9_count) (kN kX9_count) (kR kX9_count) ∈ gtbl := q7_197
theorem q7_195 : (Jvm.Cond.instanceMethod ({ cls := "PeeledHashModel", name := "count", desc := "(I)I" } : Jvm.MethodName)) ∈ gtbl := g_in7 (List.mem_of_getElem? (i := 195) rfl) rfl
theorem imX9_count : Cond.instanceMethod (kY kX9_count) ∈ gtbl := q7_195
theorem q7_196 : (Jvm.Cond.selects "PeeledHashModel" ({ cls := "PeeledHashModel", name := "count", desc := "(I)I" } : Jvm.MethodName) ({ cls := "PeeledHashModel", name := "count", desc := "(I)I" } : Jvm.MethodName)) ∈ gtbl := g_in7 (List.mem_of_getElem? (i := 196) rfl) rfl
theorem seX9_count : Cond.selects RX9 (kY kX9_count) (kY kX9_count) ∈ gtbl := q7_196
abbrev kX9_refusals : gK := (RX9, yX9_refusals, cX9_refusals, 2, some .int)
theorem q7_201 : (Jvm.Cond.code ({ cls := "PeeledHashModel", name := "refusals", desc := "(I)I" } : Jvm.MethodName) prog_11_method_133_code (2 : Nat) (Option.some Jvm.ClassFile.FieldType.int)) ∈ gtbl := g_in7 (List.mem_of_getElem? (i := 201) rfl) rfl
theorem qcX9_refusals : Cond.code (kY kX9_refusals) (kB kX9_refusals) (kN kX9_refusals) (kR kX9_refusals) ∈ gtbl := q7_201
theorem q7_200 : (Jvm.Cond.instanceMethod ({ cls := "PeeledHashModel", name := "refusals", desc := "(I)I" } : Jvm.MethodName)) ∈ gtbl := g_in7 (List.mem_of_getElem? (i := 200) rfl) rfl
theorem imX9_refusals : Cond.instanceMethod (kY kX9_refusals) ∈ gtbl := q7_200
abbrev kX9_status : gK := (RX9, yX9_status, cX9_status, 1, some .int)
theorem q7_205 : (Jvm.Cond.code ({ cls := "PeeledHashModel", name := "status", desc := "()I" } : Jvm.MethodName) prog_11_method_134_code (1 : Nat) (Option.some Jvm.ClassFile.FieldType.int)) ∈ gtbl := g_in7 (List.mem_of_getElem? (i := 205) rfl) rfl
theorem qcX9_status : Cond.code (kY kX9_status) (kB kX9_status) (kN kX9_status) (kR kX9_status) ∈ gtbl := q7_205
theorem q7_203 : (Jvm.Cond.instanceMethod ({ cls := "PeeledHashModel", name := "status", desc := "()I" } : Jvm.MethodName)) ∈ gtbl := g_in7 (List.mem_of_getElem? (i := 203) rfl) rfl
theorem imX9_status : Cond.instanceMethod (kY kX9_status) ∈ gtbl := q7_203
theorem q7_204 : (Jvm.Cond.selects "PeeledHashModel" ({ cls := "PeeledHashModel", name := "status", desc := "()I" } : Jvm.MethodName) ({ cls := "PeeledHashModel", name := "status", desc := "()I" } : Jvm.MethodName)) ∈ gtbl := g_in7 (List.mem_of_getElem? (i := 204) rfl) rfl
theorem seX9_status : Cond.selects RX9 (kY kX9_status) (kY kX9_status) ∈ gtbl := q7_204
theorem seX8_lawInForce : Cond.selects RX8 (kY kX8_lawInForce) (kY kX8_lawInForce) ∈ gtbl := g_in0 (List.mem_of_getElem? (i := 0) rfl) rfl
theorem seX8_lawNumbered : Cond.selects RX8 (kY kX8_lawNumbered) (kY kX8_lawNumbered) ∈ gtbl := g_in0 (List.mem_of_getElem? (i := 1) rfl) rfl
theorem seX4_tellLaw : Cond.selects RX4 (kY kX4_tellLaw) (kY kX4_tellLaw) ∈ gtbl := g_in0 (List.mem_of_getElem? (i := 2) rfl) rfl
theorem seX8_refuse : Cond.selects RX8 (kY kX8_refuse) (kY kX8_refuse) ∈ gtbl := g_in0 (List.mem_of_getElem? (i := 3) rfl) rfl
theorem seX8_accept : Cond.selects RX8 (kY kX8_accept) (kY kX8_accept) ∈ gtbl := g_in0 (List.mem_of_getElem? (i := 4) rfl) rfl
theorem seX8_addTo : Cond.selects RX8 (kY kX8_addTo) (kY kX8_addTo) ∈ gtbl := g_in0 (List.mem_of_getElem? (i := 5) rfl) rfl
theorem seX2_splitIntoTokens : Cond.selects RX2 (kY kX2_splitIntoTokens) (kY kX2_splitIntoTokens) ∈ gtbl := g_in0 (List.mem_of_getElem? (i := 6) rfl) rfl
theorem seX2_numberBetween : Cond.selects RX2 (kY kX2_numberBetween) (kY kX2_numberBetween) ∈ gtbl := g_in0 (List.mem_of_getElem? (i := 7) rfl) rfl
theorem seX2_wordBetween : Cond.selects RX2 (kY kX2_wordBetween) (kY kX2_wordBetween) ∈ gtbl := g_in0 (List.mem_of_getElem? (i := 8) rfl) rfl
theorem seX2_readClause : Cond.selects RX2 (kY kX2_readClause) (kY kX2_readClause) ∈ gtbl := g_in0 (List.mem_of_getElem? (i := 9) rfl) rfl
theorem seX2_orderKind : Cond.selects RX2 (kY kX2_orderKind) (kY kX2_orderKind) ∈ gtbl := g_in0 (List.mem_of_getElem? (i := 10) rfl) rfl
theorem seX2_lawKind : Cond.selects RX2 (kY kX2_lawKind) (kY kX2_lawKind) ∈ gtbl := g_in0 (List.mem_of_getElem? (i := 11) rfl) rfl
theorem seX2_fail : Cond.selects RX2 (kY kX2_fail) (kY kX2_fail) ∈ gtbl := g_in0 (List.mem_of_getElem? (i := 12) rfl) rfl
theorem seX2_pass : Cond.selects RX2 (kY kX2_pass) (kY kX2_pass) ∈ gtbl := g_in0 (List.mem_of_getElem? (i := 13) rfl) rfl
theorem seX2_readSum : Cond.selects RX2 (kY kX2_readSum) (kY kX2_readSum) ∈ gtbl := g_in0 (List.mem_of_getElem? (i := 14) rfl) rfl
theorem seX2_readTerm : Cond.selects RX2 (kY kX2_readTerm) (kY kX2_readTerm) ∈ gtbl := g_in0 (List.mem_of_getElem? (i := 15) rfl) rfl
theorem seX2_readPiece : Cond.selects RX2 (kY kX2_readPiece) (kY kX2_readPiece) ∈ gtbl := g_in0 (List.mem_of_getElem? (i := 16) rfl) rfl
theorem seX2_isMark : Cond.selects RX2 (kY kX2_isMark) (kY kX2_isMark) ∈ gtbl := g_in0 (List.mem_of_getElem? (i := 17) rfl) rfl
theorem seX2_passMark : Cond.selects RX2 (kY kX2_passMark) (kY kX2_passMark) ∈ gtbl := g_in0 (List.mem_of_getElem? (i := 18) rfl) rfl
theorem seX2_readLookup : Cond.selects RX2 (kY kX2_readLookup) (kY kX2_readLookup) ∈ gtbl := g_in0 (List.mem_of_getElem? (i := 19) rfl) rfl
theorem seX2_readTimes : Cond.selects RX2 (kY kX2_readTimes) (kY kX2_readTimes) ∈ gtbl := g_in0 (List.mem_of_getElem? (i := 20) rfl) rfl
theorem seX2_readTest : Cond.selects RX2 (kY kX2_readTest) (kY kX2_readTest) ∈ gtbl := g_in0 (List.mem_of_getElem? (i := 21) rfl) rfl
theorem seX2_readBoth : Cond.selects RX2 (kY kX2_readBoth) (kY kX2_readBoth) ∈ gtbl := g_in0 (List.mem_of_getElem? (i := 22) rfl) rfl
theorem seX2_readPlain : Cond.selects RX2 (kY kX2_readPlain) (kY kX2_readPlain) ∈ gtbl := g_in0 (List.mem_of_getElem? (i := 23) rfl) rfl
theorem seX8_runOnce : Cond.selects RX8 (kY kX8_runOnce) (kY kX8_runOnce) ∈ gtbl := g_in0 (List.mem_of_getElem? (i := 24) rfl) rfl
theorem seX8_tellOrders : Cond.selects RX8 (kY kX8_tellOrders) (kY kX8_tellOrders) ∈ gtbl := g_in0 (List.mem_of_getElem? (i := 25) rfl) rfl
theorem seX0_slot : Cond.selects RX0 (kY kX0_slot) (kY kX0_slot) ∈ gtbl := g_in0 (List.mem_of_getElem? (i := 26) rfl) rfl
theorem seX8_carryOut : Cond.selects RX8 (kY kX8_carryOut) (kY kX8_carryOut) ∈ gtbl := g_in0 (List.mem_of_getElem? (i := 27) rfl) rfl
theorem seX8_buildOn : Cond.selects RX8 (kY kX8_buildOn) (kY kX8_buildOn) ∈ gtbl := g_in0 (List.mem_of_getElem? (i := 28) rfl) rfl
theorem seX1_lay : Cond.selects RX1 (kY kX1_lay) (kY kX1_lay) ∈ gtbl := g_in0 (List.mem_of_getElem? (i := 29) rfl) rfl
theorem seX1_letGo : Cond.selects RX1 (kY kX1_letGo) (kY kX1_letGo) ∈ gtbl := g_in0 (List.mem_of_getElem? (i := 30) rfl) rfl
theorem seX1_leastFree : Cond.selects RX1 (kY kX1_leastFree) (kY kX1_leastFree) ∈ gtbl := g_in0 (List.mem_of_getElem? (i := 31) rfl) rfl
theorem seX5_settle : Cond.selects RX5 (kY kX5_settle) (kY kX5_settle) ∈ gtbl := g_in0 (List.mem_of_getElem? (i := 32) rfl) rfl
theorem seX8_change : Cond.selects RX8 (kY kX8_change) (kY kX8_change) ∈ gtbl := g_in0 (List.mem_of_getElem? (i := 33) rfl) rfl
theorem seX8_collectPossible : Cond.selects RX8 (kY kX8_collectPossible) (kY kX8_collectPossible) ∈ gtbl := g_in0 (List.mem_of_getElem? (i := 34) rfl) rfl
theorem seX8_imageNumbered : Cond.selects RX8 (kY kX8_imageNumbered) (kY kX8_imageNumbered) ∈ gtbl := g_in0 (List.mem_of_getElem? (i := 35) rfl) rfl
theorem seX9_refuses : Cond.selects RX9 (kY kX9_refuses) (kY kX9_refuses) ∈ gtbl := g_in0 (List.mem_of_getElem? (i := 36) rfl) rfl
theorem seX9_good0 : Cond.selects RX9 (kY kX9_good0) (kY kX9_good0) ∈ gtbl := g_in0 (List.mem_of_getElem? (i := 37) rfl) rfl
theorem seX9_settled : Cond.selects RX9 (kY kX9_settled) (kY kX9_settled) ∈ gtbl := g_in0 (List.mem_of_getElem? (i := 38) rfl) rfl
theorem seX9_isThere : Cond.selects RX9 (kY kX9_isThere) (kY kX9_isThere) ∈ gtbl := g_in0 (List.mem_of_getElem? (i := 39) rfl) rfl
theorem seX9_lowerMany : Cond.selects RX9 (kY kX9_lowerMany) (kY kX9_lowerMany) ∈ gtbl := g_in0 (List.mem_of_getElem? (i := 40) rfl) rfl
theorem seX9_keyAt : Cond.selects RX9 (kY kX9_keyAt) (kY kX9_keyAt) ∈ gtbl := g_in0 (List.mem_of_getElem? (i := 41) rfl) rfl
theorem seX9_isBarred : Cond.selects RX9 (kY kX9_isBarred) (kY kX9_isBarred) ∈ gtbl := g_in0 (List.mem_of_getElem? (i := 42) rfl) rfl
theorem seX9_setsAsked : Cond.selects RX9 (kY kX9_setsAsked) (kY kX9_setsAsked) ∈ gtbl := g_in0 (List.mem_of_getElem? (i := 43) rfl) rfl
theorem seX9_tells : Cond.selects RX9 (kY kX9_tells) (kY kX9_tells) ∈ gtbl := g_in0 (List.mem_of_getElem? (i := 44) rfl) rfl
theorem seX9_codeAt : Cond.selects RX9 (kY kX9_codeAt) (kY kX9_codeAt) ∈ gtbl := g_in0 (List.mem_of_getElem? (i := 45) rfl) rfl
theorem seX9_sumOf : Cond.selects RX9 (kY kX9_sumOf) (kY kX9_sumOf) ∈ gtbl := g_in0 (List.mem_of_getElem? (i := 46) rfl) rfl
theorem seX9_termOf : Cond.selects RX9 (kY kX9_termOf) (kY kX9_termOf) ∈ gtbl := g_in0 (List.mem_of_getElem? (i := 47) rfl) rfl
theorem seX9_partOf : Cond.selects RX9 (kY kX9_partOf) (kY kX9_partOf) ∈ gtbl := g_in0 (List.mem_of_getElem? (i := 48) rfl) rfl
theorem seX9_passes0 : Cond.selects RX9 (kY kX9_passes0) (kY kX9_passes0) ∈ gtbl := g_in0 (List.mem_of_getElem? (i := 49) rfl) rfl
theorem seX9_orderValue : Cond.selects RX9 (kY kX9_orderValue) (kY kX9_orderValue) ∈ gtbl := g_in0 (List.mem_of_getElem? (i := 50) rfl) rfl
theorem seX9_isVertex : Cond.selects RX9 (kY kX9_isVertex) (kY kX9_isVertex) ∈ gtbl := g_in0 (List.mem_of_getElem? (i := 51) rfl) rfl
theorem seX9_vertexMany : Cond.selects RX9 (kY kX9_vertexMany) (kY kX9_vertexMany) ∈ gtbl := g_in0 (List.mem_of_getElem? (i := 52) rfl) rfl
theorem seX9_degreeOf : Cond.selects RX9 (kY kX9_degreeOf) (kY kX9_degreeOf) ∈ gtbl := g_in0 (List.mem_of_getElem? (i := 53) rfl) rfl
theorem seX9_ownOf : Cond.selects RX9 (kY kX9_ownOf) (kY kX9_ownOf) ∈ gtbl := g_in0 (List.mem_of_getElem? (i := 54) rfl) rfl
theorem seX9_together : Cond.selects RX9 (kY kX9_together) (kY kX9_together) ∈ gtbl := g_in0 (List.mem_of_getElem? (i := 55) rfl) rfl
theorem seX9_signedBelow : Cond.selects RX9 (kY kX9_signedBelow) (kY kX9_signedBelow) ∈ gtbl := g_in0 (List.mem_of_getElem? (i := 56) rfl) rfl
theorem seX9_placeBy : Cond.selects RX9 (kY kX9_placeBy) (kY kX9_placeBy) ∈ gtbl := g_in0 (List.mem_of_getElem? (i := 57) rfl) rfl
theorem seX9_bounded : Cond.selects RX9 (kY kX9_bounded) (kY kX9_bounded) ∈ gtbl := g_in0 (List.mem_of_getElem? (i := 58) rfl) rfl
theorem seX9_testOf : Cond.selects RX9 (kY kX9_testOf) (kY kX9_testOf) ∈ gtbl := g_in0 (List.mem_of_getElem? (i := 59) rfl) rfl
theorem seX9_bothOf : Cond.selects RX9 (kY kX9_bothOf) (kY kX9_bothOf) ∈ gtbl := g_in0 (List.mem_of_getElem? (i := 60) rfl) rfl
theorem seX9_plainOf : Cond.selects RX9 (kY kX9_plainOf) (kY kX9_plainOf) ∈ gtbl := g_in0 (List.mem_of_getElem? (i := 61) rfl) rfl
theorem seX9_positiveOf : Cond.selects RX9 (kY kX9_positiveOf) (kY kX9_positiveOf) ∈ gtbl := g_in0 (List.mem_of_getElem? (i := 62) rfl) rfl
theorem seX9_ranksOf : Cond.selects RX9 (kY kX9_ranksOf) (kY kX9_ranksOf) ∈ gtbl := g_in0 (List.mem_of_getElem? (i := 63) rfl) rfl
theorem seX9_adds : Cond.selects RX9 (kY kX9_adds) (kY kX9_adds) ∈ gtbl := g_in0 (List.mem_of_getElem? (i := 64) rfl) rfl
theorem seX9_readsAs : Cond.selects RX9 (kY kX9_readsAs) (kY kX9_readsAs) ∈ gtbl := g_in0 (List.mem_of_getElem? (i := 65) rfl) rfl
theorem seX9_reads : Cond.selects RX9 (kY kX9_reads) (kY kX9_reads) ∈ gtbl := g_in0 (List.mem_of_getElem? (i := 66) rfl) rfl
theorem seX9_splits : Cond.selects RX9 (kY kX9_splits) (kY kX9_splits) ∈ gtbl := g_in0 (List.mem_of_getElem? (i := 67) rfl) rfl
theorem seX9_wordOf : Cond.selects RX9 (kY kX9_wordOf) (kY kX9_wordOf) ∈ gtbl := g_in0 (List.mem_of_getElem? (i := 68) rfl) rfl
theorem seX9_readOne : Cond.selects RX9 (kY kX9_readOne) (kY kX9_readOne) ∈ gtbl := g_in0 (List.mem_of_getElem? (i := 69) rfl) rfl
theorem seX9_readOrder : Cond.selects RX9 (kY kX9_readOrder) (kY kX9_readOrder) ∈ gtbl := g_in0 (List.mem_of_getElem? (i := 70) rfl) rfl
theorem seX9_takes0 : Cond.selects RX9 (kY kX9_takes0) (kY kX9_takes0) ∈ gtbl := g_in0 (List.mem_of_getElem? (i := 71) rfl) rfl
theorem seX9_fine : Cond.selects RX9 (kY kX9_fine) (kY kX9_fine) ∈ gtbl := g_in0 (List.mem_of_getElem? (i := 72) rfl) rfl
theorem seX9_readSum : Cond.selects RX9 (kY kX9_readSum) (kY kX9_readSum) ∈ gtbl := g_in0 (List.mem_of_getElem? (i := 73) rfl) rfl
theorem seX9_readTerm : Cond.selects RX9 (kY kX9_readTerm) (kY kX9_readTerm) ∈ gtbl := g_in0 (List.mem_of_getElem? (i := 74) rfl) rfl
theorem seX9_readPart : Cond.selects RX9 (kY kX9_readPart) (kY kX9_readPart) ∈ gtbl := g_in0 (List.mem_of_getElem? (i := 75) rfl) rfl
theorem seX9_faults : Cond.selects RX9 (kY kX9_faults) (kY kX9_faults) ∈ gtbl := g_in0 (List.mem_of_getElem? (i := 76) rfl) rfl
theorem seX9_must : Cond.selects RX9 (kY kX9_must) (kY kX9_must) ∈ gtbl := g_in0 (List.mem_of_getElem? (i := 77) rfl) rfl
theorem seX9_leaf : Cond.selects RX9 (kY kX9_leaf) (kY kX9_leaf) ∈ gtbl := g_in0 (List.mem_of_getElem? (i := 78) rfl) rfl
theorem seX9_mustNumber : Cond.selects RX9 (kY kX9_mustNumber) (kY kX9_mustNumber) ∈ gtbl := g_in0 (List.mem_of_getElem? (i := 79) rfl) rfl
theorem seX9_readTest : Cond.selects RX9 (kY kX9_readTest) (kY kX9_readTest) ∈ gtbl := g_in0 (List.mem_of_getElem? (i := 80) rfl) rfl
theorem seX9_readBoth : Cond.selects RX9 (kY kX9_readBoth) (kY kX9_readBoth) ∈ gtbl := g_in0 (List.mem_of_getElem? (i := 81) rfl) rfl
theorem seX9_readPlain : Cond.selects RX9 (kY kX9_readPlain) (kY kX9_readPlain) ∈ gtbl := g_in0 (List.mem_of_getElem? (i := 82) rfl) rfl
theorem seX9_readClause : Cond.selects RX9 (kY kX9_readClause) (kY kX9_readClause) ∈ gtbl := g_in0 (List.mem_of_getElem? (i := 83) rfl) rfl
theorem seX9_lays : Cond.selects RX9 (kY kX9_lays) (kY kX9_lays) ∈ gtbl := g_in0 (List.mem_of_getElem? (i := 84) rfl) rfl
theorem seX9_isLaw : Cond.selects RX9 (kY kX9_isLaw) (kY kX9_isLaw) ∈ gtbl := g_in0 (List.mem_of_getElem? (i := 85) rfl) rfl
theorem seX9_addsKept : Cond.selects RX9 (kY kX9_addsKept) (kY kX9_addsKept) ∈ gtbl := g_in0 (List.mem_of_getElem? (i := 86) rfl) rfl
theorem seX9_laysAside : Cond.selects RX9 (kY kX9_laysAside) (kY kX9_laysAside) ∈ gtbl := g_in0 (List.mem_of_getElem? (i := 87) rfl) rfl
theorem seX9_keptOr : Cond.selects RX9 (kY kX9_keptOr) (kY kX9_keptOr) ∈ gtbl := g_in0 (List.mem_of_getElem? (i := 88) rfl) rfl
theorem seX9_goodOr : Cond.selects RX9 (kY kX9_goodOr) (kY kX9_goodOr) ∈ gtbl := g_in0 (List.mem_of_getElem? (i := 89) rfl) rfl
theorem seX9_takesKept : Cond.selects RX9 (kY kX9_takesKept) (kY kX9_takesKept) ∈ gtbl := g_in0 (List.mem_of_getElem? (i := 90) rfl) rfl
theorem seX9_takesKey : Cond.selects RX9 (kY kX9_takesKey) (kY kX9_takesKey) ∈ gtbl := g_in0 (List.mem_of_getElem? (i := 91) rfl) rfl
theorem seX9_sideKept : Cond.selects RX9 (kY kX9_sideKept) (kY kX9_sideKept) ∈ gtbl := g_in0 (List.mem_of_getElem? (i := 92) rfl) rfl
theorem seX9_setsSide : Cond.selects RX9 (kY kX9_setsSide) (kY kX9_setsSide) ∈ gtbl := g_in0 (List.mem_of_getElem? (i := 93) rfl) rfl
theorem seX9_seedKept : Cond.selects RX9 (kY kX9_seedKept) (kY kX9_seedKept) ∈ gtbl := g_in0 (List.mem_of_getElem? (i := 94) rfl) rfl
theorem seX9_setsSeed : Cond.selects RX9 (kY kX9_setsSeed) (kY kX9_setsSeed) ∈ gtbl := g_in0 (List.mem_of_getElem? (i := 95) rfl) rfl
theorem seX9_buildsKept : Cond.selects RX9 (kY kX9_buildsKept) (kY kX9_buildsKept) ∈ gtbl := g_in0 (List.mem_of_getElem? (i := 96) rfl) rfl
theorem seX9_builds : Cond.selects RX9 (kY kX9_builds) (kY kX9_builds) ∈ gtbl := g_in0 (List.mem_of_getElem? (i := 97) rfl) rfl
theorem seX9_coreOf : Cond.selects RX9 (kY kX9_coreOf) (kY kX9_coreOf) ∈ gtbl := g_in0 (List.mem_of_getElem? (i := 98) rfl) rfl
theorem seX9_peels : Cond.selects RX9 (kY kX9_peels) (kY kX9_peels) ∈ gtbl := g_in0 (List.mem_of_getElem? (i := 99) rfl) rfl
theorem seX9_laysVertices : Cond.selects RX9 (kY kX9_laysVertices) (kY kX9_laysVertices) ∈ gtbl := g_in0 (List.mem_of_getElem? (i := 100) rfl) rfl
theorem seX9_nextFree : Cond.selects RX9 (kY kX9_nextFree) (kY kX9_nextFree) ∈ gtbl := g_in0 (List.mem_of_getElem? (i := 101) rfl) rfl
theorem seX9_laysRanks : Cond.selects RX9 (kY kX9_laysRanks) (kY kX9_laysRanks) ∈ gtbl := g_in0 (List.mem_of_getElem? (i := 102) rfl) rfl
theorem seX9_laysTable : Cond.selects RX9 (kY kX9_laysTable) (kY kX9_laysTable) ∈ gtbl := g_in0 (List.mem_of_getElem? (i := 103) rfl) rfl
theorem seX9_hasGood : Cond.selects RX9 (kY kX9_hasGood) (kY kX9_hasGood) ∈ gtbl := g_in0 (List.mem_of_getElem? (i := 104) rfl) rfl
theorem seX9_signOrByte : Cond.selects RX9 (kY kX9_signOrByte) (kY kX9_signOrByte) ∈ gtbl := g_in0 (List.mem_of_getElem? (i := 105) rfl) rfl
theorem seX9_packed : Cond.selects RX9 (kY kX9_packed) (kY kX9_packed) ∈ gtbl := g_in0 (List.mem_of_getElem? (i := 106) rfl) rfl
theorem seX9_wasThere : Cond.selects RX9 (kY kX9_wasThere) (kY kX9_wasThere) ∈ gtbl := g_in0 (List.mem_of_getElem? (i := 107) rfl) rfl
theorem seX9_isSo : Cond.selects RX9 (kY kX9_isSo) (kY kX9_isSo) ∈ gtbl := g_in0 (List.mem_of_getElem? (i := 108) rfl) rfl
theorem seX9_has : Cond.selects RX9 (kY kX9_has) (kY kX9_has) ∈ gtbl := g_in0 (List.mem_of_getElem? (i := 109) rfl) rfl
theorem seX9_runs : Cond.selects RX9 (kY kX9_runs) (kY kX9_runs) ∈ gtbl := g_in0 (List.mem_of_getElem? (i := 110) rfl) rfl
theorem seX9_goesAlong : Cond.selects RX9 (kY kX9_goesAlong) (kY kX9_goesAlong) ∈ gtbl := g_in0 (List.mem_of_getElem? (i := 111) rfl) rfl
theorem seX9_obeys : Cond.selects RX9 (kY kX9_obeys) (kY kX9_obeys) ∈ gtbl := g_in0 (List.mem_of_getElem? (i := 112) rfl) rfl
theorem seX9_takesBack : Cond.selects RX9 (kY kX9_takesBack) (kY kX9_takesBack) ∈ gtbl := g_in0 (List.mem_of_getElem? (i := 113) rfl) rfl
theorem seX9_drawnAct : Cond.selects RX9 (kY kX9_drawnAct) (kY kX9_drawnAct) ∈ gtbl := g_in0 (List.mem_of_getElem? (i := 114) rfl) rfl
theorem seX9_draws : Cond.selects RX9 (kY kX9_draws) (kY kX9_draws) ∈ gtbl := g_in0 (List.mem_of_getElem? (i := 115) rfl) rfl
theorem seX9_refusals : Cond.selects RX9 (kY kX9_refusals) (kY kX9_refusals) ∈ gtbl := g_in0 (List.mem_of_getElem? (i := 116) rfl) rfl
theorem q1_1 : (Jvm.Cond.initialized "PeeledHash") ∈ gtbl := g_in1 (List.mem_of_getElem? (i := 1) rfl) rfl
theorem q1_20 : (Jvm.Cond.methodLink "PeeledHashLaw" (9 : Nat) ({ cls := "PeeledHash", name := "<init>", desc := "()V" } : Jvm.MethodName)) ∈ gtbl := g_in1 (List.mem_of_getElem? (i := 20) rfl) rfl
theorem mbL_9 : g_MB RL 9 kX8_init 0 false := ⟨qcX8_init, q1_1, q1_20, by decide +kernel, by decide⟩
theorem q1_23 : (Jvm.Cond.methodLink "PeeledHash" (5 : Nat) ({ cls := "java/lang/Object", name := "<init>", desc := "()V" } : Jvm.MethodName)) ∈ gtbl := g_in1 (List.mem_of_getElem? (i := 23) rfl) rfl
theorem q1_2 : (Jvm.Cond.initialized "PeeledHash$Whole") ∈ gtbl := g_in1 (List.mem_of_getElem? (i := 2) rfl) rfl
theorem mbX8_13 : g_MB RX8 13 kX7_init 0 true := ⟨qcX7_init, q1_2, List.mem_of_getElem? (i := 0) rfl, by decide +kernel, by decide⟩
theorem q1_31 : (Jvm.Cond.methodLink "PeeledHash$Whole" (3 : Nat) ({ cls := "java/lang/Object", name := "<init>", desc := "()V" } : Jvm.MethodName)) ∈ gtbl := g_in1 (List.mem_of_getElem? (i := 31) rfl) rfl
theorem q1_3 : (Jvm.Cond.initialized "PeeledHash$State") ∈ gtbl := g_in1 (List.mem_of_getElem? (i := 3) rfl) rfl
theorem q1_34 : (Jvm.Cond.methodLink "PeeledHash$Whole" (11 : Nat) ({ cls := "PeeledHash$State", name := "<init>", desc := "()V" } : Jvm.MethodName)) ∈ gtbl := g_in1 (List.mem_of_getElem? (i := 34) rfl) rfl
theorem mbX7_11 : g_MB RX7 11 kX3_init 0 false := ⟨qcX3_init, q1_3, q1_34, by decide +kernel, by decide⟩
theorem q1_37 : (Jvm.Cond.methodLink "PeeledHash$State" (3 : Nat) ({ cls := "java/lang/Object", name := "<init>", desc := "()V" } : Jvm.MethodName)) ∈ gtbl := g_in1 (List.mem_of_getElem? (i := 37) rfl) rfl
theorem q1_4 : (Jvm.Cond.initialized "PeeledHash$Table") ∈ gtbl := g_in1 (List.mem_of_getElem? (i := 4) rfl) rfl
theorem mbX3_20 : g_MB RX3 20 kX5_init 0 true := ⟨qcX5_init, q1_4, List.mem_of_getElem? (i := 1) rfl, by decide +kernel, by decide⟩
theorem q1_43 : (Jvm.Cond.methodLink "PeeledHash$Table" (3 : Nat) ({ cls := "java/lang/Object", name := "<init>", desc := "()V" } : Jvm.MethodName)) ∈ gtbl := g_in1 (List.mem_of_getElem? (i := 43) rfl) rfl
theorem q1_5 : (Jvm.Cond.initialized "PeeledHash$History") ∈ gtbl := g_in1 (List.mem_of_getElem? (i := 5) rfl) rfl
theorem q1_144 : (Jvm.Cond.methodLink "PeeledHash" (24 : Nat) ({ cls := "PeeledHash$History", name := "<init>", desc := "()V" } : Jvm.MethodName)) ∈ gtbl := g_in1 (List.mem_of_getElem? (i := 144) rfl) rfl
theorem mbX8_24 : g_MB RX8 24 kX0_init 0 false := ⟨qcX0_init, q1_5, q1_144, by decide +kernel, by decide⟩
theorem q1_147 : (Jvm.Cond.methodLink "PeeledHash$History" (3 : Nat) ({ cls := "java/lang/Object", name := "<init>", desc := "()V" } : Jvm.MethodName)) ∈ gtbl := g_in1 (List.mem_of_getElem? (i := 147) rfl) rfl
theorem q1_150 : (Jvm.Cond.methodLink "PeeledHash$History" (21 : Nat) ({ cls := "PeeledHash$State", name := "<init>", desc := "()V" } : Jvm.MethodName)) ∈ gtbl := g_in1 (List.mem_of_getElem? (i := 150) rfl) rfl
theorem mbX0_21 : g_MB RX0 21 kX3_init 0 false := ⟨qcX3_init, q1_3, q1_150, by decide +kernel, by decide⟩
theorem q1_166 : (Jvm.Cond.methodLink "PeeledHash" (34 : Nat) ({ cls := "PeeledHash$State", name := "<init>", desc := "()V" } : Jvm.MethodName)) ∈ gtbl := g_in1 (List.mem_of_getElem? (i := 166) rfl) rfl
theorem mbX8_34 : g_MB RX8 34 kX3_init 0 false := ⟨qcX3_init, q1_3, q1_166, by decide +kernel, by decide⟩
theorem q1_6 : (Jvm.Cond.initialized "PeeledHash$Sums") ∈ gtbl := g_in1 (List.mem_of_getElem? (i := 6) rfl) rfl
theorem mbX8_44 : g_MB RX8 44 kX4_init 0 true := ⟨qcX4_init, q1_6, List.mem_of_getElem? (i := 2) rfl, by decide +kernel, by decide⟩
theorem q1_172 : (Jvm.Cond.methodLink "PeeledHash$Sums" (3 : Nat) ({ cls := "java/lang/Object", name := "<init>", desc := "()V" } : Jvm.MethodName)) ∈ gtbl := g_in1 (List.mem_of_getElem? (i := 172) rfl) rfl
theorem q1_7 : (Jvm.Cond.initialized "PeeledHash$Peeler") ∈ gtbl := g_in1 (List.mem_of_getElem? (i := 7) rfl) rfl
theorem q1_183 : (Jvm.Cond.methodLink "PeeledHash" (51 : Nat) ({ cls := "PeeledHash$Peeler", name := "<init>", desc := "(LPeeledHash$Sums;)V" } : Jvm.MethodName)) ∈ gtbl := g_in1 (List.mem_of_getElem? (i := 183) rfl) rfl
theorem mbX8_51 : g_MB RX8 51 kX1_init 1 false := ⟨qcX1_init, q1_7, q1_183, by decide +kernel, by decide⟩
theorem q1_186 : (Jvm.Cond.methodLink "PeeledHash$Peeler" (3 : Nat) ({ cls := "java/lang/Object", name := "<init>", desc := "()V" } : Jvm.MethodName)) ∈ gtbl := g_in1 (List.mem_of_getElem? (i := 186) rfl) rfl
theorem q1_8 : (Jvm.Cond.initialized "PeeledHash$Reader") ∈ gtbl := g_in1 (List.mem_of_getElem? (i := 8) rfl) rfl
theorem mbX8_60 : g_MB RX8 60 kX2_init 0 true := ⟨qcX2_init, q1_8, List.mem_of_getElem? (i := 3) rfl, by decide +kernel, by decide⟩
theorem q1_227 : (Jvm.Cond.methodLink "PeeledHash$Reader" (3 : Nat) ({ cls := "java/lang/Object", name := "<init>", desc := "()V" } : Jvm.MethodName)) ∈ gtbl := g_in1 (List.mem_of_getElem? (i := 227) rfl) rfl
theorem q1_9 : (Jvm.Cond.initialized "PeeledHash$Text") ∈ gtbl := g_in1 (List.mem_of_getElem? (i := 9) rfl) rfl
theorem q1_230 : (Jvm.Cond.methodLink "PeeledHash$Reader" (17 : Nat) ({ cls := "PeeledHash$Text", name := "<init>", desc := "(II)V" } : Jvm.MethodName)) ∈ gtbl := g_in1 (List.mem_of_getElem? (i := 230) rfl) rfl
theorem mbX2_17 : g_MB RX2 17 kX6_init 2 false := ⟨qcX6_init, q1_9, q1_230, by decide +kernel, by decide⟩
theorem q1_233 : (Jvm.Cond.methodLink "PeeledHash$Text" (3 : Nat) ({ cls := "java/lang/Object", name := "<init>", desc := "()V" } : Jvm.MethodName)) ∈ gtbl := g_in1 (List.mem_of_getElem? (i := 233) rfl) rfl
theorem q1_10 : (Jvm.Cond.initialized "java/lang/Math") ∈ gtbl := g_in1 (List.mem_of_getElem? (i := 10) rfl) rfl
theorem q1_234 : (Jvm.Cond.methodLink "PeeledHash$Text" (9 : Nat) ({ cls := "java/lang/Math", name := "max", desc := "(II)I" } : Jvm.MethodName)) ∈ gtbl := g_in1 (List.mem_of_getElem? (i := 234) rfl) rfl
theorem mbX6_9 : g_MB RX6 9 kJ9_max_7cf53 2 false := ⟨qcJ9_max_7cf53, q1_10, q1_234, by decide +kernel, by decide⟩
theorem q2_89 : (Jvm.Cond.methodLink "PeeledHash" (67 : Nat) ({ cls := "PeeledHash$Text", name := "<init>", desc := "(II)V" } : Jvm.MethodName)) ∈ gtbl := g_in2 (List.mem_of_getElem? (i := 89) rfl) rfl
theorem mbX8_67 : g_MB RX8 67 kX6_init 2 false := ⟨qcX6_init, q1_9, q2_89, by decide +kernel, by decide⟩
theorem q1_11 : (Jvm.Cond.initialized "java/util/Arrays") ∈ gtbl := g_in1 (List.mem_of_getElem? (i := 11) rfl) rfl
theorem q2_90 : (Jvm.Cond.methodLink "PeeledHash" (92 : Nat) ({ cls := "java/util/Arrays", name := "fill", desc := "([II)V" } : Jvm.MethodName)) ∈ gtbl := g_in2 (List.mem_of_getElem? (i := 90) rfl) rfl
theorem mbX8_92 : g_MB RX8 92 kJ7_fill_53178 2 false := ⟨qcJ7_fill_53178, q1_11, q2_90, by decide +kernel, by decide⟩
theorem q2_146 : (Jvm.Cond.methodLink "PeeledHashLaw" (13 : Nat) ({ cls := "PeeledHash", name := "key", desc := "(II)I" } : Jvm.MethodName)) ∈ gtbl := g_in2 (List.mem_of_getElem? (i := 146) rfl) rfl
theorem mbL_13 : g_MB RL 13 kX8_key 2 false := ⟨qcX8_key, q1_1, q2_146, by decide +kernel, by decide⟩
theorem q2_150 : (Jvm.Cond.methodLink "PeeledHash" (98 : Nat) ({ cls := "PeeledHash", name := "isKey", desc := "(I)Z" } : Jvm.MethodName)) ∈ gtbl := g_in2 (List.mem_of_getElem? (i := 150) rfl) rfl
theorem mbX8_98 : g_MB RX8 98 kX8_isKey 1 false := ⟨qcX8_isKey, q1_1, q2_150, by decide +kernel, by decide⟩
theorem q2_153 : (Jvm.Cond.methodLink "PeeledHash" (105 : Nat) ({ cls := "PeeledHash$State", name := "has", desc := "(I)Z" } : Jvm.MethodName)) ∈ gtbl := g_in2 (List.mem_of_getElem? (i := 153) rfl) rfl
theorem mbX8_105 : g_MB RX8 105 kX3_has 1 false := ⟨qcX3_has, q1_3, q2_153, by decide +kernel, by decide⟩
theorem q2_157 : (Jvm.Cond.methodLink "PeeledHash$State" (45 : Nat) ({ cls := "PeeledHash$State", name := "lowerThan", desc := "(I)I" } : Jvm.MethodName)) ∈ gtbl := g_in2 (List.mem_of_getElem? (i := 157) rfl) rfl
theorem mbX3_45 : g_MB RX3 45 kX3_lowerThan 1 false := ⟨qcX3_lowerThan, q1_3, q2_157, by decide +kernel, by decide⟩
theorem q2_161 : (Jvm.Cond.methodLink "PeeledHash" (108 : Nat) ({ cls := "PeeledHash", name := "lawInForce", desc := "()LPeeledHash$Text;" } : Jvm.MethodName)) ∈ gtbl := g_in2 (List.mem_of_getElem? (i := 161) rfl) rfl
theorem mbX8_108 : g_MB RX8 108 kX8_lawInForce 0 false := ⟨qcX8_lawInForce, q1_1, q2_161, by decide +kernel, by decide⟩
theorem q2_165 : (Jvm.Cond.methodLink "PeeledHash" (316 : Nat) ({ cls := "PeeledHash", name := "lawNumbered", desc := "(I)LPeeledHash$Text;" } : Jvm.MethodName)) ∈ gtbl := g_in2 (List.mem_of_getElem? (i := 165) rfl) rfl
theorem mbX8_316 : g_MB RX8 316 kX8_lawNumbered 1 false := ⟨qcX8_lawNumbered, q1_1, q2_165, by decide +kernel, by decide⟩
theorem q2_169 : (Jvm.Cond.methodLink "PeeledHash" (112 : Nat) ({ cls := "PeeledHash$Sums", name := "isBarred", desc := "(LPeeledHash$Text;LPeeledHash$State;I)Z" } : Jvm.MethodName)) ∈ gtbl := g_in2 (List.mem_of_getElem? (i := 169) rfl) rfl
theorem mbX8_112 : g_MB RX8 112 kX4_isBarred 3 false := ⟨qcX4_isBarred, q1_6, q2_169, by decide +kernel, by decide⟩
theorem q2_173 : (Jvm.Cond.methodLink "PeeledHash$Sums" (18 : Nat) ({ cls := "PeeledHash$Sums", name := "tellLaw", desc := "(LPeeledHash$State;I)V" } : Jvm.MethodName)) ∈ gtbl := g_in2 (List.mem_of_getElem? (i := 173) rfl) rfl
theorem mbX4_18 : g_MB RX4 18 kX4_tellLaw 2 false := ⟨qcX4_tellLaw, q1_6, q2_173, by decide +kernel, by decide⟩
theorem q2_177 : (Jvm.Cond.methodLink "PeeledHash$Sums" (39 : Nat) ({ cls := "PeeledHash$Sums", name := "valueOf", desc := "(LPeeledHash$Text;I)I" } : Jvm.MethodName)) ∈ gtbl := g_in2 (List.mem_of_getElem? (i := 177) rfl) rfl
theorem mbX4_39 : g_MB RX4 39 kX4_valueOf 2 false := ⟨qcX4_valueOf, q1_6, q2_177, by decide +kernel, by decide⟩
theorem q2_182 : (Jvm.Cond.methodLink "PeeledHash$Sums" (62 : Nat) ({ cls := "PeeledHash$Sums", name := "combined", desc := "(III)I" } : Jvm.MethodName)) ∈ gtbl := g_in2 (List.mem_of_getElem? (i := 182) rfl) rfl
theorem mbX4_62 : g_MB RX4 62 kX4_combined 3 false := ⟨qcX4_combined, q1_6, q2_182, by decide +kernel, by decide⟩
theorem q2_187 : (Jvm.Cond.methodLink "PeeledHash" (122 : Nat) ({ cls := "PeeledHash", name := "vertexOf", desc := "(IIII)I" } : Jvm.MethodName)) ∈ gtbl := g_in2 (List.mem_of_getElem? (i := 187) rfl) rfl
theorem mbX8_122 : g_MB RX8 122 kX8_vertexOf 4 false := ⟨qcX8_vertexOf, q1_1, q2_187, by decide +kernel, by decide⟩
theorem q2_190 : (Jvm.Cond.methodLink "PeeledHashLaw" (18 : Nat) ({ cls := "PeeledHash", name := "vertex", desc := "(II)I" } : Jvm.MethodName)) ∈ gtbl := g_in2 (List.mem_of_getElem? (i := 190) rfl) rfl
theorem mbL_18 : g_MB RL 18 kX8_vertex 2 false := ⟨qcX8_vertex, q1_1, q2_190, by decide +kernel, by decide⟩
theorem q2_194 : (Jvm.Cond.methodLink "PeeledHash" (126 : Nat) ({ cls := "PeeledHash$State", name := "hasVertex", desc := "(I)Z" } : Jvm.MethodName)) ∈ gtbl := g_in2 (List.mem_of_getElem? (i := 194) rfl) rfl
theorem mbX8_126 : g_MB RX8 126 kX3_hasVertex 1 false := ⟨qcX3_hasVertex, q1_3, q2_194, by decide +kernel, by decide⟩
theorem q2_198 : (Jvm.Cond.methodLink "PeeledHash" (129 : Nat) ({ cls := "PeeledHash$State", name := "degreeOf", desc := "(I)I" } : Jvm.MethodName)) ∈ gtbl := g_in2 (List.mem_of_getElem? (i := 198) rfl) rfl
theorem mbX8_129 : g_MB RX8 129 kX3_degreeOf 1 false := ⟨qcX3_degreeOf, q1_3, q2_198, by decide +kernel, by decide⟩
theorem q2_202 : (Jvm.Cond.methodLink "PeeledHash$State" (53 : Nat) ({ cls := "PeeledHash$State", name := "hasVertex", desc := "(I)Z" } : Jvm.MethodName)) ∈ gtbl := g_in2 (List.mem_of_getElem? (i := 202) rfl) rfl
theorem mbX3_53 : g_MB RX3 53 kX3_hasVertex 1 false := ⟨qcX3_hasVertex, q1_3, q2_202, by decide +kernel, by decide⟩
theorem q2_203 : (Jvm.Cond.methodLink "PeeledHash$State" (60 : Nat) ({ cls := "PeeledHash$State", name := "keyHas", desc := "(II)Z" } : Jvm.MethodName)) ∈ gtbl := g_in2 (List.mem_of_getElem? (i := 203) rfl) rfl
theorem mbX3_60 : g_MB RX3 60 kX3_keyHas 2 false := ⟨qcX3_keyHas, q1_3, q2_203, by decide +kernel, by decide⟩
theorem mbX3_56 : g_MB RX3 56 kX8_vertexOf 4 true := ⟨qcX8_vertexOf, q1_1, List.mem_of_getElem? (i := 4) rfl, by decide +kernel, by decide⟩
theorem q2_208 : (Jvm.Cond.methodLink "PeeledHash" (133 : Nat) ({ cls := "PeeledHash$Sums", name := "rankOf", desc := "(LPeeledHash$Text;LPeeledHash$State;III)I" } : Jvm.MethodName)) ∈ gtbl := g_in2 (List.mem_of_getElem? (i := 208) rfl) rfl
theorem mbX8_133 : g_MB RX8 133 kX4_rankOf 5 false := ⟨qcX4_rankOf, q1_6, q2_208, by decide +kernel, by decide⟩
theorem q2_212 : (Jvm.Cond.methodLink "PeeledHashLaw" (22 : Nat) ({ cls := "PeeledHash", name := "there", desc := "(I)I" } : Jvm.MethodName)) ∈ gtbl := g_in2 (List.mem_of_getElem? (i := 212) rfl) rfl
theorem mbL_22 : g_MB RL 22 kX8_there 1 false := ⟨qcX8_there, q1_1, q2_212, by decide +kernel, by decide⟩
theorem q2_216 : (Jvm.Cond.methodLink "PeeledHashLaw" (27 : Nat) ({ cls := "PeeledHash", name := "ceiling", desc := "(I)I" } : Jvm.MethodName)) ∈ gtbl := g_in2 (List.mem_of_getElem? (i := 216) rfl) rfl
theorem mbL_27 : g_MB RL 27 kX8_ceiling 1 false := ⟨qcX8_ceiling, q1_1, q2_216, by decide +kernel, by decide⟩
theorem q2_220 : (Jvm.Cond.methodLink "PeeledHash" (143 : Nat) ({ cls := "PeeledHash$State", name := "lowerThan", desc := "(I)I" } : Jvm.MethodName)) ∈ gtbl := g_in2 (List.mem_of_getElem? (i := 220) rfl) rfl
theorem mbX8_143 : g_MB RX8 143 kX3_lowerThan 1 false := ⟨qcX3_lowerThan, q1_3, q2_220, by decide +kernel, by decide⟩
theorem q2_221 : (Jvm.Cond.methodLink "PeeledHashLaw" (31 : Nat) ({ cls := "PeeledHash", name := "terms", desc := "(II)I" } : Jvm.MethodName)) ∈ gtbl := g_in2 (List.mem_of_getElem? (i := 221) rfl) rfl
theorem mbL_31 : g_MB RL 31 kX8_terms 2 false := ⟨qcX8_terms, q1_1, q2_221, by decide +kernel, by decide⟩
theorem q2_225 : (Jvm.Cond.methodLink "PeeledHash" (146 : Nat) ({ cls := "PeeledHash", name := "refuse", desc := "(I)I" } : Jvm.MethodName)) ∈ gtbl := g_in2 (List.mem_of_getElem? (i := 225) rfl) rfl
theorem mbX8_146 : g_MB RX8 146 kX8_refuse 1 false := ⟨qcX8_refuse, q1_1, q2_225, by decide +kernel, by decide⟩
theorem q2_229 : (Jvm.Cond.methodLink "PeeledHash" (152 : Nat) ({ cls := "PeeledHash$History", name := "clear", desc := "()V" } : Jvm.MethodName)) ∈ gtbl := g_in2 (List.mem_of_getElem? (i := 229) rfl) rfl
theorem mbX8_152 : g_MB RX8 152 kX0_clear 0 false := ⟨qcX0_clear, q1_5, q2_229, by decide +kernel, by decide⟩
theorem q2_233 : (Jvm.Cond.methodLink "PeeledHash" (155 : Nat) ({ cls := "PeeledHash", name := "accept", desc := "(I)I" } : Jvm.MethodName)) ∈ gtbl := g_in2 (List.mem_of_getElem? (i := 233) rfl) rfl
theorem mbX8_155 : g_MB RX8 155 kX8_accept 1 false := ⟨qcX8_accept, q1_1, q2_233, by decide +kernel, by decide⟩
theorem q2_237 : (Jvm.Cond.methodLink "PeeledHashLaw" (35 : Nat) ({ cls := "PeeledHash", name := "feed", desc := "(IIIII)I" } : Jvm.MethodName)) ∈ gtbl := g_in2 (List.mem_of_getElem? (i := 237) rfl) rfl
theorem mbL_35 : g_MB RL 35 kX8_feed 5 false := ⟨qcX8_feed, q1_1, q2_237, by decide +kernel, by decide⟩
theorem q3_1 : (Jvm.Cond.methodLink "PeeledHash" (161 : Nat) ({ cls := "PeeledHash$Reader", name := "append", desc := "(I)V" } : Jvm.MethodName)) ∈ gtbl := g_in3 (List.mem_of_getElem? (i := 1) rfl) rfl
theorem mbX8_161 : g_MB RX8 161 kX2_append 1 false := ⟨qcX2_append, q1_8, q3_1, by decide +kernel, by decide⟩
theorem q3_5 : (Jvm.Cond.methodLink "PeeledHashLaw" (40 : Nat) ({ cls := "PeeledHash", name := "end", desc := "(I)I" } : Jvm.MethodName)) ∈ gtbl := g_in3 (List.mem_of_getElem? (i := 5) rfl) rfl
theorem mbL_40 : g_MB RL 40 kX8_end 1 false := ⟨qcX8_end, q1_1, q3_5, by decide +kernel, by decide⟩
theorem q3_9 : (Jvm.Cond.methodLink "PeeledHashLaw" (44 : Nat) ({ cls := "PeeledHash", name := "row", desc := "()I" } : Jvm.MethodName)) ∈ gtbl := g_in3 (List.mem_of_getElem? (i := 9) rfl) rfl
theorem mbL_44 : g_MB RL 44 kX8_row 0 false := ⟨qcX8_row, q1_1, q3_9, by decide +kernel, by decide⟩
theorem q3_13 : (Jvm.Cond.methodLink "PeeledHash" (171 : Nat) ({ cls := "PeeledHash", name := "addTo", desc := "(LPeeledHash$State;I)I" } : Jvm.MethodName)) ∈ gtbl := g_in3 (List.mem_of_getElem? (i := 13) rfl) rfl
theorem mbX8_171 : g_MB RX8 171 kX8_addTo 2 false := ⟨qcX8_addTo, q1_1, q3_13, by decide +kernel, by decide⟩
theorem q3_17 : (Jvm.Cond.methodLink "PeeledHash" (359 : Nat) ({ cls := "PeeledHash$State", name := "insert", desc := "(I)V" } : Jvm.MethodName)) ∈ gtbl := g_in3 (List.mem_of_getElem? (i := 17) rfl) rfl
theorem mbX8_359 : g_MB RX8 359 kX3_insert 1 false := ⟨qcX3_insert, q1_3, q3_17, by decide +kernel, by decide⟩
theorem q3_21 : (Jvm.Cond.methodLink "PeeledHashLaw" (49 : Nat) ({ cls := "PeeledHash", name := "blanks", desc := "()I" } : Jvm.MethodName)) ∈ gtbl := g_in3 (List.mem_of_getElem? (i := 21) rfl) rfl
theorem mbL_49 : g_MB RL 49 kX8_blanks 0 false := ⟨qcX8_blanks, q1_1, q3_21, by decide +kernel, by decide⟩
theorem q3_25 : (Jvm.Cond.methodLink "PeeledHashLaw" (53 : Nat) ({ cls := "PeeledHash", name := "law", desc := "()I" } : Jvm.MethodName)) ∈ gtbl := g_in3 (List.mem_of_getElem? (i := 25) rfl) rfl
theorem mbL_53 : g_MB RL 53 kX8_law 0 false := ⟨qcX8_law, q1_1, q3_25, by decide +kernel, by decide⟩
theorem q3_29 : (Jvm.Cond.methodLink "PeeledHash" (178 : Nat) ({ cls := "PeeledHash$Reader", name := "read", desc := "(Z)Z" } : Jvm.MethodName)) ∈ gtbl := g_in3 (List.mem_of_getElem? (i := 29) rfl) rfl
theorem mbX8_178 : g_MB RX8 178 kX2_read 1 false := ⟨qcX2_read, q1_8, q3_29, by decide +kernel, by decide⟩
theorem q3_33 : (Jvm.Cond.methodLink "PeeledHash$Reader" (47 : Nat) ({ cls := "PeeledHash$Reader", name := "splitIntoTokens", desc := "()V" } : Jvm.MethodName)) ∈ gtbl := g_in3 (List.mem_of_getElem? (i := 33) rfl) rfl
theorem mbX2_47 : g_MB RX2 47 kX2_splitIntoTokens 0 false := ⟨qcX2_splitIntoTokens, q1_8, q3_33, by decide +kernel, by decide⟩
theorem q3_37 : (Jvm.Cond.methodLink "PeeledHash$Reader" (78 : Nat) ({ cls := "PeeledHash$Reader", name := "kindOf", desc := "(I)I" } : Jvm.MethodName)) ∈ gtbl := g_in3 (List.mem_of_getElem? (i := 37) rfl) rfl
theorem mbX2_78 : g_MB RX2 78 kX2_kindOf 1 false := ⟨qcX2_kindOf, q1_8, q3_37, by decide +kernel, by decide⟩
theorem q3_40 : (Jvm.Cond.methodLink "PeeledHash$Reader" (82 : Nat) ({ cls := "PeeledHash$Reader", name := "numberBetween", desc := "(II)I" } : Jvm.MethodName)) ∈ gtbl := g_in3 (List.mem_of_getElem? (i := 40) rfl) rfl
theorem mbX2_82 : g_MB RX2 82 kX2_numberBetween 2 false := ⟨qcX2_numberBetween, q1_8, q3_40, by decide +kernel, by decide⟩
theorem q3_44 : (Jvm.Cond.methodLink "PeeledHash$Reader" (100 : Nat) ({ cls := "java/lang/Math", name := "min", desc := "(II)I" } : Jvm.MethodName)) ∈ gtbl := g_in3 (List.mem_of_getElem? (i := 44) rfl) rfl
theorem mbX2_100 : g_MB RX2 100 kJ9_min_7cf53 2 false := ⟨qcJ9_min_7cf53, q1_10, q3_44, by decide +kernel, by decide⟩
theorem q3_47 : (Jvm.Cond.methodLink "PeeledHash$Reader" (86 : Nat) ({ cls := "PeeledHash$Reader", name := "wordBetween", desc := "(II)I" } : Jvm.MethodName)) ∈ gtbl := g_in3 (List.mem_of_getElem? (i := 47) rfl) rfl
theorem mbX2_86 : g_MB RX2 86 kX2_wordBetween 2 false := ⟨qcX2_wordBetween, q1_8, q3_47, by decide +kernel, by decide⟩
theorem q1_13 : (Jvm.Cond.initialized "java/lang/String") ∈ gtbl := g_in1 (List.mem_of_getElem? (i := 13) rfl) rfl
theorem q3_52 : (Jvm.Cond.methodLink "PeeledHash$Reader" (91 : Nat) ({ cls := "java/lang/String", name := "length", desc := "()I" } : Jvm.MethodName)) ∈ gtbl := g_in3 (List.mem_of_getElem? (i := 52) rfl) rfl
theorem mbX2_91 : g_MB RX2 91 kJ0_length_8abf5 0 false := ⟨qcJ0_length_8abf5, q1_13, q3_52, by decide +kernel, by decide⟩
theorem q3_56 : (Jvm.Cond.methodLink "java/lang/String" (335 : Nat) ({ cls := "java/lang/String", name := "coder", desc := "()B" } : Jvm.MethodName)) ∈ gtbl := g_in3 (List.mem_of_getElem? (i := 56) rfl) rfl
theorem mbJ0_335 : g_MB RJ0 335 kJ0_coder_7d493 0 false := ⟨qcJ0_coder_7d493, q1_13, q3_56, by decide +kernel, by decide⟩
theorem q3_62 : (Jvm.Cond.methodLink "PeeledHash$Reader" (96 : Nat) ({ cls := "java/lang/String", name := "charAt", desc := "(I)C" } : Jvm.MethodName)) ∈ gtbl := g_in3 (List.mem_of_getElem? (i := 62) rfl) rfl
theorem mbX2_96 : g_MB RX2 96 kJ0_charAt_5068e 1 false := ⟨qcJ0_charAt_5068e, q1_13, q3_62, by decide +kernel, by decide⟩
theorem q3_66 : (Jvm.Cond.methodLink "java/lang/String" (492 : Nat) ({ cls := "java/lang/String", name := "isLatin1", desc := "()Z" } : Jvm.MethodName)) ∈ gtbl := g_in3 (List.mem_of_getElem? (i := 66) rfl) rfl
theorem mbJ0_492 : g_MB RJ0 492 kJ0_isLatin1_aae02 0 false := ⟨qcJ0_isLatin1_aae02, q1_13, q3_66, by decide +kernel, by decide⟩
theorem q1_14 : (Jvm.Cond.initialized "java/lang/StringLatin1") ∈ gtbl := g_in1 (List.mem_of_getElem? (i := 14) rfl) rfl
theorem q3_70 : (Jvm.Cond.methodLink "java/lang/String" (495 : Nat) ({ cls := "java/lang/StringLatin1", name := "charAt", desc := "([BI)C" } : Jvm.MethodName)) ∈ gtbl := g_in3 (List.mem_of_getElem? (i := 70) rfl) rfl
theorem mbJ0_495 : g_MB RJ0 495 kJ1_charAt_3b067 2 false := ⟨qcJ1_charAt_3b067, q1_14, q3_70, by decide +kernel, by decide⟩
theorem q3_73 : (Jvm.Cond.methodLink "java/lang/StringLatin1" (9 : Nat) ({ cls := "java/lang/String", name := "checkIndex", desc := "(II)V" } : Jvm.MethodName)) ∈ gtbl := g_in3 (List.mem_of_getElem? (i := 73) rfl) rfl
theorem mbJ1_9 : g_MB RJ1 9 kJ0_checkIndex_df160 2 false := ⟨qcJ0_checkIndex_df160, q1_13, q3_73, by decide +kernel, by decide⟩
theorem q1_15 : (Jvm.Cond.initialized "jdk/internal/util/Preconditions") ∈ gtbl := g_in1 (List.mem_of_getElem? (i := 15) rfl) rfl
theorem q3_78 : (Jvm.Cond.methodLink "java/lang/String" (1059 : Nat) ({ cls := "jdk/internal/util/Preconditions", name := "checkIndex", desc := "(IILjava/util/function/BiFunction;)I" } : Jvm.MethodName)) ∈ gtbl := g_in3 (List.mem_of_getElem? (i := 78) rfl) rfl
theorem mbJ0_1059 : g_MB RJ0 1059 kJ3_checkIndex_8e157 3 false := ⟨qcJ3_checkIndex_8e157, q1_15, q3_78, by decide +kernel, by decide⟩
theorem q1_16 : (Jvm.Cond.initialized "java/lang/StringUTF16") ∈ gtbl := g_in1 (List.mem_of_getElem? (i := 16) rfl) rfl
theorem q3_81 : (Jvm.Cond.methodLink "java/lang/String" (498 : Nat) ({ cls := "java/lang/StringUTF16", name := "charAt", desc := "([BI)C" } : Jvm.MethodName)) ∈ gtbl := g_in3 (List.mem_of_getElem? (i := 81) rfl) rfl
theorem mbJ0_498 : g_MB RJ0 498 kJ2_charAt_3b067 2 false := ⟨qcJ2_charAt_3b067, q1_16, q3_81, by decide +kernel, by decide⟩
theorem q3_84 : (Jvm.Cond.methodLink "java/lang/StringUTF16" (67 : Nat) ({ cls := "java/lang/StringUTF16", name := "checkIndex", desc := "(I[B)V" } : Jvm.MethodName)) ∈ gtbl := g_in3 (List.mem_of_getElem? (i := 84) rfl) rfl
theorem mbJ2_67 : g_MB RJ2 67 kJ2_checkIndex_2214a 2 false := ⟨qcJ2_checkIndex_2214a, q1_16, q3_84, by decide +kernel, by decide⟩
theorem q3_87 : (Jvm.Cond.methodLink "java/lang/StringUTF16" (48 : Nat) ({ cls := "java/lang/StringUTF16", name := "length", desc := "([B)I" } : Jvm.MethodName)) ∈ gtbl := g_in3 (List.mem_of_getElem? (i := 87) rfl) rfl
theorem mbJ2_48 : g_MB RJ2 48 kJ2_length_9d52b 1 false := ⟨qcJ2_length_9d52b, q1_16, q3_87, by decide +kernel, by decide⟩
theorem q3_90 : (Jvm.Cond.methodLink "java/lang/StringUTF16" (414 : Nat) ({ cls := "java/lang/String", name := "checkIndex", desc := "(II)V" } : Jvm.MethodName)) ∈ gtbl := g_in3 (List.mem_of_getElem? (i := 90) rfl) rfl
theorem mbJ2_414 : g_MB RJ2 414 kJ0_checkIndex_df160 2 false := ⟨qcJ0_checkIndex_df160, q1_13, q3_90, by decide +kernel, by decide⟩
theorem q3_91 : (Jvm.Cond.methodLink "java/lang/StringUTF16" (71 : Nat) ({ cls := "java/lang/StringUTF16", name := "getChar", desc := "([BI)C" } : Jvm.MethodName)) ∈ gtbl := g_in3 (List.mem_of_getElem? (i := 91) rfl) rfl
theorem mbJ2_71 : g_MB RJ2 71 kJ2_getChar_3b067 2 false := ⟨qcJ2_getChar_3b067, q1_16, q3_91, by decide +kernel, by decide⟩
theorem q3_100 : (Jvm.Cond.methodLink "PeeledHash$Reader" (63 : Nat) ({ cls := "PeeledHash$Text", name := "clear", desc := "()V" } : Jvm.MethodName)) ∈ gtbl := g_in3 (List.mem_of_getElem? (i := 100) rfl) rfl
theorem mbX2_63 : g_MB RX2 63 kX6_clear 0 false := ⟨qcX6_clear, q1_9, q3_100, by decide +kernel, by decide⟩
theorem q3_104 : (Jvm.Cond.methodLink "PeeledHash$Reader" (66 : Nat) ({ cls := "PeeledHash$Reader", name := "readClause", desc := "(I)Z" } : Jvm.MethodName)) ∈ gtbl := g_in3 (List.mem_of_getElem? (i := 104) rfl) rfl
theorem mbX2_66 : g_MB RX2 66 kX2_readClause 1 false := ⟨qcX2_readClause, q1_8, q3_104, by decide +kernel, by decide⟩
theorem q3_108 : (Jvm.Cond.methodLink "PeeledHash$Reader" (105 : Nat) ({ cls := "PeeledHash$Reader", name := "orderKind", desc := "()I" } : Jvm.MethodName)) ∈ gtbl := g_in3 (List.mem_of_getElem? (i := 108) rfl) rfl
theorem mbX2_105 : g_MB RX2 105 kX2_orderKind 0 false := ⟨qcX2_orderKind, q1_8, q3_108, by decide +kernel, by decide⟩
theorem q3_112 : (Jvm.Cond.methodLink "PeeledHash$Reader" (108 : Nat) ({ cls := "PeeledHash$Reader", name := "lawKind", desc := "()I" } : Jvm.MethodName)) ∈ gtbl := g_in3 (List.mem_of_getElem? (i := 112) rfl) rfl
theorem mbX2_108 : g_MB RX2 108 kX2_lawKind 0 false := ⟨qcX2_lawKind, q1_8, q3_112, by decide +kernel, by decide⟩
theorem q3_116 : (Jvm.Cond.methodLink "PeeledHash$Reader" (74 : Nat) ({ cls := "PeeledHash$Reader", name := "fail", desc := "()Z" } : Jvm.MethodName)) ∈ gtbl := g_in3 (List.mem_of_getElem? (i := 116) rfl) rfl
theorem mbX2_74 : g_MB RX2 74 kX2_fail 0 false := ⟨qcX2_fail, q1_8, q3_116, by decide +kernel, by decide⟩
theorem q3_120 : (Jvm.Cond.methodLink "PeeledHash$Reader" (111 : Nat) ({ cls := "PeeledHash$Reader", name := "pass", desc := "()V" } : Jvm.MethodName)) ∈ gtbl := g_in3 (List.mem_of_getElem? (i := 120) rfl) rfl
theorem mbX2_111 : g_MB RX2 111 kX2_pass 0 false := ⟨qcX2_pass, q1_8, q3_120, by decide +kernel, by decide⟩
theorem q3_124 : (Jvm.Cond.methodLink "PeeledHash$Reader" (124 : Nat) ({ cls := "PeeledHash$Text", name := "put", desc := "(II)I" } : Jvm.MethodName)) ∈ gtbl := g_in3 (List.mem_of_getElem? (i := 124) rfl) rfl
theorem mbX2_124 : g_MB RX2 124 kX6_put 2 false := ⟨qcX6_put, q1_9, q3_124, by decide +kernel, by decide⟩
theorem q3_128 : (Jvm.Cond.methodLink "PeeledHash$Reader" (127 : Nat) ({ cls := "PeeledHash$Reader", name := "readSum", desc := "(I)Z" } : Jvm.MethodName)) ∈ gtbl := g_in3 (List.mem_of_getElem? (i := 128) rfl) rfl
theorem mbX2_127 : g_MB RX2 127 kX2_readSum 1 false := ⟨qcX2_readSum, q1_8, q3_128, by decide +kernel, by decide⟩
theorem q3_132 : (Jvm.Cond.methodLink "PeeledHash$Reader" (155 : Nat) ({ cls := "PeeledHash$Reader", name := "readTerm", desc := "(I)Z" } : Jvm.MethodName)) ∈ gtbl := g_in3 (List.mem_of_getElem? (i := 132) rfl) rfl
theorem mbX2_155 : g_MB RX2 155 kX2_readTerm 1 false := ⟨qcX2_readTerm, q1_8, q3_132, by decide +kernel, by decide⟩
theorem q3_136 : (Jvm.Cond.methodLink "PeeledHash$Reader" (158 : Nat) ({ cls := "PeeledHash$Reader", name := "readPiece", desc := "(I)Z" } : Jvm.MethodName)) ∈ gtbl := g_in3 (List.mem_of_getElem? (i := 136) rfl) rfl
theorem mbX2_158 : g_MB RX2 158 kX2_readPiece 1 false := ⟨qcX2_readPiece, q1_8, q3_136, by decide +kernel, by decide⟩
theorem q3_140 : (Jvm.Cond.methodLink "PeeledHash$Reader" (152 : Nat) ({ cls := "PeeledHash$Reader", name := "isMark", desc := "(C)Z" } : Jvm.MethodName)) ∈ gtbl := g_in3 (List.mem_of_getElem? (i := 140) rfl) rfl
theorem mbX2_152 : g_MB RX2 152 kX2_isMark 1 false := ⟨qcX2_isMark, q1_8, q3_140, by decide +kernel, by decide⟩
theorem q3_144 : (Jvm.Cond.methodLink "PeeledHash$Reader" (70 : Nat) ({ cls := "PeeledHash$Reader", name := "passMark", desc := "(C)Z" } : Jvm.MethodName)) ∈ gtbl := g_in3 (List.mem_of_getElem? (i := 144) rfl) rfl
theorem mbX2_70 : g_MB RX2 70 kX2_passMark 1 false := ⟨qcX2_passMark, q1_8, q3_144, by decide +kernel, by decide⟩
theorem q3_148 : (Jvm.Cond.methodLink "PeeledHash$Reader" (161 : Nat) ({ cls := "PeeledHash$Reader", name := "readLookup", desc := "(Z)Z" } : Jvm.MethodName)) ∈ gtbl := g_in3 (List.mem_of_getElem? (i := 148) rfl) rfl
theorem mbX2_161 : g_MB RX2 161 kX2_readLookup 1 false := ⟨qcX2_readLookup, q1_8, q3_148, by decide +kernel, by decide⟩
theorem q3_152 : (Jvm.Cond.methodLink "PeeledHash$Reader" (130 : Nat) ({ cls := "PeeledHash$Reader", name := "readTimes", desc := "(I)Z" } : Jvm.MethodName)) ∈ gtbl := g_in3 (List.mem_of_getElem? (i := 152) rfl) rfl
theorem mbX2_130 : g_MB RX2 130 kX2_readTimes 1 false := ⟨qcX2_readTimes, q1_8, q3_152, by decide +kernel, by decide⟩
theorem q3_156 : (Jvm.Cond.methodLink "PeeledHash$Reader" (136 : Nat) ({ cls := "PeeledHash$Reader", name := "readTest", desc := "(I)Z" } : Jvm.MethodName)) ∈ gtbl := g_in3 (List.mem_of_getElem? (i := 156) rfl) rfl
theorem mbX2_136 : g_MB RX2 136 kX2_readTest 1 false := ⟨qcX2_readTest, q1_8, q3_156, by decide +kernel, by decide⟩
theorem q3_160 : (Jvm.Cond.methodLink "PeeledHash$Reader" (142 : Nat) ({ cls := "PeeledHash$Reader", name := "readBoth", desc := "(I)Z" } : Jvm.MethodName)) ∈ gtbl := g_in3 (List.mem_of_getElem? (i := 160) rfl) rfl
theorem mbX2_142 : g_MB RX2 142 kX2_readBoth 1 false := ⟨qcX2_readBoth, q1_8, q3_160, by decide +kernel, by decide⟩
theorem q3_164 : (Jvm.Cond.methodLink "PeeledHash$Reader" (149 : Nat) ({ cls := "PeeledHash$Reader", name := "readPlain", desc := "(I)Z" } : Jvm.MethodName)) ∈ gtbl := g_in3 (List.mem_of_getElem? (i := 164) rfl) rfl
theorem mbX2_149 : g_MB RX2 149 kX2_readPlain 1 false := ⟨qcX2_readPlain, q1_8, q3_164, by decide +kernel, by decide⟩
theorem q3_168 : (Jvm.Cond.methodLink "PeeledHash$Reader" (145 : Nat) ({ cls := "PeeledHash$Text", name := "jumpToHere", desc := "(I)V" } : Jvm.MethodName)) ∈ gtbl := g_in3 (List.mem_of_getElem? (i := 168) rfl) rfl
theorem mbX2_145 : g_MB RX2 145 kX6_jumpToHere 1 false := ⟨qcX6_jumpToHere, q1_9, q3_168, by decide +kernel, by decide⟩
theorem q3_172 : (Jvm.Cond.methodLink "PeeledHash" (189 : Nat) ({ cls := "PeeledHash$Text", name := "trimmed", desc := "()LPeeledHash$Text;" } : Jvm.MethodName)) ∈ gtbl := g_in3 (List.mem_of_getElem? (i := 172) rfl) rfl
theorem mbX8_189 : g_MB RX8 189 kX6_trimmed 0 false := ⟨qcX6_trimmed, q1_9, q3_172, by decide +kernel, by decide⟩
theorem q3_177 : (Jvm.Cond.methodLink "PeeledHash$Text" (43 : Nat) ({ cls := "PeeledHash$Text", name := "<init>", desc := "(II)V" } : Jvm.MethodName)) ∈ gtbl := g_in3 (List.mem_of_getElem? (i := 177) rfl) rfl
theorem mbX6_43 : g_MB RX6 43 kX6_init 2 false := ⟨qcX6_init, q1_9, q3_177, by decide +kernel, by decide⟩
theorem q3_178 : (Jvm.Cond.methodLink "PeeledHash$Text" (46 : Nat) ({ cls := "java/lang/System", name := "arraycopy", desc := "(Ljava/lang/Object;ILjava/lang/Object;II)V" } : Jvm.MethodName)) ∈ gtbl := g_in3 (List.mem_of_getElem? (i := 178) rfl) rfl
theorem q3_182 : (Jvm.Cond.methodLink "PeeledHashLaw" (57 : Nat) ({ cls := "PeeledHash", name := "orders", desc := "()I" } : Jvm.MethodName)) ∈ gtbl := g_in3 (List.mem_of_getElem? (i := 182) rfl) rfl
theorem mbL_57 : g_MB RL 57 kX8_orders 0 false := ⟨qcX8_orders, q1_1, q3_182, by decide +kernel, by decide⟩
theorem q3_186 : (Jvm.Cond.methodLink "PeeledHash" (192 : Nat) ({ cls := "PeeledHash$State", name := "copyFrom", desc := "(LPeeledHash$State;)V" } : Jvm.MethodName)) ∈ gtbl := g_in3 (List.mem_of_getElem? (i := 186) rfl) rfl
theorem mbX8_192 : g_MB RX8 192 kX3_copyFrom 1 false := ⟨qcX3_copyFrom, q1_3, q3_186, by decide +kernel, by decide⟩
theorem q3_190 : (Jvm.Cond.methodLink "PeeledHash$State" (29 : Nat) ({ cls := "java/lang/System", name := "arraycopy", desc := "(Ljava/lang/Object;ILjava/lang/Object;II)V" } : Jvm.MethodName)) ∈ gtbl := g_in3 (List.mem_of_getElem? (i := 190) rfl) rfl
theorem q3_191 : (Jvm.Cond.methodLink "PeeledHash$State" (35 : Nat) ({ cls := "PeeledHash$Table", name := "copyFrom", desc := "(LPeeledHash$Table;)V" } : Jvm.MethodName)) ∈ gtbl := g_in3 (List.mem_of_getElem? (i := 191) rfl) rfl
theorem mbX3_35 : g_MB RX3 35 kX5_copyFrom 1 false := ⟨qcX5_copyFrom, q1_4, q3_191, by decide +kernel, by decide⟩
theorem q3_195 : (Jvm.Cond.methodLink "PeeledHash$Table" (29 : Nat) ({ cls := "java/lang/System", name := "arraycopy", desc := "(Ljava/lang/Object;ILjava/lang/Object;II)V" } : Jvm.MethodName)) ∈ gtbl := g_in3 (List.mem_of_getElem? (i := 195) rfl) rfl
theorem q3_196 : (Jvm.Cond.methodLink "PeeledHash" (200 : Nat) ({ cls := "PeeledHash", name := "runOnce", desc := "(LPeeledHash$Text;III)I" } : Jvm.MethodName)) ∈ gtbl := g_in3 (List.mem_of_getElem? (i := 196) rfl) rfl
theorem mbX8_200 : g_MB RX8 200 kX8_runOnce 4 false := ⟨qcX8_runOnce, q1_1, q3_196, by decide +kernel, by decide⟩
theorem q3_200 : (Jvm.Cond.methodLink "PeeledHash" (372 : Nat) ({ cls := "PeeledHash", name := "tellOrders", desc := "(II)V" } : Jvm.MethodName)) ∈ gtbl := g_in3 (List.mem_of_getElem? (i := 200) rfl) rfl
theorem mbX8_372 : g_MB RX8 372 kX8_tellOrders 2 false := ⟨qcX8_tellOrders, q1_1, q3_200, by decide +kernel, by decide⟩
theorem q3_204 : (Jvm.Cond.methodLink "PeeledHash" (263 : Nat) ({ cls := "PeeledHash$Table", name := "numberOf", desc := "(I)I" } : Jvm.MethodName)) ∈ gtbl := g_in3 (List.mem_of_getElem? (i := 204) rfl) rfl
theorem mbX8_263 : g_MB RX8 263 kX5_numberOf 1 false := ⟨qcX5_numberOf, q1_4, q3_204, by decide +kernel, by decide⟩
theorem q3_208 : (Jvm.Cond.methodLink "PeeledHash$Table" (81 : Nat) ({ cls := "PeeledHash$Table", name := "ownVertex", desc := "(I)I" } : Jvm.MethodName)) ∈ gtbl := g_in3 (List.mem_of_getElem? (i := 208) rfl) rfl
theorem mbX5_81 : g_MB RX5 81 kX5_ownVertex 1 false := ⟨qcX5_ownVertex, q1_4, q3_208, by decide +kernel, by decide⟩
theorem mbX5_77 : g_MB RX5 77 kX8_vertexOf 4 true := ⟨qcX8_vertexOf, q1_1, List.mem_of_getElem? (i := 5) rfl, by decide +kernel, by decide⟩
theorem q3_213 : (Jvm.Cond.methodLink "PeeledHash$Table" (85 : Nat) ({ cls := "PeeledHash$Table", name := "signsBelow", desc := "(I)I" } : Jvm.MethodName)) ∈ gtbl := g_in3 (List.mem_of_getElem? (i := 213) rfl) rfl
theorem mbX5_85 : g_MB RX5 85 kX5_signsBelow 1 false := ⟨qcX5_signsBelow, q1_4, q3_213, by decide +kernel, by decide⟩
theorem q3_217 : (Jvm.Cond.methodLink "PeeledHash" (378 : Nat) ({ cls := "PeeledHash$Sums", name := "valueOf", desc := "(LPeeledHash$Text;I)I" } : Jvm.MethodName)) ∈ gtbl := g_in3 (List.mem_of_getElem? (i := 217) rfl) rfl
theorem mbX8_378 : g_MB RX8 378 kX4_valueOf 2 false := ⟨qcX4_valueOf, q1_6, q3_217, by decide +kernel, by decide⟩
theorem q3_219 : (Jvm.Cond.methodLink "PeeledHash" (341 : Nat) ({ cls := "PeeledHash$History", name := "draft", desc := "(LPeeledHash$State;)V" } : Jvm.MethodName)) ∈ gtbl := g_in3 (List.mem_of_getElem? (i := 219) rfl) rfl
theorem mbX8_341 : g_MB RX8 341 kX0_draft 1 false := ⟨qcX0_draft, q1_5, q3_219, by decide +kernel, by decide⟩
theorem q3_223 : (Jvm.Cond.methodLink "PeeledHash$History" (26 : Nat) ({ cls := "PeeledHash$History", name := "slot", desc := "(I)I" } : Jvm.MethodName)) ∈ gtbl := g_in3 (List.mem_of_getElem? (i := 223) rfl) rfl
theorem mbX0_26 : g_MB RX0 26 kX0_slot 1 false := ⟨qcX0_slot, q1_5, q3_223, by decide +kernel, by decide⟩
theorem q3_227 : (Jvm.Cond.methodLink "PeeledHash$History" (30 : Nat) ({ cls := "PeeledHash$State", name := "copyFrom", desc := "(LPeeledHash$State;)V" } : Jvm.MethodName)) ∈ gtbl := g_in3 (List.mem_of_getElem? (i := 227) rfl) rfl
theorem mbX0_30 : g_MB RX0 30 kX3_copyFrom 1 false := ⟨qcX3_copyFrom, q1_3, q3_227, by decide +kernel, by decide⟩
theorem q3_228 : (Jvm.Cond.methodLink "PeeledHash" (324 : Nat) ({ cls := "PeeledHash", name := "carryOut", desc := "(LPeeledHash$State;II)I" } : Jvm.MethodName)) ∈ gtbl := g_in3 (List.mem_of_getElem? (i := 228) rfl) rfl
theorem mbX8_324 : g_MB RX8 324 kX8_carryOut 3 false := ⟨qcX8_carryOut, q1_1, q3_228, by decide +kernel, by decide⟩
theorem q3_232 : (Jvm.Cond.methodLink "PeeledHash" (347 : Nat) ({ cls := "PeeledHash", name := "takeFrom", desc := "(LPeeledHash$State;I)I" } : Jvm.MethodName)) ∈ gtbl := g_in3 (List.mem_of_getElem? (i := 232) rfl) rfl
theorem mbX8_347 : g_MB RX8 347 kX8_takeFrom 2 false := ⟨qcX8_takeFrom, q1_1, q3_232, by decide +kernel, by decide⟩
theorem q3_235 : (Jvm.Cond.methodLink "PeeledHash" (362 : Nat) ({ cls := "PeeledHash$State", name := "remove", desc := "(I)V" } : Jvm.MethodName)) ∈ gtbl := g_in3 (List.mem_of_getElem? (i := 235) rfl) rfl
theorem mbX8_362 : g_MB RX8 362 kX3_remove 1 false := ⟨qcX3_remove, q1_3, q3_235, by decide +kernel, by decide⟩
theorem q3_239 : (Jvm.Cond.methodLink "PeeledHash$State" (49 : Nat) ({ cls := "PeeledHash$State", name := "has", desc := "(I)Z" } : Jvm.MethodName)) ∈ gtbl := g_in3 (List.mem_of_getElem? (i := 239) rfl) rfl
theorem mbX3_49 : g_MB RX3 49 kX3_has 1 false := ⟨qcX3_has, q1_3, q3_239, by decide +kernel, by decide⟩
theorem q4_0 : (Jvm.Cond.methodLink "PeeledHash" (350 : Nat) ({ cls := "PeeledHash", name := "setSide", desc := "(LPeeledHash$State;I)I" } : Jvm.MethodName)) ∈ gtbl := g_in4 (List.mem_of_getElem? (i := 0) rfl) rfl
theorem mbX8_350 : g_MB RX8 350 kX8_setSide 2 false := ⟨qcX8_setSide, q1_1, q4_0, by decide +kernel, by decide⟩
theorem q4_3 : (Jvm.Cond.methodLink "PeeledHash" (353 : Nat) ({ cls := "PeeledHash", name := "setSeed", desc := "(LPeeledHash$State;I)I" } : Jvm.MethodName)) ∈ gtbl := g_in4 (List.mem_of_getElem? (i := 3) rfl) rfl
theorem mbX8_353 : g_MB RX8 353 kX8_setSeed 2 false := ⟨qcX8_setSeed, q1_1, q4_3, by decide +kernel, by decide⟩
theorem q4_6 : (Jvm.Cond.methodLink "PeeledHash" (226 : Nat) ({ cls := "PeeledHash", name := "isSeed", desc := "(I)Z" } : Jvm.MethodName)) ∈ gtbl := g_in4 (List.mem_of_getElem? (i := 6) rfl) rfl
theorem mbX8_226 : g_MB RX8 226 kX8_isSeed 1 false := ⟨qcX8_isSeed, q1_1, q4_6, by decide +kernel, by decide⟩
theorem q4_9 : (Jvm.Cond.methodLink "PeeledHash" (356 : Nat) ({ cls := "PeeledHash", name := "buildOn", desc := "(LPeeledHash$State;)I" } : Jvm.MethodName)) ∈ gtbl := g_in4 (List.mem_of_getElem? (i := 9) rfl) rfl
theorem mbX8_356 : g_MB RX8 356 kX8_buildOn 1 false := ⟨qcX8_buildOn, q1_1, q4_9, by decide +kernel, by decide⟩
theorem q4_13 : (Jvm.Cond.methodLink "PeeledHash" (246 : Nat) ({ cls := "PeeledHash$Peeler", name := "leavesNone", desc := "(LPeeledHash$State;II)Z" } : Jvm.MethodName)) ∈ gtbl := g_in4 (List.mem_of_getElem? (i := 13) rfl) rfl
theorem mbX8_246 : g_MB RX8 246 kX1_leavesNone 3 false := ⟨qcX1_leavesNone, q1_7, q4_13, by decide +kernel, by decide⟩
theorem q4_17 : (Jvm.Cond.methodLink "PeeledHash$Peeler" (43 : Nat) ({ cls := "PeeledHash$Peeler", name := "coreSize", desc := "(LPeeledHash$State;II)I" } : Jvm.MethodName)) ∈ gtbl := g_in4 (List.mem_of_getElem? (i := 17) rfl) rfl
theorem mbX1_43 : g_MB RX1 43 kX1_coreSize 3 false := ⟨qcX1_coreSize, q1_7, q4_17, by decide +kernel, by decide⟩
theorem q4_21 : (Jvm.Cond.methodLink "PeeledHash$Peeler" (47 : Nat) ({ cls := "PeeledHash$Peeler", name := "lay", desc := "(LPeeledHash$State;II)V" } : Jvm.MethodName)) ∈ gtbl := g_in4 (List.mem_of_getElem? (i := 21) rfl) rfl
theorem mbX1_47 : g_MB RX1 47 kX1_lay 3 false := ⟨qcX1_lay, q1_7, q4_21, by decide +kernel, by decide⟩
theorem q4_25 : (Jvm.Cond.methodLink "PeeledHash$Peeler" (71 : Nat) ({ cls := "java/util/Arrays", name := "fill", desc := "([II)V" } : Jvm.MethodName)) ∈ gtbl := g_in4 (List.mem_of_getElem? (i := 25) rfl) rfl
theorem mbX1_71 : g_MB RX1 71 kJ7_fill_53178 2 false := ⟨qcJ7_fill_53178, q1_11, q4_25, by decide +kernel, by decide⟩
theorem mbX1_80 : g_MB RX1 80 kX8_vertexOf 4 true := ⟨qcX8_vertexOf, q1_1, List.mem_of_getElem? (i := 6) rfl, by decide +kernel, by decide⟩
theorem q4_27 : (Jvm.Cond.methodLink "PeeledHash$Peeler" (51 : Nat) ({ cls := "PeeledHash$Peeler", name := "letGo", desc := "(II)I" } : Jvm.MethodName)) ∈ gtbl := g_in4 (List.mem_of_getElem? (i := 27) rfl) rfl
theorem mbX1_51 : g_MB RX1 51 kX1_letGo 2 false := ⟨qcX1_letGo, q1_7, q4_27, by decide +kernel, by decide⟩
theorem q4_31 : (Jvm.Cond.methodLink "PeeledHash" (233 : Nat) ({ cls := "PeeledHash$Peeler", name := "peel", desc := "(LPeeledHash$State;ILPeeledHash$Text;)V" } : Jvm.MethodName)) ∈ gtbl := g_in4 (List.mem_of_getElem? (i := 31) rfl) rfl
theorem mbX8_233 : g_MB RX8 233 kX1_peel 3 false := ⟨qcX1_peel, q1_7, q4_31, by decide +kernel, by decide⟩
theorem q4_35 : (Jvm.Cond.methodLink "PeeledHash$Peeler" (58 : Nat) ({ cls := "PeeledHash$Sums", name := "rankOf", desc := "(LPeeledHash$Text;LPeeledHash$State;III)I" } : Jvm.MethodName)) ∈ gtbl := g_in4 (List.mem_of_getElem? (i := 35) rfl) rfl
theorem mbX1_58 : g_MB RX1 58 kX4_rankOf 5 false := ⟨qcX4_rankOf, q1_6, q4_35, by decide +kernel, by decide⟩
theorem q4_36 : (Jvm.Cond.methodLink "PeeledHash$Peeler" (67 : Nat) ({ cls := "PeeledHash$Peeler", name := "leastFree", desc := "(I)I" } : Jvm.MethodName)) ∈ gtbl := g_in4 (List.mem_of_getElem? (i := 36) rfl) rfl
theorem mbX1_67 : g_MB RX1 67 kX1_leastFree 1 false := ⟨qcX1_leastFree, q1_7, q4_36, by decide +kernel, by decide⟩
theorem q4_40 : (Jvm.Cond.methodLink "PeeledHash" (365 : Nat) ({ cls := "PeeledHash$Table", name := "solve", desc := "(LPeeledHash$State;LPeeledHash$Peeler;)V" } : Jvm.MethodName)) ∈ gtbl := g_in4 (List.mem_of_getElem? (i := 40) rfl) rfl
theorem mbX8_365 : g_MB RX8 365 kX5_solve 2 false := ⟨qcX5_solve, q1_4, q4_40, by decide +kernel, by decide⟩
theorem q4_44 : (Jvm.Cond.methodLink "PeeledHash$Table" (47 : Nat) ({ cls := "java/util/Arrays", name := "fill", desc := "([II)V" } : Jvm.MethodName)) ∈ gtbl := g_in4 (List.mem_of_getElem? (i := 44) rfl) rfl
theorem mbX5_47 : g_MB RX5 47 kJ7_fill_53178 2 false := ⟨qcJ7_fill_53178, q1_11, q4_44, by decide +kernel, by decide⟩
theorem q4_45 : (Jvm.Cond.methodLink "PeeledHash$Table" (67 : Nat) ({ cls := "PeeledHash$Table", name := "settle", desc := "(II[I)V" } : Jvm.MethodName)) ∈ gtbl := g_in4 (List.mem_of_getElem? (i := 45) rfl) rfl
theorem mbX5_67 : g_MB RX5 67 kX5_settle 3 false := ⟨qcX5_settle, q1_4, q4_45, by decide +kernel, by decide⟩
theorem q4_49 : (Jvm.Cond.methodLink "PeeledHash$Table" (71 : Nat) ({ cls := "java/lang/Math", name := "floorMod", desc := "(II)I" } : Jvm.MethodName)) ∈ gtbl := g_in4 (List.mem_of_getElem? (i := 49) rfl) rfl
theorem mbX5_71 : g_MB RX5 71 kJ9_floorMod_7cf53 2 false := ⟨qcJ9_floorMod_7cf53, q1_10, q4_49, by decide +kernel, by decide⟩
theorem q4_52 : (Jvm.Cond.methodLink "PeeledHash" (369 : Nat) ({ cls := "java/lang/Math", name := "min", desc := "(II)I" } : Jvm.MethodName)) ∈ gtbl := g_in4 (List.mem_of_getElem? (i := 52) rfl) rfl
theorem mbX8_369 : g_MB RX8 369 kJ9_min_7cf53 2 false := ⟨qcJ9_min_7cf53, q1_10, q4_52, by decide +kernel, by decide⟩
theorem q4_53 : (Jvm.Cond.methodLink "PeeledHash" (344 : Nat) ({ cls := "PeeledHash$History", name := "keep", desc := "(I)V" } : Jvm.MethodName)) ∈ gtbl := g_in4 (List.mem_of_getElem? (i := 53) rfl) rfl
theorem mbX8_344 : g_MB RX8 344 kX0_keep 1 false := ⟨qcX0_keep, q1_5, q4_53, by decide +kernel, by decide⟩
theorem q4_57 : (Jvm.Cond.methodLink "PeeledHash" (208 : Nat) ({ cls := "PeeledHash$History", name := "appendAll", desc := "(LPeeledHash$History;)V" } : Jvm.MethodName)) ∈ gtbl := g_in4 (List.mem_of_getElem? (i := 57) rfl) rfl
theorem mbX8_208 : g_MB RX8 208 kX0_appendAll 1 false := ⟨qcX0_appendAll, q1_5, q4_57, by decide +kernel, by decide⟩
theorem q4_61 : (Jvm.Cond.methodLink "PeeledHash$History" (37 : Nat) ({ cls := "PeeledHash$History", name := "draft", desc := "(LPeeledHash$State;)V" } : Jvm.MethodName)) ∈ gtbl := g_in4 (List.mem_of_getElem? (i := 61) rfl) rfl
theorem mbX0_37 : g_MB RX0 37 kX0_draft 1 false := ⟨qcX0_draft, q1_5, q4_61, by decide +kernel, by decide⟩
theorem q4_62 : (Jvm.Cond.methodLink "PeeledHash$History" (40 : Nat) ({ cls := "PeeledHash$History", name := "keep", desc := "(I)V" } : Jvm.MethodName)) ∈ gtbl := g_in4 (List.mem_of_getElem? (i := 62) rfl) rfl
theorem mbX0_40 : g_MB RX0 40 kX0_keep 1 false := ⟨qcX0_keep, q1_5, q4_62, by decide +kernel, by decide⟩
theorem q4_63 : (Jvm.Cond.methodLink "PeeledHashLaw" (61 : Nat) ({ cls := "PeeledHash", name := "fault", desc := "()I" } : Jvm.MethodName)) ∈ gtbl := g_in4 (List.mem_of_getElem? (i := 63) rfl) rfl
theorem mbL_61 : g_MB RL 61 kX8_fault 0 false := ⟨qcX8_fault, q1_1, q4_63, by decide +kernel, by decide⟩
theorem q4_67 : (Jvm.Cond.methodLink "PeeledHashLaw" (65 : Nat) ({ cls := "PeeledHash", name := "stopped", desc := "()I" } : Jvm.MethodName)) ∈ gtbl := g_in4 (List.mem_of_getElem? (i := 67) rfl) rfl
theorem mbL_65 : g_MB RL 65 kX8_stopped 0 false := ⟨qcX8_stopped, q1_1, q4_67, by decide +kernel, by decide⟩
theorem q4_71 : (Jvm.Cond.methodLink "PeeledHashLaw" (69 : Nat) ({ cls := "PeeledHash", name := "force", desc := "(I)I" } : Jvm.MethodName)) ∈ gtbl := g_in4 (List.mem_of_getElem? (i := 71) rfl) rfl
theorem mbL_69 : g_MB RL 69 kX8_force 1 false := ⟨qcX8_force, q1_1, q4_71, by decide +kernel, by decide⟩
theorem q4_75 : (Jvm.Cond.methodLink "PeeledHashLaw" (73 : Nat) ({ cls := "PeeledHash", name := "add", desc := "(I)I" } : Jvm.MethodName)) ∈ gtbl := g_in4 (List.mem_of_getElem? (i := 75) rfl) rfl
theorem mbL_73 : g_MB RL 73 kX8_add 1 false := ⟨qcX8_add, q1_1, q4_75, by decide +kernel, by decide⟩
theorem q4_79 : (Jvm.Cond.methodLink "PeeledHash" (218 : Nat) ({ cls := "PeeledHash", name := "change", desc := "(II)I" } : Jvm.MethodName)) ∈ gtbl := g_in4 (List.mem_of_getElem? (i := 79) rfl) rfl
theorem mbX8_218 : g_MB RX8 218 kX8_change 2 false := ⟨qcX8_change, q1_1, q4_79, by decide +kernel, by decide⟩
theorem q4_83 : (Jvm.Cond.methodLink "PeeledHashLaw" (77 : Nat) ({ cls := "PeeledHash", name := "take", desc := "(I)I" } : Jvm.MethodName)) ∈ gtbl := g_in4 (List.mem_of_getElem? (i := 83) rfl) rfl
theorem mbL_77 : g_MB RL 77 kX8_take 1 false := ⟨qcX8_take, q1_1, q4_83, by decide +kernel, by decide⟩
theorem q4_87 : (Jvm.Cond.methodLink "PeeledHashLaw" (81 : Nat) ({ cls := "PeeledHash", name := "side", desc := "(I)I" } : Jvm.MethodName)) ∈ gtbl := g_in4 (List.mem_of_getElem? (i := 87) rfl) rfl
theorem mbL_81 : g_MB RL 81 kX8_side 1 false := ⟨qcX8_side, q1_1, q4_87, by decide +kernel, by decide⟩
theorem q4_91 : (Jvm.Cond.methodLink "PeeledHashLaw" (85 : Nat) ({ cls := "PeeledHash", name := "seed", desc := "(I)I" } : Jvm.MethodName)) ∈ gtbl := g_in4 (List.mem_of_getElem? (i := 91) rfl) rfl
theorem mbL_85 : g_MB RL 85 kX8_seed 1 false := ⟨qcX8_seed, q1_1, q4_91, by decide +kernel, by decide⟩
theorem q4_95 : (Jvm.Cond.methodLink "PeeledHashLaw" (89 : Nat) ({ cls := "PeeledHash", name := "build", desc := "()I" } : Jvm.MethodName)) ∈ gtbl := g_in4 (List.mem_of_getElem? (i := 95) rfl) rfl
theorem mbL_89 : g_MB RL 89 kX8_build 0 false := ⟨qcX8_build, q1_1, q4_95, by decide +kernel, by decide⟩
theorem q4_99 : (Jvm.Cond.methodLink "PeeledHashLaw" (93 : Nat) ({ cls := "PeeledHash", name := "undo", desc := "()I" } : Jvm.MethodName)) ∈ gtbl := g_in4 (List.mem_of_getElem? (i := 99) rfl) rfl
theorem mbL_93 : g_MB RL 93 kX8_undo 0 false := ⟨qcX8_undo, q1_1, q4_99, by decide +kernel, by decide⟩
theorem q4_103 : (Jvm.Cond.methodLink "PeeledHash" (222 : Nat) ({ cls := "PeeledHash$History", name := "takeBack", desc := "(LPeeledHash$State;)I" } : Jvm.MethodName)) ∈ gtbl := g_in4 (List.mem_of_getElem? (i := 103) rfl) rfl
theorem mbX8_222 : g_MB RX8 222 kX0_takeBack 1 false := ⟨qcX0_takeBack, q1_5, q4_103, by decide +kernel, by decide⟩
theorem q4_107 : (Jvm.Cond.methodLink "PeeledHashLaw" (97 : Nat) ({ cls := "PeeledHash", name := "core", desc := "(I)I" } : Jvm.MethodName)) ∈ gtbl := g_in4 (List.mem_of_getElem? (i := 107) rfl) rfl
theorem mbL_97 : g_MB RL 97 kX8_core 1 false := ⟨qcX8_core, q1_1, q4_107, by decide +kernel, by decide⟩
theorem q4_111 : (Jvm.Cond.methodLink "PeeledHash" (229 : Nat) ({ cls := "PeeledHash$Peeler", name := "coreSize", desc := "(LPeeledHash$State;II)I" } : Jvm.MethodName)) ∈ gtbl := g_in4 (List.mem_of_getElem? (i := 111) rfl) rfl
theorem mbX8_229 : g_MB RX8 229 kX1_coreSize 3 false := ⟨qcX1_coreSize, q1_7, q4_111, by decide +kernel, by decide⟩
theorem q4_112 : (Jvm.Cond.methodLink "PeeledHashLaw" (101 : Nat) ({ cls := "PeeledHash", name := "peeled", desc := "(II)I" } : Jvm.MethodName)) ∈ gtbl := g_in4 (List.mem_of_getElem? (i := 112) rfl) rfl
theorem mbL_101 : g_MB RL 101 kX8_peeled 2 false := ⟨qcX8_peeled, q1_1, q4_112, by decide +kernel, by decide⟩
theorem q4_116 : (Jvm.Cond.methodLink "PeeledHashLaw" (105 : Nat) ({ cls := "PeeledHash", name := "good", desc := "(I)I" } : Jvm.MethodName)) ∈ gtbl := g_in4 (List.mem_of_getElem? (i := 116) rfl) rfl
theorem mbL_105 : g_MB RL 105 kX8_good 1 false := ⟨qcX8_good, q1_1, q4_116, by decide +kernel, by decide⟩
theorem q4_120 : (Jvm.Cond.methodLink "PeeledHashLaw" (109 : Nat) ({ cls := "PeeledHash", name := "leastSide", desc := "()I" } : Jvm.MethodName)) ∈ gtbl := g_in4 (List.mem_of_getElem? (i := 120) rfl) rfl
theorem mbL_109 : g_MB RL 109 kX8_leastSide 0 false := ⟨qcX8_leastSide, q1_1, q4_120, by decide +kernel, by decide⟩
theorem q4_124 : (Jvm.Cond.methodLink "PeeledHashLaw" (113 : Nat) ({ cls := "PeeledHash", name := "found", desc := "(II)I" } : Jvm.MethodName)) ∈ gtbl := g_in4 (List.mem_of_getElem? (i := 124) rfl) rfl
theorem mbL_113 : g_MB RL 113 kX8_found 2 false := ⟨qcX8_found, q1_1, q4_124, by decide +kernel, by decide⟩
theorem q4_128 : (Jvm.Cond.methodLink "PeeledHash" (260 : Nat) ({ cls := "PeeledHash$Table", name := "ownVertex", desc := "(I)I" } : Jvm.MethodName)) ∈ gtbl := g_in4 (List.mem_of_getElem? (i := 128) rfl) rfl
theorem mbX8_260 : g_MB RX8 260 kX5_ownVertex 1 false := ⟨qcX5_ownVertex, q1_4, q4_128, by decide +kernel, by decide⟩
theorem q4_129 : (Jvm.Cond.methodLink "PeeledHash" (266 : Nat) ({ cls := "PeeledHash$Table", name := "placeOf", desc := "(I)I" } : Jvm.MethodName)) ∈ gtbl := g_in4 (List.mem_of_getElem? (i := 129) rfl) rfl
theorem mbX8_266 : g_MB RX8 266 kX5_placeOf 1 false := ⟨qcX5_placeOf, q1_4, q4_129, by decide +kernel, by decide⟩
theorem q4_133 : (Jvm.Cond.methodLink "PeeledHashLaw" (117 : Nat) ({ cls := "PeeledHash", name := "table", desc := "(I)I" } : Jvm.MethodName)) ∈ gtbl := g_in4 (List.mem_of_getElem? (i := 133) rfl) rfl
theorem mbL_117 : g_MB RL 117 kX8_table 1 false := ⟨qcX8_table, q1_1, q4_133, by decide +kernel, by decide⟩
theorem q4_137 : (Jvm.Cond.methodLink "PeeledHash" (272 : Nat) ({ cls := "PeeledHash$Table", name := "signsBelow", desc := "(I)I" } : Jvm.MethodName)) ∈ gtbl := g_in4 (List.mem_of_getElem? (i := 137) rfl) rfl
theorem mbX8_272 : g_MB RX8 272 kX5_signsBelow 1 false := ⟨qcX5_signsBelow, q1_4, q4_137, by decide +kernel, by decide⟩
theorem q4_138 : (Jvm.Cond.methodLink "PeeledHash" (275 : Nat) ({ cls := "PeeledHash$Table", name := "signAt", desc := "(I)I" } : Jvm.MethodName)) ∈ gtbl := g_in4 (List.mem_of_getElem? (i := 138) rfl) rfl
theorem mbX8_275 : g_MB RX8 275 kX5_signAt 1 false := ⟨qcX5_signAt, q1_4, q4_138, by decide +kernel, by decide⟩
theorem q4_142 : (Jvm.Cond.methodLink "PeeledHash" (278 : Nat) ({ cls := "PeeledHash$Table", name := "packed", desc := "(I)I" } : Jvm.MethodName)) ∈ gtbl := g_in4 (List.mem_of_getElem? (i := 142) rfl) rfl
theorem mbX8_278 : g_MB RX8 278 kX5_packed 1 false := ⟨qcX5_packed, q1_4, q4_142, by decide +kernel, by decide⟩
theorem q4_146 : (Jvm.Cond.methodLink "PeeledHash$Table" (88 : Nat) ({ cls := "PeeledHash$Table", name := "signAt", desc := "(I)I" } : Jvm.MethodName)) ∈ gtbl := g_in4 (List.mem_of_getElem? (i := 146) rfl) rfl
theorem mbX5_88 : g_MB RX5 88 kX5_signAt 1 false := ⟨qcX5_signAt, q1_4, q4_146, by decide +kernel, by decide⟩
theorem q4_147 : (Jvm.Cond.methodLink "PeeledHashLaw" (121 : Nat) ({ cls := "PeeledHash", name := "twin", desc := "(I)I" } : Jvm.MethodName)) ∈ gtbl := g_in4 (List.mem_of_getElem? (i := 147) rfl) rfl
theorem mbL_121 : g_MB RL 121 kX8_twin 1 false := ⟨qcX8_twin, q1_1, q4_147, by decide +kernel, by decide⟩
theorem q4_151 : (Jvm.Cond.methodLink "PeeledHash" (281 : Nat) ({ cls := "PeeledHash$Table", name := "hadKey", desc := "(I)Z" } : Jvm.MethodName)) ∈ gtbl := g_in4 (List.mem_of_getElem? (i := 151) rfl) rfl
theorem mbX8_281 : g_MB RX8 281 kX5_hadKey 1 false := ⟨qcX5_hadKey, q1_4, q4_151, by decide +kernel, by decide⟩
theorem q4_155 : (Jvm.Cond.methodLink "PeeledHashLaw" (125 : Nat) ({ cls := "PeeledHash", name := "seen", desc := "(II)I" } : Jvm.MethodName)) ∈ gtbl := g_in4 (List.mem_of_getElem? (i := 155) rfl) rfl
theorem mbL_125 : g_MB RL 125 kX8_seen 2 false := ⟨qcX8_seen, q1_1, q4_155, by decide +kernel, by decide⟩
theorem q4_159 : (Jvm.Cond.methodLink "PeeledHashLaw" (129 : Nat) ({ cls := "PeeledHash", name := "forget", desc := "()I" } : Jvm.MethodName)) ∈ gtbl := g_in4 (List.mem_of_getElem? (i := 159) rfl) rfl
theorem mbL_129 : g_MB RL 129 kX8_forget 0 false := ⟨qcX8_forget, q1_1, q4_159, by decide +kernel, by decide⟩
theorem q4_163 : (Jvm.Cond.methodLink "PeeledHashLaw" (133 : Nat) ({ cls := "PeeledHash", name := "canBe", desc := "(I)I" } : Jvm.MethodName)) ∈ gtbl := g_in4 (List.mem_of_getElem? (i := 163) rfl) rfl
theorem mbL_133 : g_MB RL 133 kX8_canBe 1 false := ⟨qcX8_canBe, q1_1, q4_163, by decide +kernel, by decide⟩
theorem q4_167 : (Jvm.Cond.methodLink "PeeledHash" (294 : Nat) ({ cls := "PeeledHash", name := "collectPossible", desc := "()I" } : Jvm.MethodName)) ∈ gtbl := g_in4 (List.mem_of_getElem? (i := 167) rfl) rfl
theorem mbX8_294 : g_MB RX8 294 kX8_collectPossible 0 false := ⟨qcX8_collectPossible, q1_1, q4_167, by decide +kernel, by decide⟩
theorem q4_171 : (Jvm.Cond.methodLink "PeeledHash" (397 : Nat) ({ cls := "PeeledHash$Whole", name := "fitsSeen", desc := "(I)Z" } : Jvm.MethodName)) ∈ gtbl := g_in4 (List.mem_of_getElem? (i := 171) rfl) rfl
theorem mbX8_397 : g_MB RX8 397 kX7_fitsSeen 1 false := ⟨qcX7_fitsSeen, q1_2, q4_171, by decide +kernel, by decide⟩
theorem q4_175 : (Jvm.Cond.methodLink "PeeledHash$Whole" (45 : Nat) ({ cls := "PeeledHash$State", name := "keyHas", desc := "(II)Z" } : Jvm.MethodName)) ∈ gtbl := g_in4 (List.mem_of_getElem? (i := 175) rfl) rfl
theorem mbX7_45 : g_MB RX7 45 kX3_keyHas 2 false := ⟨qcX3_keyHas, q1_3, q4_175, by decide +kernel, by decide⟩
theorem q4_176 : (Jvm.Cond.methodLink "PeeledHashLaw" (137 : Nat) ({ cls := "PeeledHash", name := "ask", desc := "(I)I" } : Jvm.MethodName)) ∈ gtbl := g_in4 (List.mem_of_getElem? (i := 176) rfl) rfl
theorem mbL_137 : g_MB RL 137 kX8_ask 1 false := ⟨qcX8_ask, q1_1, q4_176, by decide +kernel, by decide⟩
theorem q4_180 : (Jvm.Cond.methodLink "PeeledHash" (298 : Nat) ({ cls := "PeeledHash$State", name := "keyHas", desc := "(II)Z" } : Jvm.MethodName)) ∈ gtbl := g_in4 (List.mem_of_getElem? (i := 180) rfl) rfl
theorem mbX8_298 : g_MB RX8 298 kX3_keyHas 2 false := ⟨qcX3_keyHas, q1_3, q4_180, by decide +kernel, by decide⟩
theorem q4_181 : (Jvm.Cond.methodLink "PeeledHash" (302 : Nat) ({ cls := "java/lang/Math", name := "max", desc := "(II)I" } : Jvm.MethodName)) ∈ gtbl := g_in4 (List.mem_of_getElem? (i := 181) rfl) rfl
theorem mbX8_302 : g_MB RX8 302 kJ9_max_7cf53 2 false := ⟨qcJ9_max_7cf53, q1_10, q4_181, by decide +kernel, by decide⟩
theorem q4_182 : (Jvm.Cond.methodLink "PeeledHashLaw" (141 : Nat) ({ cls := "PeeledHash", name := "few", desc := "(II)J" } : Jvm.MethodName)) ∈ gtbl := g_in4 (List.mem_of_getElem? (i := 182) rfl) rfl
theorem mbL_141 : g_MB RL 141 kX8_few 2 false := ⟨qcX8_few, q1_1, q4_182, by decide +kernel, by decide⟩
theorem q4_187 : (Jvm.Cond.methodLink "PeeledHash" (309 : Nat) ({ cls := "java/util/Arrays", name := "fill", desc := "([JJ)V" } : Jvm.MethodName)) ∈ gtbl := g_in4 (List.mem_of_getElem? (i := 187) rfl) rfl
theorem mbX8_309 : g_MB RX8 309 kJ7_fill_d0a16 2 false := ⟨qcJ7_fill_d0a16, q1_11, q4_187, by decide +kernel, by decide⟩
theorem q4_192 : (Jvm.Cond.methodLink "PeeledHashLaw" (146 : Nat) ({ cls := "PeeledHash", name := "compare", desc := "(II)I" } : Jvm.MethodName)) ∈ gtbl := g_in4 (List.mem_of_getElem? (i := 192) rfl) rfl
theorem mbL_146 : g_MB RL 146 kX8_compare 2 false := ⟨qcX8_compare, q1_1, q4_192, by decide +kernel, by decide⟩
theorem q4_196 : (Jvm.Cond.methodLink "PeeledHashLaw" (150 : Nat) ({ cls := "PeeledHash", name := "years", desc := "(II)I" } : Jvm.MethodName)) ∈ gtbl := g_in4 (List.mem_of_getElem? (i := 196) rfl) rfl
theorem mbL_150 : g_MB RL 150 kX8_years 2 false := ⟨qcX8_years, q1_1, q4_196, by decide +kernel, by decide⟩
theorem q4_201 : (Jvm.Cond.methodLink "PeeledHash" (321 : Nat) ({ cls := "PeeledHash", name := "nextDrawing", desc := "(I)I" } : Jvm.MethodName)) ∈ gtbl := g_in4 (List.mem_of_getElem? (i := 201) rfl) rfl
theorem mbX8_321 : g_MB RX8 321 kX8_nextDrawing 1 false := ⟨qcX8_nextDrawing, q1_1, q4_201, by decide +kernel, by decide⟩
theorem q4_207 : (Jvm.Cond.methodLink "PeeledHashLaw" (154 : Nat) ({ cls := "PeeledHash", name := "drawn", desc := "(I)I" } : Jvm.MethodName)) ∈ gtbl := g_in4 (List.mem_of_getElem? (i := 207) rfl) rfl
theorem mbL_154 : g_MB RL 154 kX8_drawn 1 false := ⟨qcX8_drawn, q1_1, q4_207, by decide +kernel, by decide⟩
theorem q4_211 : (Jvm.Cond.methodLink "PeeledHashLaw" (158 : Nat) ({ cls := "PeeledHash", name := "image", desc := "(I)I" } : Jvm.MethodName)) ∈ gtbl := g_in4 (List.mem_of_getElem? (i := 211) rfl) rfl
theorem mbL_158 : g_MB RL 158 kX8_image 1 false := ⟨qcX8_image, q1_1, q4_211, by decide +kernel, by decide⟩
theorem q4_215 : (Jvm.Cond.methodLink "PeeledHash" (327 : Nat) ({ cls := "PeeledHash", name := "imageNumbered", desc := "(I)LPeeledHash$Whole;" } : Jvm.MethodName)) ∈ gtbl := g_in4 (List.mem_of_getElem? (i := 215) rfl) rfl
theorem mbX8_327 : g_MB RX8 327 kX8_imageNumbered 1 false := ⟨qcX8_imageNumbered, q1_1, q4_215, by decide +kernel, by decide⟩
theorem q4_219 : (Jvm.Cond.methodLink "PeeledHash" (331 : Nat) ({ cls := "PeeledHash$Whole", name := "copyFrom", desc := "(LPeeledHash$Whole;)V" } : Jvm.MethodName)) ∈ gtbl := g_in4 (List.mem_of_getElem? (i := 219) rfl) rfl
theorem mbX8_331 : g_MB RX8 331 kX7_copyFrom 1 false := ⟨qcX7_copyFrom, q1_2, q4_219, by decide +kernel, by decide⟩
theorem q4_223 : (Jvm.Cond.methodLink "PeeledHash$Whole" (35 : Nat) ({ cls := "PeeledHash$State", name := "copyFrom", desc := "(LPeeledHash$State;)V" } : Jvm.MethodName)) ∈ gtbl := g_in4 (List.mem_of_getElem? (i := 223) rfl) rfl
theorem mbX7_35 : g_MB RX7 35 kX3_copyFrom 1 false := ⟨qcX3_copyFrom, q1_3, q4_223, by decide +kernel, by decide⟩
theorem q4_224 : (Jvm.Cond.methodLink "PeeledHashLaw" (162 : Nat) ({ cls := "PeeledHash", name := "back", desc := "(I)I" } : Jvm.MethodName)) ∈ gtbl := g_in4 (List.mem_of_getElem? (i := 224) rfl) rfl
theorem mbL_162 : g_MB RL 162 kX8_back 1 false := ⟨qcX8_back, q1_1, q4_224, by decide +kernel, by decide⟩
theorem q4_228 : (Jvm.Cond.methodLink "PeeledHashLaw" (166 : Nat) ({ cls := "PeeledHash", name := "count", desc := "(I)I" } : Jvm.MethodName)) ∈ gtbl := g_in4 (List.mem_of_getElem? (i := 228) rfl) rfl
theorem mbL_166 : g_MB RL 166 kX8_count 1 false := ⟨qcX8_count, q1_1, q4_228, by decide +kernel, by decide⟩
theorem q4_232 : (Jvm.Cond.methodLink "PeeledHashLaw" (170 : Nat) ({ cls := "PeeledHash", name := "status", desc := "()I" } : Jvm.MethodName)) ∈ gtbl := g_in4 (List.mem_of_getElem? (i := 232) rfl) rfl
theorem mbL_170 : g_MB RL 170 kX8_status 0 false := ⟨qcX8_status, q1_1, q4_232, by decide +kernel, by decide⟩
theorem q1_12 : (Jvm.Cond.initialized "PeeledHashModel") ∈ gtbl := g_in1 (List.mem_of_getElem? (i := 12) rfl) rfl
theorem q4_238 : (Jvm.Cond.methodLink "PeeledHashLaw" (12 : Nat) ({ cls := "PeeledHashModel", name := "<init>", desc := "()V" } : Jvm.MethodName)) ∈ gtbl := g_in4 (List.mem_of_getElem? (i := 238) rfl) rfl
theorem mbL_12 : g_MB RL 12 kX9_init 0 false := ⟨qcX9_init, q1_12, q4_238, by decide +kernel, by decide⟩
theorem q5_1 : (Jvm.Cond.methodLink "PeeledHashModel" (22 : Nat) ({ cls := "java/lang/Object", name := "<init>", desc := "()V" } : Jvm.MethodName)) ∈ gtbl := g_in5 (List.mem_of_getElem? (i := 1) rfl) rfl
theorem q5_153 : (Jvm.Cond.methodLink "PeeledHashLaw" (161 : Nat) ({ cls := "PeeledHashModel", name := "image", desc := "(I)I" } : Jvm.MethodName)) ∈ gtbl := g_in5 (List.mem_of_getElem? (i := 153) rfl) rfl
theorem mbL_161 : g_MB RL 161 kX9_image 1 false := ⟨qcX9_image, q1_12, q5_153, by decide +kernel, by decide⟩
theorem q5_157 : (Jvm.Cond.methodLink "PeeledHashModel" (18 : Nat) ({ cls := "PeeledHashModel", name := "lies", desc := "(III)Z" } : Jvm.MethodName)) ∈ gtbl := g_in5 (List.mem_of_getElem? (i := 157) rfl) rfl
theorem mbX9_18 : g_MB RX9 18 kX9_lies 3 false := ⟨qcX9_lies, q1_12, q5_157, by decide +kernel, by decide⟩
theorem q5_160 : (Jvm.Cond.methodLink "PeeledHashModel" (103 : Nat) ({ cls := "PeeledHashModel", name := "refuses", desc := "(I)I" } : Jvm.MethodName)) ∈ gtbl := g_in5 (List.mem_of_getElem? (i := 160) rfl) rfl
theorem mbX9_103 : g_MB RX9 103 kX9_refuses 1 false := ⟨qcX9_refuses, q1_12, q5_160, by decide +kernel, by decide⟩
theorem q5_164 : (Jvm.Cond.methodLink "PeeledHashModel" (14 : Nat) ({ cls := "PeeledHashModel", name := "good0", desc := "(I)I" } : Jvm.MethodName)) ∈ gtbl := g_in5 (List.mem_of_getElem? (i := 164) rfl) rfl
theorem mbX9_14 : g_MB RX9 14 kX9_good0 1 false := ⟨qcX9_good0, q1_12, q5_164, by decide +kernel, by decide⟩
theorem q5_168 : (Jvm.Cond.methodLink "PeeledHashLaw" (165 : Nat) ({ cls := "PeeledHashModel", name := "back", desc := "(I)I" } : Jvm.MethodName)) ∈ gtbl := g_in5 (List.mem_of_getElem? (i := 168) rfl) rfl
theorem mbL_165 : g_MB RL 165 kX9_back 1 false := ⟨qcX9_back, q1_12, q5_168, by decide +kernel, by decide⟩
theorem q5_172 : (Jvm.Cond.methodLink "PeeledHashModel" (106 : Nat) ({ cls := "PeeledHashModel", name := "settled", desc := "(I)I" } : Jvm.MethodName)) ∈ gtbl := g_in5 (List.mem_of_getElem? (i := 172) rfl) rfl
theorem mbX9_106 : g_MB RX9 106 kX9_settled 1 false := ⟨qcX9_settled, q1_12, q5_172, by decide +kernel, by decide⟩
theorem q5_176 : (Jvm.Cond.methodLink "PeeledHashLaw" (17 : Nat) ({ cls := "PeeledHashModel", name := "key", desc := "(II)I" } : Jvm.MethodName)) ∈ gtbl := g_in5 (List.mem_of_getElem? (i := 176) rfl) rfl
theorem mbL_17 : g_MB RL 17 kX9_key 2 false := ⟨qcX9_key, q1_12, q5_176, by decide +kernel, by decide⟩
theorem q5_180 : (Jvm.Cond.methodLink "PeeledHashModel" (127 : Nat) ({ cls := "PeeledHashModel", name := "isKey", desc := "(I)Z" } : Jvm.MethodName)) ∈ gtbl := g_in5 (List.mem_of_getElem? (i := 180) rfl) rfl
theorem mbX9_127 : g_MB RX9 127 kX9_isKey 1 false := ⟨qcX9_isKey, q1_12, q5_180, by decide +kernel, by decide⟩
theorem q5_183 : (Jvm.Cond.methodLink "PeeledHashModel" (131 : Nat) ({ cls := "PeeledHashModel", name := "isThere", desc := "(I)Z" } : Jvm.MethodName)) ∈ gtbl := g_in5 (List.mem_of_getElem? (i := 183) rfl) rfl
theorem mbX9_131 : g_MB RX9 131 kX9_isThere 1 false := ⟨qcX9_isThere, q1_12, q5_183, by decide +kernel, by decide⟩
theorem q5_187 : (Jvm.Cond.methodLink "PeeledHashModel" (112 : Nat) ({ cls := "PeeledHashModel", name := "lowerMany", desc := "(I)I" } : Jvm.MethodName)) ∈ gtbl := g_in5 (List.mem_of_getElem? (i := 187) rfl) rfl
theorem mbX9_112 : g_MB RX9 112 kX9_lowerMany 1 false := ⟨qcX9_lowerMany, q1_12, q5_187, by decide +kernel, by decide⟩
theorem q5_191 : (Jvm.Cond.methodLink "PeeledHashModel" (109 : Nat) ({ cls := "PeeledHashModel", name := "keyAt", desc := "(I)I" } : Jvm.MethodName)) ∈ gtbl := g_in5 (List.mem_of_getElem? (i := 191) rfl) rfl
theorem mbX9_109 : g_MB RX9 109 kX9_keyAt 1 false := ⟨qcX9_keyAt, q1_12, q5_191, by decide +kernel, by decide⟩
theorem q5_195 : (Jvm.Cond.methodLink "PeeledHashModel" (134 : Nat) ({ cls := "PeeledHashModel", name := "isBarred", desc := "(I)Z" } : Jvm.MethodName)) ∈ gtbl := g_in5 (List.mem_of_getElem? (i := 195) rfl) rfl
theorem mbX9_134 : g_MB RX9 134 kX9_isBarred 1 false := ⟨qcX9_isBarred, q1_12, q5_195, by decide +kernel, by decide⟩
theorem q5_199 : (Jvm.Cond.methodLink "PeeledHashModel" (328 : Nat) ({ cls := "PeeledHashModel", name := "setsAsked", desc := "(IIIII)V" } : Jvm.MethodName)) ∈ gtbl := g_in5 (List.mem_of_getElem? (i := 199) rfl) rfl
theorem mbX9_328 : g_MB RX9 328 kX9_setsAsked 5 false := ⟨qcX9_setsAsked, q1_12, q5_199, by decide +kernel, by decide⟩
theorem q5_203 : (Jvm.Cond.methodLink "PeeledHashModel" (332 : Nat) ({ cls := "PeeledHashModel", name := "tells", desc := "(II)I" } : Jvm.MethodName)) ∈ gtbl := g_in5 (List.mem_of_getElem? (i := 203) rfl) rfl
theorem mbX9_332 : g_MB RX9 332 kX9_tells 2 false := ⟨qcX9_tells, q1_12, q5_203, by decide +kernel, by decide⟩
theorem q5_207 : (Jvm.Cond.methodLink "PeeledHashModel" (272 : Nat) ({ cls := "PeeledHashModel", name := "codeAt", desc := "(I)I" } : Jvm.MethodName)) ∈ gtbl := g_in5 (List.mem_of_getElem? (i := 207) rfl) rfl
theorem mbX9_272 : g_MB RX9 272 kX9_codeAt 1 false := ⟨qcX9_codeAt, q1_12, q5_207, by decide +kernel, by decide⟩
theorem q5_211 : (Jvm.Cond.methodLink "PeeledHashModel" (296 : Nat) ({ cls := "PeeledHashModel", name := "sumOf", desc := "(Z)J" } : Jvm.MethodName)) ∈ gtbl := g_in5 (List.mem_of_getElem? (i := 211) rfl) rfl
theorem mbX9_296 : g_MB RX9 296 kX9_sumOf 1 false := ⟨qcX9_sumOf, q1_12, q5_211, by decide +kernel, by decide⟩
theorem q5_215 : (Jvm.Cond.methodLink "PeeledHashModel" (282 : Nat) ({ cls := "PeeledHashModel", name := "termOf", desc := "(Z)J" } : Jvm.MethodName)) ∈ gtbl := g_in5 (List.mem_of_getElem? (i := 215) rfl) rfl
theorem mbX9_282 : g_MB RX9 282 kX9_termOf 1 false := ⟨qcX9_termOf, q1_12, q5_215, by decide +kernel, by decide⟩
theorem q5_219 : (Jvm.Cond.methodLink "PeeledHashModel" (290 : Nat) ({ cls := "PeeledHashModel", name := "partOf", desc := "(Z)J" } : Jvm.MethodName)) ∈ gtbl := g_in5 (List.mem_of_getElem? (i := 219) rfl) rfl
theorem mbX9_290 : g_MB RX9 290 kX9_partOf 1 false := ⟨qcX9_partOf, q1_12, q5_219, by decide +kernel, by decide⟩
theorem q5_223 : (Jvm.Cond.methodLink "PeeledHashModel" (228 : Nat) ({ cls := "PeeledHashModel", name := "sign", desc := "(C)I" } : Jvm.MethodName)) ∈ gtbl := g_in5 (List.mem_of_getElem? (i := 223) rfl) rfl
theorem mbX9_228 : g_MB RX9 228 kX9_sign 1 false := ⟨qcX9_sign, q1_12, q5_223, by decide +kernel, by decide⟩
theorem q5_226 : (Jvm.Cond.methodLink "PeeledHashModel" (293 : Nat) ({ cls := "PeeledHashModel", name := "passes0", desc := "(I)Z" } : Jvm.MethodName)) ∈ gtbl := g_in5 (List.mem_of_getElem? (i := 226) rfl) rfl
theorem mbX9_293 : g_MB RX9 293 kX9_passes0 1 false := ⟨qcX9_passes0, q1_12, q5_226, by decide +kernel, by decide⟩
theorem q5_230 : (Jvm.Cond.methodLink "PeeledHashModel" (302 : Nat) ({ cls := "PeeledHashModel", name := "orderValue", desc := "(II)I" } : Jvm.MethodName)) ∈ gtbl := g_in5 (List.mem_of_getElem? (i := 230) rfl) rfl
theorem mbX9_302 : g_MB RX9 302 kX9_orderValue 2 false := ⟨qcX9_orderValue, q1_12, q5_230, by decide +kernel, by decide⟩
theorem q5_234 : (Jvm.Cond.methodLink "PeeledHashModel" (137 : Nat) ({ cls := "PeeledHashModel", name := "isVertex", desc := "(I)Z" } : Jvm.MethodName)) ∈ gtbl := g_in5 (List.mem_of_getElem? (i := 234) rfl) rfl
theorem mbX9_137 : g_MB RX9 137 kX9_isVertex 1 false := ⟨qcX9_isVertex, q1_12, q5_234, by decide +kernel, by decide⟩
theorem q5_238 : (Jvm.Cond.methodLink "PeeledHashModel" (123 : Nat) ({ cls := "PeeledHashModel", name := "vertexMany", desc := "()I" } : Jvm.MethodName)) ∈ gtbl := g_in5 (List.mem_of_getElem? (i := 238) rfl) rfl
theorem mbX9_123 : g_MB RX9 123 kX9_vertexMany 0 false := ⟨qcX9_vertexMany, q1_12, q5_238, by decide +kernel, by decide⟩
theorem q6_2 : (Jvm.Cond.methodLink "PeeledHashModel" (140 : Nat) ({ cls := "PeeledHashModel", name := "degreeOf", desc := "(II)I" } : Jvm.MethodName)) ∈ gtbl := g_in6 (List.mem_of_getElem? (i := 2) rfl) rfl
theorem mbX9_140 : g_MB RX9 140 kX9_degreeOf 2 false := ⟨qcX9_degreeOf, q1_12, q6_2, by decide +kernel, by decide⟩
theorem q6_6 : (Jvm.Cond.methodLink "PeeledHashModel" (119 : Nat) ({ cls := "PeeledHashModel", name := "hasVertex", desc := "(IIII)Z" } : Jvm.MethodName)) ∈ gtbl := g_in6 (List.mem_of_getElem? (i := 6) rfl) rfl
theorem mbX9_119 : g_MB RX9 119 kX9_hasVertex 4 false := ⟨qcX9_hasVertex, q1_12, q6_6, by decide +kernel, by decide⟩
theorem q6_9 : (Jvm.Cond.methodLink "PeeledHashModel" (115 : Nat) ({ cls := "PeeledHashModel", name := "vertexOf", desc := "(IIII)I" } : Jvm.MethodName)) ∈ gtbl := g_in6 (List.mem_of_getElem? (i := 9) rfl) rfl
theorem mbX9_115 : g_MB RX9 115 kX9_vertexOf 4 false := ⟨qcX9_vertexOf, q1_12, q6_9, by decide +kernel, by decide⟩
theorem q6_12 : (Jvm.Cond.methodLink "PeeledHashModel" (311 : Nat) ({ cls := "PeeledHashModel", name := "found", desc := "(II)I" } : Jvm.MethodName)) ∈ gtbl := g_in6 (List.mem_of_getElem? (i := 12) rfl) rfl
theorem mbX9_311 : g_MB RX9 311 kX9_found 2 false := ⟨qcX9_found, q1_12, q6_12, by decide +kernel, by decide⟩
theorem q6_16 : (Jvm.Cond.methodLink "PeeledHashModel" (404 : Nat) ({ cls := "PeeledHashModel", name := "ownOf", desc := "(I)I" } : Jvm.MethodName)) ∈ gtbl := g_in6 (List.mem_of_getElem? (i := 16) rfl) rfl
theorem mbX9_404 : g_MB RX9 404 kX9_ownOf 1 false := ⟨qcX9_ownOf, q1_12, q6_16, by decide +kernel, by decide⟩
theorem q6_20 : (Jvm.Cond.methodLink "PeeledHashModel" (350 : Nat) ({ cls := "PeeledHashModel", name := "together", desc := "(II)I" } : Jvm.MethodName)) ∈ gtbl := g_in6 (List.mem_of_getElem? (i := 20) rfl) rfl
theorem mbX9_350 : g_MB RX9 350 kX9_together 2 false := ⟨qcX9_together, q1_12, q6_20, by decide +kernel, by decide⟩
theorem q6_24 : (Jvm.Cond.methodLink "PeeledHashModel" (407 : Nat) ({ cls := "PeeledHashModel", name := "signedBelow", desc := "(I)I" } : Jvm.MethodName)) ∈ gtbl := g_in6 (List.mem_of_getElem? (i := 24) rfl) rfl
theorem mbX9_407 : g_MB RX9 407 kX9_signedBelow 1 false := ⟨qcX9_signedBelow, q1_12, q6_24, by decide +kernel, by decide⟩
theorem q6_28 : (Jvm.Cond.methodLink "PeeledHashModel" (410 : Nat) ({ cls := "PeeledHashModel", name := "placeBy", desc := "(I)I" } : Jvm.MethodName)) ∈ gtbl := g_in6 (List.mem_of_getElem? (i := 28) rfl) rfl
theorem mbX9_410 : g_MB RX9 410 kX9_placeBy 1 false := ⟨qcX9_placeBy, q1_12, q6_28, by decide +kernel, by decide⟩
theorem q6_32 : (Jvm.Cond.methodLink "PeeledHashModel" (286 : Nat) ({ cls := "PeeledHashModel", name := "bounded", desc := "(JZ)J" } : Jvm.MethodName)) ∈ gtbl := g_in6 (List.mem_of_getElem? (i := 32) rfl) rfl
theorem mbX9_286 : g_MB RX9 286 kX9_bounded 2 false := ⟨qcX9_bounded, q1_12, q6_32, by decide +kernel, by decide⟩
theorem q6_38 : (Jvm.Cond.methodLink "PeeledHashModel" (323 : Nat) ({ cls := "PeeledHashModel", name := "testOf", desc := "(Z)Z" } : Jvm.MethodName)) ∈ gtbl := g_in6 (List.mem_of_getElem? (i := 38) rfl) rfl
theorem mbX9_323 : g_MB RX9 323 kX9_testOf 1 false := ⟨qcX9_testOf, q1_12, q6_38, by decide +kernel, by decide⟩
theorem q6_42 : (Jvm.Cond.methodLink "PeeledHashModel" (314 : Nat) ({ cls := "PeeledHashModel", name := "bothOf", desc := "(Z)Z" } : Jvm.MethodName)) ∈ gtbl := g_in6 (List.mem_of_getElem? (i := 42) rfl) rfl
theorem mbX9_314 : g_MB RX9 314 kX9_bothOf 1 false := ⟨qcX9_bothOf, q1_12, q6_42, by decide +kernel, by decide⟩
theorem q6_46 : (Jvm.Cond.methodLink "PeeledHashModel" (317 : Nat) ({ cls := "PeeledHashModel", name := "plainOf", desc := "(Z)Z" } : Jvm.MethodName)) ∈ gtbl := g_in6 (List.mem_of_getElem? (i := 46) rfl) rfl
theorem mbX9_317 : g_MB RX9 317 kX9_plainOf 1 false := ⟨qcX9_plainOf, q1_12, q6_46, by decide +kernel, by decide⟩
theorem q6_50 : (Jvm.Cond.methodLink "PeeledHashModel" (320 : Nat) ({ cls := "PeeledHashModel", name := "positiveOf", desc := "(Z)Z" } : Jvm.MethodName)) ∈ gtbl := g_in6 (List.mem_of_getElem? (i := 50) rfl) rfl
theorem mbX9_320 : g_MB RX9 320 kX9_positiveOf 1 false := ⟨qcX9_positiveOf, q1_12, q6_50, by decide +kernel, by decide⟩
theorem q6_55 : (Jvm.Cond.methodLink "PeeledHashLaw" (21 : Nat) ({ cls := "PeeledHashModel", name := "vertex", desc := "(II)I" } : Jvm.MethodName)) ∈ gtbl := g_in6 (List.mem_of_getElem? (i := 55) rfl) rfl
theorem mbL_21 : g_MB RL 21 kX9_vertex 2 false := ⟨qcX9_vertex, q1_12, q6_55, by decide +kernel, by decide⟩
theorem q6_59 : (Jvm.Cond.methodLink "PeeledHashModel" (144 : Nat) ({ cls := "PeeledHashModel", name := "ranksOf", desc := "(II)I" } : Jvm.MethodName)) ∈ gtbl := g_in6 (List.mem_of_getElem? (i := 59) rfl) rfl
theorem mbX9_144 : g_MB RX9 144 kX9_ranksOf 2 false := ⟨qcX9_ranksOf, q1_12, q6_59, by decide +kernel, by decide⟩
theorem q6_63 : (Jvm.Cond.methodLink "PeeledHashLaw" (26 : Nat) ({ cls := "PeeledHashModel", name := "there", desc := "(I)I" } : Jvm.MethodName)) ∈ gtbl := g_in6 (List.mem_of_getElem? (i := 63) rfl) rfl
theorem mbL_26 : g_MB RL 26 kX9_there 1 false := ⟨qcX9_there, q1_12, q6_63, by decide +kernel, by decide⟩
theorem q6_67 : (Jvm.Cond.methodLink "PeeledHashLaw" (30 : Nat) ({ cls := "PeeledHashModel", name := "ceiling", desc := "(I)I" } : Jvm.MethodName)) ∈ gtbl := g_in6 (List.mem_of_getElem? (i := 67) rfl) rfl
theorem mbL_30 : g_MB RL 30 kX9_ceiling 1 false := ⟨qcX9_ceiling, q1_12, q6_67, by decide +kernel, by decide⟩
theorem q6_71 : (Jvm.Cond.methodLink "PeeledHashModel" (147 : Nat) ({ cls := "PeeledHashModel", name := "there", desc := "(I)I" } : Jvm.MethodName)) ∈ gtbl := g_in6 (List.mem_of_getElem? (i := 71) rfl) rfl
theorem mbX9_147 : g_MB RX9 147 kX9_there 1 false := ⟨qcX9_there, q1_12, q6_71, by decide +kernel, by decide⟩
theorem q6_72 : (Jvm.Cond.methodLink "PeeledHashLaw" (34 : Nat) ({ cls := "PeeledHashModel", name := "terms", desc := "(II)I" } : Jvm.MethodName)) ∈ gtbl := g_in6 (List.mem_of_getElem? (i := 72) rfl) rfl
theorem mbL_34 : g_MB RL 34 kX9_terms 2 false := ⟨qcX9_terms, q1_12, q6_72, by decide +kernel, by decide⟩
theorem q6_76 : (Jvm.Cond.methodLink "PeeledHashModel" (150 : Nat) ({ cls := "PeeledHashModel", name := "isTerm", desc := "(II)Z" } : Jvm.MethodName)) ∈ gtbl := g_in6 (List.mem_of_getElem? (i := 76) rfl) rfl
theorem mbX9_150 : g_MB RX9 150 kX9_isTerm 2 false := ⟨qcX9_isTerm, q1_12, q6_76, by decide +kernel, by decide⟩
theorem q6_79 : (Jvm.Cond.methodLink "PeeledHashModel" (154 : Nat) ({ cls := "PeeledHashModel", name := "termAt", desc := "(I)I" } : Jvm.MethodName)) ∈ gtbl := g_in6 (List.mem_of_getElem? (i := 79) rfl) rfl
theorem mbX9_154 : g_MB RX9 154 kX9_termAt 1 false := ⟨qcX9_termAt, q1_12, q6_79, by decide +kernel, by decide⟩
theorem q6_82 : (Jvm.Cond.methodLink "PeeledHashLaw" (48 : Nat) ({ cls := "PeeledHashModel", name := "row", desc := "()I" } : Jvm.MethodName)) ∈ gtbl := g_in6 (List.mem_of_getElem? (i := 82) rfl) rfl
theorem mbL_48 : g_MB RL 48 kX9_row 0 false := ⟨qcX9_row, q1_12, q6_82, by decide +kernel, by decide⟩
theorem q6_86 : (Jvm.Cond.methodLink "PeeledHashModel" (163 : Nat) ({ cls := "PeeledHashModel", name := "adds", desc := "(I)I" } : Jvm.MethodName)) ∈ gtbl := g_in6 (List.mem_of_getElem? (i := 86) rfl) rfl
theorem mbX9_163 : g_MB RX9 163 kX9_adds 1 false := ⟨qcX9_adds, q1_12, q6_86, by decide +kernel, by decide⟩
theorem q6_90 : (Jvm.Cond.methodLink "PeeledHashLaw" (52 : Nat) ({ cls := "PeeledHashModel", name := "blanks", desc := "()I" } : Jvm.MethodName)) ∈ gtbl := g_in6 (List.mem_of_getElem? (i := 90) rfl) rfl
theorem mbL_52 : g_MB RL 52 kX9_blanks 0 false := ⟨qcX9_blanks, q1_12, q6_90, by decide +kernel, by decide⟩
theorem q6_94 : (Jvm.Cond.methodLink "PeeledHashLaw" (39 : Nat) ({ cls := "PeeledHashModel", name := "feed", desc := "(IIIII)I" } : Jvm.MethodName)) ∈ gtbl := g_in6 (List.mem_of_getElem? (i := 94) rfl) rfl
theorem mbL_39 : g_MB RL 39 kX9_feed 5 false := ⟨qcX9_feed, q1_12, q6_94, by decide +kernel, by decide⟩
theorem q6_98 : (Jvm.Cond.methodLink "PeeledHashLaw" (43 : Nat) ({ cls := "PeeledHashModel", name := "end", desc := "(I)I" } : Jvm.MethodName)) ∈ gtbl := g_in6 (List.mem_of_getElem? (i := 98) rfl) rfl
theorem mbL_43 : g_MB RL 43 kX9_end 1 false := ⟨qcX9_end, q1_12, q6_98, by decide +kernel, by decide⟩
theorem q6_102 : (Jvm.Cond.methodLink "PeeledHashLaw" (56 : Nat) ({ cls := "PeeledHashModel", name := "law", desc := "()I" } : Jvm.MethodName)) ∈ gtbl := g_in6 (List.mem_of_getElem? (i := 102) rfl) rfl
theorem mbL_56 : g_MB RL 56 kX9_law 0 false := ⟨qcX9_law, q1_12, q6_102, by decide +kernel, by decide⟩
theorem q6_106 : (Jvm.Cond.methodLink "PeeledHashModel" (256 : Nat) ({ cls := "PeeledHashModel", name := "readsAs", desc := "(Z)Z" } : Jvm.MethodName)) ∈ gtbl := g_in6 (List.mem_of_getElem? (i := 106) rfl) rfl
theorem mbX9_256 : g_MB RX9 256 kX9_readsAs 1 false := ⟨qcX9_readsAs, q1_12, q6_106, by decide +kernel, by decide⟩
theorem q6_110 : (Jvm.Cond.methodLink "PeeledHashModel" (253 : Nat) ({ cls := "PeeledHashModel", name := "reads", desc := "()Z" } : Jvm.MethodName)) ∈ gtbl := g_in6 (List.mem_of_getElem? (i := 110) rfl) rfl
theorem mbX9_253 : g_MB RX9 253 kX9_reads 0 false := ⟨qcX9_reads, q1_12, q6_110, by decide +kernel, by decide⟩
theorem q6_114 : (Jvm.Cond.methodLink "PeeledHashModel" (247 : Nat) ({ cls := "PeeledHashModel", name := "splits", desc := "(I)V" } : Jvm.MethodName)) ∈ gtbl := g_in6 (List.mem_of_getElem? (i := 114) rfl) rfl
theorem mbX9_247 : g_MB RX9 247 kX9_splits 1 false := ⟨qcX9_splits, q1_12, q6_114, by decide +kernel, by decide⟩
theorem q6_118 : (Jvm.Cond.methodLink "PeeledHashModel" (169 : Nat) ({ cls := "PeeledHashModel", name := "isSmall", desc := "(I)Z" } : Jvm.MethodName)) ∈ gtbl := g_in6 (List.mem_of_getElem? (i := 118) rfl) rfl
theorem mbX9_169 : g_MB RX9 169 kX9_isSmall 1 false := ⟨qcX9_isSmall, q1_12, q6_118, by decide +kernel, by decide⟩
theorem q6_121 : (Jvm.Cond.methodLink "PeeledHashModel" (172 : Nat) ({ cls := "PeeledHashModel", name := "isDigit", desc := "(I)Z" } : Jvm.MethodName)) ∈ gtbl := g_in6 (List.mem_of_getElem? (i := 121) rfl) rfl
theorem mbX9_172 : g_MB RX9 172 kX9_isDigit 1 false := ⟨qcX9_isDigit, q1_12, q6_121, by decide +kernel, by decide⟩
theorem q6_124 : (Jvm.Cond.methodLink "PeeledHashModel" (175 : Nat) ({ cls := "PeeledHashModel", name := "wordOf", desc := "(II)I" } : Jvm.MethodName)) ∈ gtbl := g_in6 (List.mem_of_getElem? (i := 124) rfl) rfl
theorem mbX9_175 : g_MB RX9 175 kX9_wordOf 2 false := ⟨qcX9_wordOf, q1_12, q6_124, by decide +kernel, by decide⟩
theorem q6_129 : (Jvm.Cond.methodLink "PeeledHashModel" (250 : Nat) ({ cls := "PeeledHashModel", name := "readOne", desc := "()V" } : Jvm.MethodName)) ∈ gtbl := g_in6 (List.mem_of_getElem? (i := 129) rfl) rfl
theorem mbX9_250 : g_MB RX9 250 kX9_readOne 0 false := ⟨qcX9_readOne, q1_12, q6_129, by decide +kernel, by decide⟩
theorem q6_133 : (Jvm.Cond.methodLink "PeeledHashModel" (216 : Nat) ({ cls := "PeeledHashModel", name := "readOrder", desc := "()V" } : Jvm.MethodName)) ∈ gtbl := g_in6 (List.mem_of_getElem? (i := 133) rfl) rfl
theorem mbX9_216 : g_MB RX9 216 kX9_readOrder 0 false := ⟨qcX9_readOrder, q1_12, q6_133, by decide +kernel, by decide⟩
theorem q6_137 : (Jvm.Cond.methodLink "PeeledHashModel" (189 : Nat) ({ cls := "PeeledHashModel", name := "takes0", desc := "(I)Z" } : Jvm.MethodName)) ∈ gtbl := g_in6 (List.mem_of_getElem? (i := 137) rfl) rfl
theorem mbX9_189 : g_MB RX9 189 kX9_takes0 1 false := ⟨qcX9_takes0, q1_12, q6_137, by decide +kernel, by decide⟩
theorem q6_141 : (Jvm.Cond.methodLink "PeeledHashModel" (182 : Nat) ({ cls := "PeeledHashModel", name := "fine", desc := "()Z" } : Jvm.MethodName)) ∈ gtbl := g_in6 (List.mem_of_getElem? (i := 141) rfl) rfl
theorem mbX9_182 : g_MB RX9 182 kX9_fine 0 false := ⟨qcX9_fine, q1_12, q6_141, by decide +kernel, by decide⟩
theorem q6_145 : (Jvm.Cond.methodLink "PeeledHashModel" (198 : Nat) ({ cls := "PeeledHashModel", name := "readSum", desc := "(I)V" } : Jvm.MethodName)) ∈ gtbl := g_in6 (List.mem_of_getElem? (i := 145) rfl) rfl
theorem mbX9_198 : g_MB RX9 198 kX9_readSum 1 false := ⟨qcX9_readSum, q1_12, q6_145, by decide +kernel, by decide⟩
theorem q6_149 : (Jvm.Cond.methodLink "PeeledHashModel" (232 : Nat) ({ cls := "PeeledHashModel", name := "readTerm", desc := "(I)V" } : Jvm.MethodName)) ∈ gtbl := g_in6 (List.mem_of_getElem? (i := 149) rfl) rfl
theorem mbX9_232 : g_MB RX9 232 kX9_readTerm 1 false := ⟨qcX9_readTerm, q1_12, q6_149, by decide +kernel, by decide⟩
theorem q6_153 : (Jvm.Cond.methodLink "PeeledHashModel" (235 : Nat) ({ cls := "PeeledHashModel", name := "readPart", desc := "(I)V" } : Jvm.MethodName)) ∈ gtbl := g_in6 (List.mem_of_getElem? (i := 153) rfl) rfl
theorem mbX9_235 : g_MB RX9 235 kX9_readPart 1 false := ⟨qcX9_readPart, q1_12, q6_153, by decide +kernel, by decide⟩
theorem q6_157 : (Jvm.Cond.methodLink "PeeledHashModel" (192 : Nat) ({ cls := "PeeledHashModel", name := "faults", desc := "()V" } : Jvm.MethodName)) ∈ gtbl := g_in6 (List.mem_of_getElem? (i := 157) rfl) rfl
theorem mbX9_192 : g_MB RX9 192 kX9_faults 0 false := ⟨qcX9_faults, q1_12, q6_157, by decide +kernel, by decide⟩
theorem q6_161 : (Jvm.Cond.methodLink "PeeledHashModel" (202 : Nat) ({ cls := "PeeledHashModel", name := "must", desc := "(I)V" } : Jvm.MethodName)) ∈ gtbl := g_in6 (List.mem_of_getElem? (i := 161) rfl) rfl
theorem mbX9_202 : g_MB RX9 202 kX9_must 1 false := ⟨qcX9_must, q1_12, q6_161, by decide +kernel, by decide⟩
theorem q6_165 : (Jvm.Cond.methodLink "PeeledHashModel" (244 : Nat) ({ cls := "PeeledHashModel", name := "leaf", desc := "()V" } : Jvm.MethodName)) ∈ gtbl := g_in6 (List.mem_of_getElem? (i := 165) rfl) rfl
theorem mbX9_244 : g_MB RX9 244 kX9_leaf 0 false := ⟨qcX9_leaf, q1_12, q6_165, by decide +kernel, by decide⟩
theorem q6_169 : (Jvm.Cond.methodLink "PeeledHashModel" (208 : Nat) ({ cls := "PeeledHashModel", name := "mustNumber", desc := "(II)V" } : Jvm.MethodName)) ∈ gtbl := g_in6 (List.mem_of_getElem? (i := 169) rfl) rfl
theorem mbX9_208 : g_MB RX9 208 kX9_mustNumber 2 false := ⟨qcX9_mustNumber, q1_12, q6_169, by decide +kernel, by decide⟩
theorem q6_173 : (Jvm.Cond.methodLink "PeeledHashModel" (205 : Nat) ({ cls := "PeeledHashModel", name := "readTest", desc := "(I)V" } : Jvm.MethodName)) ∈ gtbl := g_in6 (List.mem_of_getElem? (i := 173) rfl) rfl
theorem mbX9_205 : g_MB RX9 205 kX9_readTest 1 false := ⟨qcX9_readTest, q1_12, q6_173, by decide +kernel, by decide⟩
theorem q6_177 : (Jvm.Cond.methodLink "PeeledHashModel" (222 : Nat) ({ cls := "PeeledHashModel", name := "readBoth", desc := "(I)V" } : Jvm.MethodName)) ∈ gtbl := g_in6 (List.mem_of_getElem? (i := 177) rfl) rfl
theorem mbX9_222 : g_MB RX9 222 kX9_readBoth 1 false := ⟨qcX9_readBoth, q1_12, q6_177, by decide +kernel, by decide⟩
theorem q6_181 : (Jvm.Cond.methodLink "PeeledHashModel" (225 : Nat) ({ cls := "PeeledHashModel", name := "readPlain", desc := "(I)V" } : Jvm.MethodName)) ∈ gtbl := g_in6 (List.mem_of_getElem? (i := 181) rfl) rfl
theorem mbX9_225 : g_MB RX9 225 kX9_readPlain 1 false := ⟨qcX9_readPlain, q1_12, q6_181, by decide +kernel, by decide⟩
theorem q6_185 : (Jvm.Cond.methodLink "PeeledHashModel" (219 : Nat) ({ cls := "PeeledHashModel", name := "readClause", desc := "()V" } : Jvm.MethodName)) ∈ gtbl := g_in6 (List.mem_of_getElem? (i := 185) rfl) rfl
theorem mbX9_219 : g_MB RX9 219 kX9_readClause 0 false := ⟨qcX9_readClause, q1_12, q6_185, by decide +kernel, by decide⟩
theorem q6_189 : (Jvm.Cond.methodLink "PeeledHashModel" (260 : Nat) ({ cls := "PeeledHashModel", name := "lays", desc := "(I)V" } : Jvm.MethodName)) ∈ gtbl := g_in6 (List.mem_of_getElem? (i := 189) rfl) rfl
theorem mbX9_260 : g_MB RX9 260 kX9_lays 1 false := ⟨qcX9_lays, q1_12, q6_189, by decide +kernel, by decide⟩
theorem q6_193 : (Jvm.Cond.methodLink "PeeledHashLaw" (64 : Nat) ({ cls := "PeeledHashModel", name := "fault", desc := "()I" } : Jvm.MethodName)) ∈ gtbl := g_in6 (List.mem_of_getElem? (i := 193) rfl) rfl
theorem mbL_64 : g_MB RL 64 kX9_fault 0 false := ⟨qcX9_fault, q1_12, q6_193, by decide +kernel, by decide⟩
theorem q6_197 : (Jvm.Cond.methodLink "PeeledHashLaw" (72 : Nat) ({ cls := "PeeledHashModel", name := "force", desc := "(I)I" } : Jvm.MethodName)) ∈ gtbl := g_in6 (List.mem_of_getElem? (i := 197) rfl) rfl
theorem mbL_72 : g_MB RL 72 kX9_force 1 false := ⟨qcX9_force, q1_12, q6_197, by decide +kernel, by decide⟩
theorem q6_201 : (Jvm.Cond.methodLink "PeeledHashModel" (263 : Nat) ({ cls := "PeeledHashModel", name := "isLaw", desc := "(I)Z" } : Jvm.MethodName)) ∈ gtbl := g_in6 (List.mem_of_getElem? (i := 201) rfl) rfl
theorem mbX9_263 : g_MB RX9 263 kX9_isLaw 1 false := ⟨qcX9_isLaw, q1_12, q6_201, by decide +kernel, by decide⟩
theorem q6_205 : (Jvm.Cond.methodLink "PeeledHashLaw" (96 : Nat) ({ cls := "PeeledHashModel", name := "undo", desc := "()I" } : Jvm.MethodName)) ∈ gtbl := g_in6 (List.mem_of_getElem? (i := 205) rfl) rfl
theorem mbL_96 : g_MB RL 96 kX9_undo 0 false := ⟨qcX9_undo, q1_12, q6_205, by decide +kernel, by decide⟩
theorem q6_209 : (Jvm.Cond.methodLink "PeeledHashLaw" (76 : Nat) ({ cls := "PeeledHashModel", name := "add", desc := "(I)I" } : Jvm.MethodName)) ∈ gtbl := g_in6 (List.mem_of_getElem? (i := 209) rfl) rfl
theorem mbL_76 : g_MB RL 76 kX9_add 1 false := ⟨qcX9_add, q1_12, q6_209, by decide +kernel, by decide⟩
theorem q6_213 : (Jvm.Cond.methodLink "PeeledHashModel" (383 : Nat) ({ cls := "PeeledHashModel", name := "addsKept", desc := "(I)I" } : Jvm.MethodName)) ∈ gtbl := g_in6 (List.mem_of_getElem? (i := 213) rfl) rfl
theorem mbX9_383 : g_MB RX9 383 kX9_addsKept 1 false := ⟨qcX9_addsKept, q1_12, q6_213, by decide +kernel, by decide⟩
theorem q6_217 : (Jvm.Cond.methodLink "PeeledHashModel" (365 : Nat) ({ cls := "PeeledHashModel", name := "laysAside", desc := "(I)V" } : Jvm.MethodName)) ∈ gtbl := g_in6 (List.mem_of_getElem? (i := 217) rfl) rfl
theorem mbX9_365 : g_MB RX9 365 kX9_laysAside 1 false := ⟨qcX9_laysAside, q1_12, q6_217, by decide +kernel, by decide⟩
theorem q6_221 : (Jvm.Cond.methodLink "PeeledHashModel" (368 : Nat) ({ cls := "PeeledHashModel", name := "keptOr", desc := "(II)I" } : Jvm.MethodName)) ∈ gtbl := g_in6 (List.mem_of_getElem? (i := 221) rfl) rfl
theorem mbX9_368 : g_MB RX9 368 kX9_keptOr 2 false := ⟨qcX9_keptOr, q1_12, q6_221, by decide +kernel, by decide⟩
theorem q6_225 : (Jvm.Cond.methodLink "PeeledHashModel" (386 : Nat) ({ cls := "PeeledHashModel", name := "goodOr", desc := "(I)I" } : Jvm.MethodName)) ∈ gtbl := g_in6 (List.mem_of_getElem? (i := 225) rfl) rfl
theorem mbX9_386 : g_MB RX9 386 kX9_goodOr 1 false := ⟨qcX9_goodOr, q1_12, q6_225, by decide +kernel, by decide⟩
theorem q6_229 : (Jvm.Cond.methodLink "PeeledHashLaw" (80 : Nat) ({ cls := "PeeledHashModel", name := "take", desc := "(I)I" } : Jvm.MethodName)) ∈ gtbl := g_in6 (List.mem_of_getElem? (i := 229) rfl) rfl
theorem mbL_80 : g_MB RL 80 kX9_take 1 false := ⟨qcX9_take, q1_12, q6_229, by decide +kernel, by decide⟩
theorem q6_233 : (Jvm.Cond.methodLink "PeeledHashModel" (389 : Nat) ({ cls := "PeeledHashModel", name := "takesKept", desc := "(I)I" } : Jvm.MethodName)) ∈ gtbl := g_in6 (List.mem_of_getElem? (i := 233) rfl) rfl
theorem mbX9_389 : g_MB RX9 389 kX9_takesKept 1 false := ⟨qcX9_takesKept, q1_12, q6_233, by decide +kernel, by decide⟩
theorem q6_237 : (Jvm.Cond.methodLink "PeeledHashModel" (371 : Nat) ({ cls := "PeeledHashModel", name := "takesKey", desc := "(I)I" } : Jvm.MethodName)) ∈ gtbl := g_in6 (List.mem_of_getElem? (i := 237) rfl) rfl
theorem mbX9_371 : g_MB RX9 371 kX9_takesKey 1 false := ⟨qcX9_takesKey, q1_12, q6_237, by decide +kernel, by decide⟩
theorem q7_1 : (Jvm.Cond.methodLink "PeeledHashLaw" (84 : Nat) ({ cls := "PeeledHashModel", name := "side", desc := "(I)I" } : Jvm.MethodName)) ∈ gtbl := g_in7 (List.mem_of_getElem? (i := 1) rfl) rfl
theorem mbL_84 : g_MB RL 84 kX9_side 1 false := ⟨qcX9_side, q1_12, q7_1, by decide +kernel, by decide⟩
theorem q7_5 : (Jvm.Cond.methodLink "PeeledHashModel" (392 : Nat) ({ cls := "PeeledHashModel", name := "sideKept", desc := "(I)I" } : Jvm.MethodName)) ∈ gtbl := g_in7 (List.mem_of_getElem? (i := 5) rfl) rfl
theorem mbX9_392 : g_MB RX9 392 kX9_sideKept 1 false := ⟨qcX9_sideKept, q1_12, q7_5, by decide +kernel, by decide⟩
theorem q7_9 : (Jvm.Cond.methodLink "PeeledHashModel" (374 : Nat) ({ cls := "PeeledHashModel", name := "setsSide", desc := "(I)I" } : Jvm.MethodName)) ∈ gtbl := g_in7 (List.mem_of_getElem? (i := 9) rfl) rfl
theorem mbX9_374 : g_MB RX9 374 kX9_setsSide 1 false := ⟨qcX9_setsSide, q1_12, q7_9, by decide +kernel, by decide⟩
theorem q7_13 : (Jvm.Cond.methodLink "PeeledHashLaw" (88 : Nat) ({ cls := "PeeledHashModel", name := "seed", desc := "(I)I" } : Jvm.MethodName)) ∈ gtbl := g_in7 (List.mem_of_getElem? (i := 13) rfl) rfl
theorem mbL_88 : g_MB RL 88 kX9_seed 1 false := ⟨qcX9_seed, q1_12, q7_13, by decide +kernel, by decide⟩
theorem q7_17 : (Jvm.Cond.methodLink "PeeledHashModel" (395 : Nat) ({ cls := "PeeledHashModel", name := "seedKept", desc := "(I)I" } : Jvm.MethodName)) ∈ gtbl := g_in7 (List.mem_of_getElem? (i := 17) rfl) rfl
theorem mbX9_395 : g_MB RX9 395 kX9_seedKept 1 false := ⟨qcX9_seedKept, q1_12, q7_17, by decide +kernel, by decide⟩
theorem q7_21 : (Jvm.Cond.methodLink "PeeledHashModel" (377 : Nat) ({ cls := "PeeledHashModel", name := "setsSeed", desc := "(I)I" } : Jvm.MethodName)) ∈ gtbl := g_in7 (List.mem_of_getElem? (i := 21) rfl) rfl
theorem mbX9_377 : g_MB RX9 377 kX9_setsSeed 1 false := ⟨qcX9_setsSeed, q1_12, q7_21, by decide +kernel, by decide⟩
theorem q7_25 : (Jvm.Cond.methodLink "PeeledHashModel" (347 : Nat) ({ cls := "PeeledHashModel", name := "isSeed", desc := "(I)Z" } : Jvm.MethodName)) ∈ gtbl := g_in7 (List.mem_of_getElem? (i := 25) rfl) rfl
theorem mbX9_347 : g_MB RX9 347 kX9_isSeed 1 false := ⟨qcX9_isSeed, q1_12, q7_25, by decide +kernel, by decide⟩
theorem q7_28 : (Jvm.Cond.methodLink "PeeledHashLaw" (92 : Nat) ({ cls := "PeeledHashModel", name := "build", desc := "()I" } : Jvm.MethodName)) ∈ gtbl := g_in7 (List.mem_of_getElem? (i := 28) rfl) rfl
theorem mbL_92 : g_MB RL 92 kX9_build 0 false := ⟨qcX9_build, q1_12, q7_28, by decide +kernel, by decide⟩
theorem q7_32 : (Jvm.Cond.methodLink "PeeledHashModel" (398 : Nat) ({ cls := "PeeledHashModel", name := "buildsKept", desc := "()I" } : Jvm.MethodName)) ∈ gtbl := g_in7 (List.mem_of_getElem? (i := 32) rfl) rfl
theorem mbX9_398 : g_MB RX9 398 kX9_buildsKept 0 false := ⟨qcX9_buildsKept, q1_12, q7_32, by decide +kernel, by decide⟩
theorem q7_36 : (Jvm.Cond.methodLink "PeeledHashModel" (380 : Nat) ({ cls := "PeeledHashModel", name := "builds", desc := "()I" } : Jvm.MethodName)) ∈ gtbl := g_in7 (List.mem_of_getElem? (i := 36) rfl) rfl
theorem mbX9_380 : g_MB RX9 380 kX9_builds 0 false := ⟨qcX9_builds, q1_12, q7_36, by decide +kernel, by decide⟩
theorem q7_40 : (Jvm.Cond.methodLink "PeeledHashModel" (353 : Nat) ({ cls := "PeeledHashModel", name := "coreOf", desc := "(I)I" } : Jvm.MethodName)) ∈ gtbl := g_in7 (List.mem_of_getElem? (i := 40) rfl) rfl
theorem mbX9_353 : g_MB RX9 353 kX9_coreOf 1 false := ⟨qcX9_coreOf, q1_12, q7_40, by decide +kernel, by decide⟩
theorem q7_44 : (Jvm.Cond.methodLink "PeeledHashModel" (344 : Nat) ({ cls := "PeeledHashModel", name := "peels", desc := "(I)V" } : Jvm.MethodName)) ∈ gtbl := g_in7 (List.mem_of_getElem? (i := 44) rfl) rfl
theorem mbX9_344 : g_MB RX9 344 kX9_peels 1 false := ⟨qcX9_peels, q1_12, q7_44, by decide +kernel, by decide⟩
theorem q7_48 : (Jvm.Cond.methodLink "PeeledHashModel" (335 : Nat) ({ cls := "PeeledHashModel", name := "laysVertices", desc := "(I)V" } : Jvm.MethodName)) ∈ gtbl := g_in7 (List.mem_of_getElem? (i := 48) rfl) rfl
theorem mbX9_335 : g_MB RX9 335 kX9_laysVertices 1 false := ⟨qcX9_laysVertices, q1_12, q7_48, by decide +kernel, by decide⟩
theorem q7_52 : (Jvm.Cond.methodLink "PeeledHashModel" (341 : Nat) ({ cls := "PeeledHashModel", name := "nextFree", desc := "()I" } : Jvm.MethodName)) ∈ gtbl := g_in7 (List.mem_of_getElem? (i := 52) rfl) rfl
theorem mbX9_341 : g_MB RX9 341 kX9_nextFree 0 false := ⟨qcX9_nextFree, q1_12, q7_52, by decide +kernel, by decide⟩
theorem q7_56 : (Jvm.Cond.methodLink "PeeledHashModel" (356 : Nat) ({ cls := "PeeledHashModel", name := "laysRanks", desc := "(I)V" } : Jvm.MethodName)) ∈ gtbl := g_in7 (List.mem_of_getElem? (i := 56) rfl) rfl
theorem mbX9_356 : g_MB RX9 356 kX9_laysRanks 1 false := ⟨qcX9_laysRanks, q1_12, q7_56, by decide +kernel, by decide⟩
theorem q7_60 : (Jvm.Cond.methodLink "PeeledHashModel" (359 : Nat) ({ cls := "PeeledHashModel", name := "laysTable", desc := "()V" } : Jvm.MethodName)) ∈ gtbl := g_in7 (List.mem_of_getElem? (i := 60) rfl) rfl
theorem mbX9_359 : g_MB RX9 359 kX9_laysTable 0 false := ⟨qcX9_laysTable, q1_12, q7_60, by decide +kernel, by decide⟩
theorem q7_64 : (Jvm.Cond.methodLink "PeeledHashModel" (362 : Nat) ({ cls := "PeeledHashModel", name := "lesser", desc := "(II)I" } : Jvm.MethodName)) ∈ gtbl := g_in7 (List.mem_of_getElem? (i := 64) rfl) rfl
theorem mbX9_362 : g_MB RX9 362 kX9_lesser 2 false := ⟨qcX9_lesser, q1_12, q7_64, by decide +kernel, by decide⟩
theorem q7_67 : (Jvm.Cond.methodLink "PeeledHashLaw" (100 : Nat) ({ cls := "PeeledHashModel", name := "core", desc := "(I)I" } : Jvm.MethodName)) ∈ gtbl := g_in7 (List.mem_of_getElem? (i := 67) rfl) rfl
theorem mbL_100 : g_MB RL 100 kX9_core 1 false := ⟨qcX9_core, q1_12, q7_67, by decide +kernel, by decide⟩
theorem q7_71 : (Jvm.Cond.methodLink "PeeledHashLaw" (104 : Nat) ({ cls := "PeeledHashModel", name := "peeled", desc := "(II)I" } : Jvm.MethodName)) ∈ gtbl := g_in7 (List.mem_of_getElem? (i := 71) rfl) rfl
theorem mbL_104 : g_MB RL 104 kX9_peeled 2 false := ⟨qcX9_peeled, q1_12, q7_71, by decide +kernel, by decide⟩
theorem q7_75 : (Jvm.Cond.methodLink "PeeledHashLaw" (108 : Nat) ({ cls := "PeeledHashModel", name := "good", desc := "(I)I" } : Jvm.MethodName)) ∈ gtbl := g_in7 (List.mem_of_getElem? (i := 75) rfl) rfl
theorem mbL_108 : g_MB RL 108 kX9_good 1 false := ⟨qcX9_good, q1_12, q7_75, by decide +kernel, by decide⟩
theorem q7_79 : (Jvm.Cond.methodLink "PeeledHashLaw" (112 : Nat) ({ cls := "PeeledHashModel", name := "leastSide", desc := "()I" } : Jvm.MethodName)) ∈ gtbl := g_in7 (List.mem_of_getElem? (i := 79) rfl) rfl
theorem mbL_112 : g_MB RL 112 kX9_leastSide 0 false := ⟨qcX9_leastSide, q1_12, q7_79, by decide +kernel, by decide⟩
theorem q7_83 : (Jvm.Cond.methodLink "PeeledHashModel" (401 : Nat) ({ cls := "PeeledHashModel", name := "hasGood", desc := "()Z" } : Jvm.MethodName)) ∈ gtbl := g_in7 (List.mem_of_getElem? (i := 83) rfl) rfl
theorem mbX9_401 : g_MB RX9 401 kX9_hasGood 0 false := ⟨qcX9_hasGood, q1_12, q7_83, by decide +kernel, by decide⟩
theorem q7_87 : (Jvm.Cond.methodLink "PeeledHashLaw" (116 : Nat) ({ cls := "PeeledHashModel", name := "found", desc := "(II)I" } : Jvm.MethodName)) ∈ gtbl := g_in7 (List.mem_of_getElem? (i := 87) rfl) rfl
theorem mbL_116 : g_MB RL 116 kX9_found 2 false := ⟨qcX9_found, q1_12, q7_87, by decide +kernel, by decide⟩
theorem q7_88 : (Jvm.Cond.methodLink "PeeledHashLaw" (120 : Nat) ({ cls := "PeeledHashModel", name := "table", desc := "(I)I" } : Jvm.MethodName)) ∈ gtbl := g_in7 (List.mem_of_getElem? (i := 88) rfl) rfl
theorem mbL_120 : g_MB RL 120 kX9_table 1 false := ⟨qcX9_table, q1_12, q7_88, by decide +kernel, by decide⟩
theorem q7_92 : (Jvm.Cond.methodLink "PeeledHashModel" (413 : Nat) ({ cls := "PeeledHashModel", name := "signOrByte", desc := "(II)I" } : Jvm.MethodName)) ∈ gtbl := g_in7 (List.mem_of_getElem? (i := 92) rfl) rfl
theorem mbX9_413 : g_MB RX9 413 kX9_signOrByte 2 false := ⟨qcX9_signOrByte, q1_12, q7_92, by decide +kernel, by decide⟩
theorem q7_96 : (Jvm.Cond.methodLink "PeeledHashModel" (416 : Nat) ({ cls := "PeeledHashModel", name := "packed", desc := "(I)I" } : Jvm.MethodName)) ∈ gtbl := g_in7 (List.mem_of_getElem? (i := 96) rfl) rfl
theorem mbX9_416 : g_MB RX9 416 kX9_packed 1 false := ⟨qcX9_packed, q1_12, q7_96, by decide +kernel, by decide⟩
theorem q7_100 : (Jvm.Cond.methodLink "PeeledHashLaw" (124 : Nat) ({ cls := "PeeledHashModel", name := "twin", desc := "(I)I" } : Jvm.MethodName)) ∈ gtbl := g_in7 (List.mem_of_getElem? (i := 100) rfl) rfl
theorem mbL_124 : g_MB RL 124 kX9_twin 1 false := ⟨qcX9_twin, q1_12, q7_100, by decide +kernel, by decide⟩
theorem q7_104 : (Jvm.Cond.methodLink "PeeledHashModel" (419 : Nat) ({ cls := "PeeledHashModel", name := "wasThere", desc := "(I)Z" } : Jvm.MethodName)) ∈ gtbl := g_in7 (List.mem_of_getElem? (i := 104) rfl) rfl
theorem mbX9_419 : g_MB RX9 419 kX9_wasThere 1 false := ⟨qcX9_wasThere, q1_12, q7_104, by decide +kernel, by decide⟩
theorem q7_108 : (Jvm.Cond.methodLink "PeeledHashLaw" (128 : Nat) ({ cls := "PeeledHashModel", name := "seen", desc := "(II)I" } : Jvm.MethodName)) ∈ gtbl := g_in7 (List.mem_of_getElem? (i := 108) rfl) rfl
theorem mbL_128 : g_MB RL 128 kX9_seen 2 false := ⟨qcX9_seen, q1_12, q7_108, by decide +kernel, by decide⟩
theorem q7_112 : (Jvm.Cond.methodLink "PeeledHashLaw" (132 : Nat) ({ cls := "PeeledHashModel", name := "forget", desc := "()I" } : Jvm.MethodName)) ∈ gtbl := g_in7 (List.mem_of_getElem? (i := 112) rfl) rfl
theorem mbL_132 : g_MB RL 132 kX9_forget 0 false := ⟨qcX9_forget, q1_12, q7_112, by decide +kernel, by decide⟩
theorem q7_116 : (Jvm.Cond.methodLink "PeeledHashLaw" (136 : Nat) ({ cls := "PeeledHashModel", name := "canBe", desc := "(I)I" } : Jvm.MethodName)) ∈ gtbl := g_in7 (List.mem_of_getElem? (i := 116) rfl) rfl
theorem mbL_136 : g_MB RL 136 kX9_canBe 1 false := ⟨qcX9_canBe, q1_12, q7_116, by decide +kernel, by decide⟩
theorem q7_120 : (Jvm.Cond.methodLink "PeeledHashModel" (425 : Nat) ({ cls := "PeeledHashModel", name := "isSo", desc := "(I)Z" } : Jvm.MethodName)) ∈ gtbl := g_in7 (List.mem_of_getElem? (i := 120) rfl) rfl
theorem mbX9_425 : g_MB RX9 425 kX9_isSo 1 false := ⟨qcX9_isSo, q1_12, q7_120, by decide +kernel, by decide⟩
theorem q7_124 : (Jvm.Cond.methodLink "PeeledHashModel" (422 : Nat) ({ cls := "PeeledHashModel", name := "has", desc := "(II)Z" } : Jvm.MethodName)) ∈ gtbl := g_in7 (List.mem_of_getElem? (i := 124) rfl) rfl
theorem mbX9_422 : g_MB RX9 422 kX9_has 2 false := ⟨qcX9_has, q1_12, q7_124, by decide +kernel, by decide⟩
theorem q7_128 : (Jvm.Cond.methodLink "PeeledHashLaw" (140 : Nat) ({ cls := "PeeledHashModel", name := "ask", desc := "(I)I" } : Jvm.MethodName)) ∈ gtbl := g_in7 (List.mem_of_getElem? (i := 128) rfl) rfl
theorem mbL_140 : g_MB RL 140 kX9_ask 1 false := ⟨qcX9_ask, q1_12, q7_128, by decide +kernel, by decide⟩
theorem q7_132 : (Jvm.Cond.methodLink "PeeledHashModel" (428 : Nat) ({ cls := "PeeledHashModel", name := "canBe", desc := "(I)I" } : Jvm.MethodName)) ∈ gtbl := g_in7 (List.mem_of_getElem? (i := 132) rfl) rfl
theorem mbX9_428 : g_MB RX9 428 kX9_canBe 1 false := ⟨qcX9_canBe, q1_12, q7_132, by decide +kernel, by decide⟩
theorem q7_133 : (Jvm.Cond.methodLink "PeeledHashModel" (431 : Nat) ({ cls := "PeeledHashModel", name := "greater", desc := "(II)I" } : Jvm.MethodName)) ∈ gtbl := g_in7 (List.mem_of_getElem? (i := 133) rfl) rfl
theorem mbX9_431 : g_MB RX9 431 kX9_greater 2 false := ⟨qcX9_greater, q1_12, q7_133, by decide +kernel, by decide⟩
theorem q7_136 : (Jvm.Cond.methodLink "PeeledHashLaw" (145 : Nat) ({ cls := "PeeledHashModel", name := "few", desc := "(II)J" } : Jvm.MethodName)) ∈ gtbl := g_in7 (List.mem_of_getElem? (i := 136) rfl) rfl
theorem mbL_145 : g_MB RL 145 kX9_few 2 false := ⟨qcX9_few, q1_12, q7_136, by decide +kernel, by decide⟩
theorem q7_143 : (Jvm.Cond.methodLink "PeeledHashLaw" (149 : Nat) ({ cls := "PeeledHashModel", name := "compare", desc := "(II)I" } : Jvm.MethodName)) ∈ gtbl := g_in7 (List.mem_of_getElem? (i := 143) rfl) rfl
theorem mbL_149 : g_MB RL 149 kX9_compare 2 false := ⟨qcX9_compare, q1_12, q7_143, by decide +kernel, by decide⟩
theorem q7_147 : (Jvm.Cond.methodLink "PeeledHashLaw" (68 : Nat) ({ cls := "PeeledHashModel", name := "stopped", desc := "()I" } : Jvm.MethodName)) ∈ gtbl := g_in7 (List.mem_of_getElem? (i := 147) rfl) rfl
theorem mbL_68 : g_MB RL 68 kX9_stopped 0 false := ⟨qcX9_stopped, q1_12, q7_147, by decide +kernel, by decide⟩
theorem q7_151 : (Jvm.Cond.methodLink "PeeledHashLaw" (60 : Nat) ({ cls := "PeeledHashModel", name := "orders", desc := "()I" } : Jvm.MethodName)) ∈ gtbl := g_in7 (List.mem_of_getElem? (i := 151) rfl) rfl
theorem mbL_60 : g_MB RL 60 kX9_orders 0 false := ⟨qcX9_orders, q1_12, q7_151, by decide +kernel, by decide⟩
theorem q7_155 : (Jvm.Cond.methodLink "PeeledHashModel" (443 : Nat) ({ cls := "PeeledHashModel", name := "runs", desc := "(I)Z" } : Jvm.MethodName)) ∈ gtbl := g_in7 (List.mem_of_getElem? (i := 155) rfl) rfl
theorem mbX9_443 : g_MB RX9 443 kX9_runs 1 false := ⟨qcX9_runs, q1_12, q7_155, by decide +kernel, by decide⟩
theorem q7_159 : (Jvm.Cond.methodLink "PeeledHashModel" (467 : Nat) ({ cls := "PeeledHashModel", name := "goesAlong", desc := "(IZ)V" } : Jvm.MethodName)) ∈ gtbl := g_in7 (List.mem_of_getElem? (i := 159) rfl) rfl
theorem mbX9_467 : g_MB RX9 467 kX9_goesAlong 2 false := ⟨qcX9_goesAlong, q1_12, q7_159, by decide +kernel, by decide⟩
theorem q7_163 : (Jvm.Cond.methodLink "PeeledHashModel" (471 : Nat) ({ cls := "PeeledHashModel", name := "obeys", desc := "()I" } : Jvm.MethodName)) ∈ gtbl := g_in7 (List.mem_of_getElem? (i := 163) rfl) rfl
theorem mbX9_471 : g_MB RX9 471 kX9_obeys 0 false := ⟨qcX9_obeys, q1_12, q7_163, by decide +kernel, by decide⟩
theorem q7_167 : (Jvm.Cond.methodLink "PeeledHashModel" (463 : Nat) ({ cls := "PeeledHashModel", name := "small", desc := "(J)I" } : Jvm.MethodName)) ∈ gtbl := g_in7 (List.mem_of_getElem? (i := 167) rfl) rfl
theorem mbX9_463 : g_MB RX9 463 kX9_small 1 false := ⟨qcX9_small, q1_12, q7_167, by decide +kernel, by decide⟩
theorem q7_171 : (Jvm.Cond.methodLink "PeeledHashModel" (446 : Nat) ({ cls := "PeeledHashModel", name := "takesBack", desc := "(I)V" } : Jvm.MethodName)) ∈ gtbl := g_in7 (List.mem_of_getElem? (i := 171) rfl) rfl
theorem mbX9_446 : g_MB RX9 446 kX9_takesBack 1 false := ⟨qcX9_takesBack, q1_12, q7_171, by decide +kernel, by decide⟩
theorem q7_175 : (Jvm.Cond.methodLink "PeeledHashLaw" (153 : Nat) ({ cls := "PeeledHashModel", name := "years", desc := "(II)I" } : Jvm.MethodName)) ∈ gtbl := g_in7 (List.mem_of_getElem? (i := 175) rfl) rfl
theorem mbL_153 : g_MB RL 153 kX9_years 2 false := ⟨qcX9_years, q1_12, q7_175, by decide +kernel, by decide⟩
theorem q7_179 : (Jvm.Cond.methodLink "PeeledHashModel" (489 : Nat) ({ cls := "PeeledHashModel", name := "drawnAct", desc := "()V" } : Jvm.MethodName)) ∈ gtbl := g_in7 (List.mem_of_getElem? (i := 179) rfl) rfl
theorem mbX9_489 : g_MB RX9 489 kX9_drawnAct 0 false := ⟨qcX9_drawnAct, q1_12, q7_179, by decide +kernel, by decide⟩
theorem q7_183 : (Jvm.Cond.methodLink "PeeledHashModel" (483 : Nat) ({ cls := "PeeledHashModel", name := "draws", desc := "(I)I" } : Jvm.MethodName)) ∈ gtbl := g_in7 (List.mem_of_getElem? (i := 183) rfl) rfl
theorem mbX9_483 : g_MB RX9 483 kX9_draws 1 false := ⟨qcX9_draws, q1_12, q7_183, by decide +kernel, by decide⟩
theorem q7_190 : (Jvm.Cond.methodLink "PeeledHashLaw" (157 : Nat) ({ cls := "PeeledHashModel", name := "drawn", desc := "(I)I" } : Jvm.MethodName)) ∈ gtbl := g_in7 (List.mem_of_getElem? (i := 190) rfl) rfl
theorem mbL_157 : g_MB RL 157 kX9_drawn 1 false := ⟨qcX9_drawn, q1_12, q7_190, by decide +kernel, by decide⟩
theorem q7_194 : (Jvm.Cond.methodLink "PeeledHashLaw" (169 : Nat) ({ cls := "PeeledHashModel", name := "count", desc := "(I)I" } : Jvm.MethodName)) ∈ gtbl := g_in7 (List.mem_of_getElem? (i := 194) rfl) rfl
theorem mbL_169 : g_MB RL 169 kX9_count 1 false := ⟨qcX9_count, q1_12, q7_194, by decide +kernel, by decide⟩
theorem q7_198 : (Jvm.Cond.methodLink "PeeledHashModel" (492 : Nat) ({ cls := "PeeledHashModel", name := "refusals", desc := "(I)I" } : Jvm.MethodName)) ∈ gtbl := g_in7 (List.mem_of_getElem? (i := 198) rfl) rfl
theorem mbX9_492 : g_MB RX9 492 kX9_refusals 1 false := ⟨qcX9_refusals, q1_12, q7_198, by decide +kernel, by decide⟩
theorem q7_202 : (Jvm.Cond.methodLink "PeeledHashLaw" (173 : Nat) ({ cls := "PeeledHashModel", name := "status", desc := "()I" } : Jvm.MethodName)) ∈ gtbl := g_in7 (List.mem_of_getElem? (i := 202) rfl) rfl
theorem mbL_173 : g_MB RL 173 kX9_status 0 false := ⟨qcX9_status, q1_12, q7_202, by decide +kernel, by decide⟩
theorem q1_18 : (Jvm.Cond.classLink "PeeledHashLaw" (7 : Nat) "PeeledHash") ∈ gtbl := g_in1 (List.mem_of_getElem? (i := 18) rfl) rfl
theorem q1_26 : (Jvm.Cond.classLink "PeeledHash" (11 : Nat) "PeeledHash$Whole") ∈ gtbl := g_in1 (List.mem_of_getElem? (i := 26) rfl) rfl
theorem q1_32 : (Jvm.Cond.classLink "PeeledHash$Whole" (9 : Nat) "PeeledHash$State") ∈ gtbl := g_in1 (List.mem_of_getElem? (i := 32) rfl) rfl
theorem q1_38 : (Jvm.Cond.classLink "PeeledHash$State" (18 : Nat) "PeeledHash$Table") ∈ gtbl := g_in1 (List.mem_of_getElem? (i := 38) rfl) rfl
theorem q1_107 : (Jvm.Cond.classLink "PeeledHash$Whole" (25 : Nat) "PeeledHash$Text") ∈ gtbl := g_in1 (List.mem_of_getElem? (i := 107) rfl) rfl
theorem q1_142 : (Jvm.Cond.classLink "PeeledHash" (22 : Nat) "PeeledHash$History") ∈ gtbl := g_in1 (List.mem_of_getElem? (i := 142) rfl) rfl
theorem q1_148 : (Jvm.Cond.classLink "PeeledHash$History" (11 : Nat) "PeeledHash$State") ∈ gtbl := g_in1 (List.mem_of_getElem? (i := 148) rfl) rfl
theorem q1_165 : (Jvm.Cond.classLink "PeeledHash" (32 : Nat) "PeeledHash$State") ∈ gtbl := g_in1 (List.mem_of_getElem? (i := 165) rfl) rfl
theorem q1_167 : (Jvm.Cond.classLink "PeeledHash" (42 : Nat) "PeeledHash$Sums") ∈ gtbl := g_in1 (List.mem_of_getElem? (i := 167) rfl) rfl
theorem q1_181 : (Jvm.Cond.classLink "PeeledHash" (49 : Nat) "PeeledHash$Peeler") ∈ gtbl := g_in1 (List.mem_of_getElem? (i := 181) rfl) rfl
theorem q1_222 : (Jvm.Cond.classLink "PeeledHash" (58 : Nat) "PeeledHash$Reader") ∈ gtbl := g_in1 (List.mem_of_getElem? (i := 222) rfl) rfl
theorem q1_228 : (Jvm.Cond.classLink "PeeledHash$Reader" (15 : Nat) "PeeledHash$Text") ∈ gtbl := g_in1 (List.mem_of_getElem? (i := 228) rfl) rfl
theorem q2_88 : (Jvm.Cond.classLink "PeeledHash" (65 : Nat) "PeeledHash$Text") ∈ gtbl := g_in2 (List.mem_of_getElem? (i := 88) rfl) rfl
theorem q2_181 : (Jvm.Cond.constant "PeeledHash$Sums" (46 : Nat) (-2147483648 : Int32)) ∈ gtbl := g_in2 (List.mem_of_getElem? (i := 181) rfl) rfl
theorem q2_185 : (Jvm.Cond.constantLong "PeeledHash$Sums" (66 : Nat) (1000000000 : Int64)) ∈ gtbl := g_in2 (List.mem_of_getElem? (i := 185) rfl) rfl
theorem q2_186 : (Jvm.Cond.constantLong "PeeledHash$Sums" (68 : Nat) (-1000000000 : Int64)) ∈ gtbl := g_in2 (List.mem_of_getElem? (i := 186) rfl) rfl
theorem q3_176 : (Jvm.Cond.classLink "PeeledHash$Text" (16 : Nat) "PeeledHash$Text") ∈ gtbl := g_in3 (List.mem_of_getElem? (i := 176) rfl) rfl
theorem q3_218 : (Jvm.Cond.constant "PeeledHash" (204 : Nat) (-2147483648 : Int32)) ∈ gtbl := g_in3 (List.mem_of_getElem? (i := 218) rfl) rfl
theorem q4_186 : (Jvm.Cond.constantLong "PeeledHash" (307 : Nat) (-1 : Int64)) ∈ gtbl := g_in4 (List.mem_of_getElem? (i := 186) rfl) rfl
theorem q4_190 : (Jvm.Cond.constantLong "PeeledHash" (312 : Nat) (1000000000000 : Int64)) ∈ gtbl := g_in4 (List.mem_of_getElem? (i := 190) rfl) rfl
theorem q4_191 : (Jvm.Cond.constantLong "PeeledHash" (314 : Nat) (10 : Int64)) ∈ gtbl := g_in4 (List.mem_of_getElem? (i := 191) rfl) rfl
theorem q4_200 : (Jvm.Cond.constant "PeeledHash" (320 : Nat) (1000000 : Int32)) ∈ gtbl := g_in4 (List.mem_of_getElem? (i := 200) rfl) rfl
theorem q4_204 : (Jvm.Cond.constantLong "PeeledHash" (400 : Nat) (1103 : Int64)) ∈ gtbl := g_in4 (List.mem_of_getElem? (i := 204) rfl) rfl
theorem q4_205 : (Jvm.Cond.constantLong "PeeledHash" (402 : Nat) (12345 : Int64)) ∈ gtbl := g_in4 (List.mem_of_getElem? (i := 205) rfl) rfl
theorem q4_206 : (Jvm.Cond.constantLong "PeeledHash" (404 : Nat) (1000003 : Int64)) ∈ gtbl := g_in4 (List.mem_of_getElem? (i := 206) rfl) rfl
theorem q4_236 : (Jvm.Cond.classLink "PeeledHashLaw" (10 : Nat) "PeeledHashModel") ∈ gtbl := g_in4 (List.mem_of_getElem? (i := 236) rfl) rfl
theorem q6_36 : (Jvm.Cond.constantLong "PeeledHashModel" (275 : Nat) (1000000000 : Int64)) ∈ gtbl := g_in6 (List.mem_of_getElem? (i := 36) rfl) rfl
theorem q6_37 : (Jvm.Cond.constantLong "PeeledHashModel" (277 : Nat) (-1000000000 : Int64)) ∈ gtbl := g_in6 (List.mem_of_getElem? (i := 37) rfl) rfl
theorem q6_54 : (Jvm.Cond.constantLong "PeeledHashModel" (326 : Nat) (99 : Int64)) ∈ gtbl := g_in6 (List.mem_of_getElem? (i := 54) rfl) rfl
theorem q6_128 : (Jvm.Cond.constant "PeeledHashModel" (178 : Nat) (1000000 : Int32)) ∈ gtbl := g_in6 (List.mem_of_getElem? (i := 128) rfl) rfl
theorem q7_140 : (Jvm.Cond.constantLong "PeeledHashModel" (434 : Nat) (-1 : Int64)) ∈ gtbl := g_in7 (List.mem_of_getElem? (i := 140) rfl) rfl
theorem q7_141 : (Jvm.Cond.constantLong "PeeledHashModel" (436 : Nat) (1000000000000 : Int64)) ∈ gtbl := g_in7 (List.mem_of_getElem? (i := 141) rfl) rfl
theorem q7_142 : (Jvm.Cond.constantLong "PeeledHashModel" (438 : Nat) (10 : Int64)) ∈ gtbl := g_in7 (List.mem_of_getElem? (i := 142) rfl) rfl
theorem q7_170 : (Jvm.Cond.constantLong "PeeledHashModel" (461 : Nat) (1000000 : Int64)) ∈ gtbl := g_in7 (List.mem_of_getElem? (i := 170) rfl) rfl
theorem q7_187 : (Jvm.Cond.constantLong "PeeledHashModel" (474 : Nat) (1103 : Int64)) ∈ gtbl := g_in7 (List.mem_of_getElem? (i := 187) rfl) rfl
theorem q7_188 : (Jvm.Cond.constantLong "PeeledHashModel" (479 : Nat) (12345 : Int64)) ∈ gtbl := g_in7 (List.mem_of_getElem? (i := 188) rfl) rfl
theorem q7_189 : (Jvm.Cond.constantLong "PeeledHashModel" (481 : Nat) (1000003 : Int64)) ∈ gtbl := g_in7 (List.mem_of_getElem? (i := 189) rfl) rfl
theorem q1_143 : (Jvm.Cond.instantiable "PeeledHash$History" (4 : Nat)) ∈ gtbl := g_in1 (List.mem_of_getElem? (i := 143) rfl) rfl
theorem q1_182 : (Jvm.Cond.instantiable "PeeledHash$Peeler" (9 : Nat)) ∈ gtbl := g_in1 (List.mem_of_getElem? (i := 182) rfl) rfl
theorem q1_223 : (Jvm.Cond.instantiable "PeeledHash$Reader" (13 : Nat)) ∈ gtbl := g_in1 (List.mem_of_getElem? (i := 223) rfl) rfl
theorem q1_33 : (Jvm.Cond.instantiable "PeeledHash$State" (6 : Nat)) ∈ gtbl := g_in1 (List.mem_of_getElem? (i := 33) rfl) rfl
theorem q1_168 : (Jvm.Cond.instantiable "PeeledHash$Sums" (2 : Nat)) ∈ gtbl := g_in1 (List.mem_of_getElem? (i := 168) rfl) rfl
theorem q1_39 : (Jvm.Cond.instantiable "PeeledHash$Table" (7 : Nat)) ∈ gtbl := g_in1 (List.mem_of_getElem? (i := 39) rfl) rfl
theorem q1_229 : (Jvm.Cond.instantiable "PeeledHash$Text" (8 : Nat)) ∈ gtbl := g_in1 (List.mem_of_getElem? (i := 229) rfl) rfl
theorem q1_27 : (Jvm.Cond.instantiable "PeeledHash$Whole" (8 : Nat)) ∈ gtbl := g_in1 (List.mem_of_getElem? (i := 27) rfl) rfl
theorem q1_19 : (Jvm.Cond.instantiable "PeeledHash" (17 : Nat)) ∈ gtbl := g_in1 (List.mem_of_getElem? (i := 19) rfl) rfl
theorem q4_237 : (Jvm.Cond.instantiable "PeeledHashModel" (50 : Nat)) ∈ gtbl := g_in4 (List.mem_of_getElem? (i := 237) rfl) rfl
theorem q1_71 : (Jvm.Cond.arrayClass Jvm.ClassFile.FieldType.int) ∈ gtbl := g_in1 (List.mem_of_getElem? (i := 71) rfl) rfl
theorem q3_181 : (Jvm.Cond.arrayClass Jvm.ClassFile.FieldType.byte) ∈ gtbl := g_in3 (List.mem_of_getElem? (i := 181) rfl) rfl
theorem q2_87 : (Jvm.Cond.arrayClass Jvm.ClassFile.FieldType.boolean) ∈ gtbl := g_in2 (List.mem_of_getElem? (i := 87) rfl) rfl
theorem q2_145 : (Jvm.Cond.arrayClass Jvm.ClassFile.FieldType.long) ∈ gtbl := g_in2 (List.mem_of_getElem? (i := 145) rfl) rfl
theorem q1_24 : (Jvm.Cond.instanceMethod ({ cls := "java/lang/Object", name := "<init>", desc := "()V" } : Jvm.MethodName)) ∈ gtbl := g_in1 (List.mem_of_getElem? (i := 24) rfl) rfl
theorem q1_25 : (Jvm.Cond.code ({ cls := "java/lang/Object", name := "<init>", desc := "()V" } : Jvm.MethodName) object_method_1_code (1 : Nat) (Option.none : Option Jvm.ClassFile.FieldType)) ∈ gtbl := g_in1 (List.mem_of_getElem? (i := 25) rfl) rfl
theorem q3_179 : (Jvm.Cond.static ({ cls := "java/lang/System", name := "arraycopy", desc := "(Ljava/lang/Object;ILjava/lang/Object;II)V" } : Jvm.MethodName)) ∈ gtbl := g_in3 (List.mem_of_getElem? (i := 179) rfl) rfl
theorem q3_180 : (Jvm.Cond.native ({ cls := "java/lang/System", name := "arraycopy", desc := "(Ljava/lang/Object;ILjava/lang/Object;II)V" } : Jvm.MethodName)) ∈ gtbl := g_in3 (List.mem_of_getElem? (i := 180) rfl) rfl
theorem q1_17 : (Jvm.Cond.initialized "java/lang/System") ∈ gtbl := g_in1 (List.mem_of_getElem? (i := 17) rfl) rfl
