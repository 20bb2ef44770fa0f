theorem s_nmI {ρ : Type} {em : ρ → Option Value} {K : xK} {h0 h : xH} {pc : Nat} {L : List (Nat × Value)} {st : List Value} {e : Int32} {B : Int32 → Option (ρ × xH)} (k : ∀ v, S em K h0 pc L (.int v :: st) h (B v)) : S em K h0 pc L (.int e :: st) h (lt e B) := k e
theorem s_nmJ {ρ : Type} {em : ρ → Option Value} {K : xK} {h0 h : xH} {pc : Nat} {L : List (Nat × Value)} {st : List Value} {e : Int64} {B : Int64 → Option (ρ × xH)} (k : ∀ v, S em K h0 pc L (.long v :: st) h (B v)) : S em K h0 pc L (.long e :: st) h (lt e B) := k e
theorem s_nmF {ρ : Type} {em : ρ → Option Value} {K : xK} {h0 h : xH} {pc : Nat} {L : List (Nat × Value)} {st : List Value} {e : UInt32} {B : UInt32 → Option (ρ × xH)} (k : ∀ v, S em K h0 pc L (.float v :: st) h (B v)) : S em K h0 pc L (.float e :: st) h (lt e B) := k e
theorem s_nmA {ρ : Type} {em : ρ → Option Value} {K : xK} {h0 h : xH} {pc : Nat} {L : List (Nat × Value)} {st : List Value} {e : Nat} {B : Nat → Option (ρ × xH)} (k : ∀ v, S em K h0 pc L (.ref v :: st) h (B v)) : S em K h0 pc L (.ref e :: st) h (lt e B) := k e
theorem s_nmH {ρ : Type} {em : ρ → Option Value} {K : xK} {h0 h : xH} {pc : Nat} {L : List (Nat × Value)} {st : List Value} {o : xH} {B : xH → Option (ρ × xH)} (e : h.1 = o.1) (k : ∀ g, Le o g → S em K h0 pc L st g (B g)) : S em K h0 pc L st h (lt h B) := k h (kpe e)
theorem kc_new (h : xH) (c n : Nat) : kc (hnew h c n) (hnx h) = c := by simp [kc, xkd, hnew, hnx]
theorem k2r {h : xH} {r c : Nat} (hk : kc h r = c) (hc : c < 99) : 2 ≤ r := by obtain ⟨i, rfl, -⟩ := kd_get hc hk; omega
theorem s_nmN {ρ : Type} {em : ρ → Option Value} {K : xK} {h0 h : xH} {pc : Nat} {L : List (Nat × Value)} {st : List Value} {c n : Nat} {B : Nat → xH → Option (ρ × xH)} (k : ∀ q g, kc g q = c → Le h g → S em K h0 pc L (.ref q :: st) g (B q g)) : S em K h0 pc L (.ref (hnx h) :: st) (hnew h c n) (lt (hnx h) (fun q => lt (hnew h c n) (fun g => B q g))) := k _ _ (kc_new h c n) ⟨[(c, n)], rfl⟩
theorem s_nmI0 {ρ : Type} {em : ρ → Option Value} {K : xK} {h0 h : xH} {pc : Nat} {st : List Value} (L : Int32 → List (Nat × Value)) {e : Int32} {B : Int32 → Option (ρ × xH)} (k : ∀ v, S em K h0 pc (L v) st h (B v)) : S em K h0 pc (L e) st h (lt e B) := k e
def FU : Nat := 100000
theorem ws_of {C : String} {T : u_T} {N : Nat} (ps : List Nat) (hp : (u_ws C T N).map some = ps.map (fun i => tables_1[i]?)) (hg : (u_ws C T N).all goodWord = true) : ∀ w ∈ u_ws C T N, w ∈ lw_gd := by
  intro w hw
  have h1 : some w ∈ (u_ws C T N).map some := List.mem_map.mpr ⟨w, hw, rfl⟩
  rw [hp] at h1
  obtain ⟨i, -, hi⟩ := List.mem_map.mp h1
  exact gd_of i hi (List.all_eq_true.mp hg w hw)
theorem ws_0 : ∀ w ∈ u_ws RX0 TX0 6, w ∈ lw_gd := ws_of [77, 79, 81, 83, 85, 87] (by decide +kernel) (by decide +kernel)
theorem dv_0 : ∀ k, k < nf 0 → defaultValue (tyA 0 k) = (if ftc 0 k = 0 then Value.int 0 else if ftc 0 k = 1 then .long 0 else .null) := by decide +kernel
theorem fw_0_0 (own nm : String) : FW 0 own nm 0 := fun C T N e => by cases (Option.some.inj e : (RX0, TX0, 6) = (C, T, N)); exact Or.inl rfl
theorem fw_0_1 (own nm : String) : FW 0 own nm 1 := fun C T N e => by cases (Option.some.inj e : (RX0, TX0, 6) = (C, T, N)); exact Or.inl rfl
theorem fw_0_2 (own nm : String) : FW 0 own nm 2 := fun C T N e => by cases (Option.some.inj e : (RX0, TX0, 6) = (C, T, N)); exact Or.inl rfl
theorem fwF_0_3 : FW 0 RX0 "<init>" 3 := fun C T N e => by cases (Option.some.inj e : (RX0, TX0, 6) = (C, T, N)); exact Or.inr ⟨rfl, rfl, rfl⟩
theorem fwF_0_4 : FW 0 RX0 "<init>" 4 := fun C T N e => by cases (Option.some.inj e : (RX0, TX0, 6) = (C, T, N)); exact Or.inr ⟨rfl, rfl, rfl⟩
theorem fwF_0_5 : FW 0 RX0 "<init>" 5 := fun C T N e => by cases (Option.some.inj e : (RX0, TX0, 6) = (C, T, N)); exact Or.inr ⟨rfl, rfl, rfl⟩
theorem ws_1 : ∀ w ∈ u_ws RX1 TX1 10, w ∈ lw_gd := ws_of [152, 154, 156, 158, 160, 162, 164, 166, 168, 170] (by decide +kernel) (by decide +kernel)
theorem dv_1 : ∀ k, k < nf 1 → defaultValue (tyA 1 k) = (if ftc 1 k = 0 then Value.int 0 else if ftc 1 k = 1 then .long 0 else .null) := by decide +kernel
theorem fw_1_0 (own nm : String) : FW 1 own nm 0 := fun C T N e => by cases (Option.some.inj e : (RX1, TX1, 10) = (C, T, N)); exact Or.inl rfl
theorem fwF_1_1 : FW 1 RX1 "<init>" 1 := fun C T N e => by cases (Option.some.inj e : (RX1, TX1, 10) = (C, T, N)); exact Or.inr ⟨rfl, rfl, rfl⟩
theorem fwF_1_2 : FW 1 RX1 "<init>" 2 := fun C T N e => by cases (Option.some.inj e : (RX1, TX1, 10) = (C, T, N)); exact Or.inr ⟨rfl, rfl, rfl⟩
theorem fwF_1_3 : FW 1 RX1 "<init>" 3 := fun C T N e => by cases (Option.some.inj e : (RX1, TX1, 10) = (C, T, N)); exact Or.inr ⟨rfl, rfl, rfl⟩
theorem fwF_1_4 : FW 1 RX1 "<init>" 4 := fun C T N e => by cases (Option.some.inj e : (RX1, TX1, 10) = (C, T, N)); exact Or.inr ⟨rfl, rfl, rfl⟩
theorem fwF_1_5 : FW 1 RX1 "<init>" 5 := fun C T N e => by cases (Option.some.inj e : (RX1, TX1, 10) = (C, T, N)); exact Or.inr ⟨rfl, rfl, rfl⟩
theorem fwF_1_6 : FW 1 RX1 "<init>" 6 := fun C T N e => by cases (Option.some.inj e : (RX1, TX1, 10) = (C, T, N)); exact Or.inr ⟨rfl, rfl, rfl⟩
theorem fw_1_7 (own nm : String) : FW 1 own nm 7 := fun C T N e => by cases (Option.some.inj e : (RX1, TX1, 10) = (C, T, N)); exact Or.inl rfl
theorem fw_1_8 (own nm : String) : FW 1 own nm 8 := fun C T N e => by cases (Option.some.inj e : (RX1, TX1, 10) = (C, T, N)); exact Or.inl rfl
theorem fw_1_9 (own nm : String) : FW 1 own nm 9 := fun C T N e => by cases (Option.some.inj e : (RX1, TX1, 10) = (C, T, N)); exact Or.inl rfl
theorem ws_2 : ∀ w ∈ u_ws RX2 TX2 3, w ∈ lw_gd := ws_of [189, 191, 193] (by decide +kernel) (by decide +kernel)
theorem dv_2 : ∀ k, k < nf 2 → defaultValue (tyA 2 k) = (if ftc 2 k = 0 then Value.int 0 else if ftc 2 k = 1 then .long 0 else .null) := by decide +kernel
theorem fw_2_0 (own nm : String) : FW 2 own nm 0 := fun C T N e => by cases (Option.some.inj e : (RX2, TX2, 3) = (C, T, N)); exact Or.inl rfl
theorem fw_2_1 (own nm : String) : FW 2 own nm 1 := fun C T N e => by cases (Option.some.inj e : (RX2, TX2, 3) = (C, T, N)); exact Or.inl rfl
theorem fw_2_2 (own nm : String) : FW 2 own nm 2 := fun C T N e => by cases (Option.some.inj e : (RX2, TX2, 3) = (C, T, N)); exact Or.inl rfl
theorem ws_3 : ∀ w ∈ u_ws RX3 TX3 5, w ∈ lw_gd := ws_of [209, 211, 213, 215, 217] (by decide +kernel) (by decide +kernel)
theorem dv_3 : ∀ k, k < nf 3 → defaultValue (tyA 3 k) = (if ftc 3 k = 0 then Value.int 0 else if ftc 3 k = 1 then .long 0 else .null) := by decide +kernel
theorem fw_3_0 (own nm : String) : FW 3 own nm 0 := fun C T N e => by cases (Option.some.inj e : (RX3, TX3, 5) = (C, T, N)); exact Or.inl rfl
theorem fw_3_1 (own nm : String) : FW 3 own nm 1 := fun C T N e => by cases (Option.some.inj e : (RX3, TX3, 5) = (C, T, N)); exact Or.inl rfl
theorem fw_3_2 (own nm : String) : FW 3 own nm 2 := fun C T N e => by cases (Option.some.inj e : (RX3, TX3, 5) = (C, T, N)); exact Or.inl rfl
theorem fwF_3_3 : FW 3 RX3 "<init>" 3 := fun C T N e => by cases (Option.some.inj e : (RX3, TX3, 5) = (C, T, N)); exact Or.inr ⟨rfl, rfl, rfl⟩
theorem fwF_3_4 : FW 3 RX3 "<init>" 4 := fun C T N e => by cases (Option.some.inj e : (RX3, TX3, 5) = (C, T, N)); exact Or.inr ⟨rfl, rfl, rfl⟩
theorem ws_4 : ∀ w ∈ u_ws RX4 TX4 6, w ∈ lw_gd := ws_of [46, 48, 50, 52, 54, 56] (by decide +kernel) (by decide +kernel)
theorem dv_4 : ∀ k, k < nf 4 → defaultValue (tyA 4 k) = (if ftc 4 k = 0 then Value.int 0 else if ftc 4 k = 1 then .long 0 else .null) := by decide +kernel
theorem fw_4_0 (own nm : String) : FW 4 own nm 0 := fun C T N e => by cases (Option.some.inj e : (RX4, TX4, 6) = (C, T, N)); exact Or.inl rfl
theorem fw_4_1 (own nm : String) : FW 4 own nm 1 := fun C T N e => by cases (Option.some.inj e : (RX4, TX4, 6) = (C, T, N)); exact Or.inl rfl
theorem fw_4_2 (own nm : String) : FW 4 own nm 2 := fun C T N e => by cases (Option.some.inj e : (RX4, TX4, 6) = (C, T, N)); exact Or.inl rfl
theorem fw_4_3 (own nm : String) : FW 4 own nm 3 := fun C T N e => by cases (Option.some.inj e : (RX4, TX4, 6) = (C, T, N)); exact Or.inl rfl
theorem fw_4_4 (own nm : String) : FW 4 own nm 4 := fun C T N e => by cases (Option.some.inj e : (RX4, TX4, 6) = (C, T, N)); exact Or.inl rfl
theorem fw_4_5 (own nm : String) : FW 4 own nm 5 := fun C T N e => by cases (Option.some.inj e : (RX4, TX4, 6) = (C, T, N)); exact Or.inl rfl
theorem ws_5 : ∀ w ∈ u_ws RX5 TX5 11, w ∈ lw_gd := ws_of [109, 111, 113, 115, 117, 119, 121, 123, 125, 127, 129] (by decide +kernel) (by decide +kernel)
theorem dv_5 : ∀ k, k < nf 5 → defaultValue (tyA 5 k) = (if ftc 5 k = 0 then Value.int 0 else if ftc 5 k = 1 then .long 0 else .null) := by decide +kernel
theorem fw_5_0 (own nm : String) : FW 5 own nm 0 := fun C T N e => by cases (Option.some.inj e : (RX5, TX5, 11) = (C, T, N)); exact Or.inl rfl
theorem fw_5_1 (own nm : String) : FW 5 own nm 1 := fun C T N e => by cases (Option.some.inj e : (RX5, TX5, 11) = (C, T, N)); exact Or.inl rfl
theorem fwF_5_2 : FW 5 RX5 "<init>" 2 := fun C T N e => by cases (Option.some.inj e : (RX5, TX5, 11) = (C, T, N)); exact Or.inr ⟨rfl, rfl, rfl⟩
theorem fw_5_3 (own nm : String) : FW 5 own nm 3 := fun C T N e => by cases (Option.some.inj e : (RX5, TX5, 11) = (C, T, N)); exact Or.inl rfl
theorem fw_5_4 (own nm : String) : FW 5 own nm 4 := fun C T N e => by cases (Option.some.inj e : (RX5, TX5, 11) = (C, T, N)); exact Or.inl rfl
theorem fw_5_5 (own nm : String) : FW 5 own nm 5 := fun C T N e => by cases (Option.some.inj e : (RX5, TX5, 11) = (C, T, N)); exact Or.inl rfl
theorem fw_5_6 (own nm : String) : FW 5 own nm 6 := fun C T N e => by cases (Option.some.inj e : (RX5, TX5, 11) = (C, T, N)); exact Or.inl rfl
theorem fw_5_7 (own nm : String) : FW 5 own nm 7 := fun C T N e => by cases (Option.some.inj e : (RX5, TX5, 11) = (C, T, N)); exact Or.inl rfl
theorem fw_5_8 (own nm : String) : FW 5 own nm 8 := fun C T N e => by cases (Option.some.inj e : (RX5, TX5, 11) = (C, T, N)); exact Or.inl rfl
theorem fw_5_9 (own nm : String) : FW 5 own nm 9 := fun C T N e => by cases (Option.some.inj e : (RX5, TX5, 11) = (C, T, N)); exact Or.inl rfl
theorem fw_5_10 (own nm : String) : FW 5 own nm 10 := fun C T N e => by cases (Option.some.inj e : (RX5, TX5, 11) = (C, T, N)); exact Or.inl rfl
theorem ws_6 : ∀ w ∈ u_ws RX6 TX6 16, w ∈ lw_gd := ws_of [236, 238, 240, 242, 244, 246, 248, 250, 252, 254, 256, 258, 260, 262, 264, 266] (by decide +kernel) (by decide +kernel)
theorem dv_6 : ∀ k, k < nf 6 → defaultValue (tyA 6 k) = (if ftc 6 k = 0 then Value.int 0 else if ftc 6 k = 1 then .long 0 else .null) := by decide +kernel
theorem fwF_6_0 : FW 6 RX6 "<init>" 0 := fun C T N e => by cases (Option.some.inj e : (RX6, TX6, 16) = (C, T, N)); exact Or.inr ⟨rfl, rfl, rfl⟩
theorem fw_6_1 (own nm : String) : FW 6 own nm 1 := fun C T N e => by cases (Option.some.inj e : (RX6, TX6, 16) = (C, T, N)); exact Or.inl rfl
theorem fwF_6_2 : FW 6 RX6 "<init>" 2 := fun C T N e => by cases (Option.some.inj e : (RX6, TX6, 16) = (C, T, N)); exact Or.inr ⟨rfl, rfl, rfl⟩
theorem fwF_6_3 : FW 6 RX6 "<init>" 3 := fun C T N e => by cases (Option.some.inj e : (RX6, TX6, 16) = (C, T, N)); exact Or.inr ⟨rfl, rfl, rfl⟩
theorem fwF_6_4 : FW 6 RX6 "<init>" 4 := fun C T N e => by cases (Option.some.inj e : (RX6, TX6, 16) = (C, T, N)); exact Or.inr ⟨rfl, rfl, rfl⟩
theorem fwF_6_5 : FW 6 RX6 "<init>" 5 := fun C T N e => by cases (Option.some.inj e : (RX6, TX6, 16) = (C, T, N)); exact Or.inr ⟨rfl, rfl, rfl⟩
theorem fw_6_6 (own nm : String) : FW 6 own nm 6 := fun C T N e => by cases (Option.some.inj e : (RX6, TX6, 16) = (C, T, N)); exact Or.inl rfl
theorem fwF_6_7 : FW 6 RX6 "<init>" 7 := fun C T N e => by cases (Option.some.inj e : (RX6, TX6, 16) = (C, T, N)); exact Or.inr ⟨rfl, rfl, rfl⟩
theorem fwF_6_8 : FW 6 RX6 "<init>" 8 := fun C T N e => by cases (Option.some.inj e : (RX6, TX6, 16) = (C, T, N)); exact Or.inr ⟨rfl, rfl, rfl⟩
theorem fwF_6_9 : FW 6 RX6 "<init>" 9 := fun C T N e => by cases (Option.some.inj e : (RX6, TX6, 16) = (C, T, N)); exact Or.inr ⟨rfl, rfl, rfl⟩
theorem fwF_6_10 : FW 6 RX6 "<init>" 10 := fun C T N e => by cases (Option.some.inj e : (RX6, TX6, 16) = (C, T, N)); exact Or.inr ⟨rfl, rfl, rfl⟩
theorem fwF_6_11 : FW 6 RX6 "<init>" 11 := fun C T N e => by cases (Option.some.inj e : (RX6, TX6, 16) = (C, T, N)); exact Or.inr ⟨rfl, rfl, rfl⟩
theorem fwF_6_12 : FW 6 RX6 "<init>" 12 := fun C T N e => by cases (Option.some.inj e : (RX6, TX6, 16) = (C, T, N)); exact Or.inr ⟨rfl, rfl, rfl⟩
theorem fwF_6_13 : FW 6 RX6 "<init>" 13 := fun C T N e => by cases (Option.some.inj e : (RX6, TX6, 16) = (C, T, N)); exact Or.inr ⟨rfl, rfl, rfl⟩
theorem fw_6_14 (own nm : String) : FW 6 own nm 14 := fun C T N e => by cases (Option.some.inj e : (RX6, TX6, 16) = (C, T, N)); exact Or.inl rfl
theorem fwF_6_15 : FW 6 RX6 "<init>" 15 := fun C T N e => by cases (Option.some.inj e : (RX6, TX6, 16) = (C, T, N)); exact Or.inr ⟨rfl, rfl, rfl⟩
theorem ws_7 : ∀ w ∈ u_ws RX7 TX7 57, w ∈ lw_gd := ws_of [913, 915, 917, 919, 921, 923, 925, 927, 929, 931, 933, 935, 937, 939, 941, 943, 945, 947, 949, 951, 953, 955, 957, 959, 961, 963, 965, 967, 969, 971, 973, 975, 977, 979, 981, 983, 985, 987, 989, 991, 993, 995, 997, 999, 1001, 1003, 1005, 1007, 1009, 1011, 1013, 1015, 1017, 1019, 1021, 1023, 1025] (by decide +kernel) (by decide +kernel)
theorem dv_7 : ∀ k, k < nf 7 → defaultValue (tyA 7 k) = (if ftc 7 k = 0 then Value.int 0 else if ftc 7 k = 1 then .long 0 else .null) := by decide +kernel
theorem fw_7_0 (own nm : String) : FW 7 own nm 0 := fun C T N e => by cases (Option.some.inj e : (RX7, TX7, 57) = (C, T, N)); exact Or.inl rfl
theorem fw_7_1 (own nm : String) : FW 7 own nm 1 := fun C T N e => by cases (Option.some.inj e : (RX7, TX7, 57) = (C, T, N)); exact Or.inl rfl
theorem fwF_7_2 : FW 7 RX7 "<init>" 2 := fun C T N e => by cases (Option.some.inj e : (RX7, TX7, 57) = (C, T, N)); exact Or.inr ⟨rfl, rfl, rfl⟩
theorem fwF_7_3 : FW 7 RX7 "<init>" 3 := fun C T N e => by cases (Option.some.inj e : (RX7, TX7, 57) = (C, T, N)); exact Or.inr ⟨rfl, rfl, rfl⟩
theorem fw_7_4 (own nm : String) : FW 7 own nm 4 := fun C T N e => by cases (Option.some.inj e : (RX7, TX7, 57) = (C, T, N)); exact Or.inl rfl
theorem fwF_7_5 : FW 7 RX7 "<init>" 5 := fun C T N e => by cases (Option.some.inj e : (RX7, TX7, 57) = (C, T, N)); exact Or.inr ⟨rfl, rfl, rfl⟩
theorem fwF_7_6 : FW 7 RX7 "<init>" 6 := fun C T N e => by cases (Option.some.inj e : (RX7, TX7, 57) = (C, T, N)); exact Or.inr ⟨rfl, rfl, rfl⟩
theorem fwF_7_7 : FW 7 RX7 "<init>" 7 := fun C T N e => by cases (Option.some.inj e : (RX7, TX7, 57) = (C, T, N)); exact Or.inr ⟨rfl, rfl, rfl⟩
theorem fwF_7_8 : FW 7 RX7 "<init>" 8 := fun C T N e => by cases (Option.some.inj e : (RX7, TX7, 57) = (C, T, N)); exact Or.inr ⟨rfl, rfl, rfl⟩
theorem fwF_7_9 : FW 7 RX7 "<init>" 9 := fun C T N e => by cases (Option.some.inj e : (RX7, TX7, 57) = (C, T, N)); exact Or.inr ⟨rfl, rfl, rfl⟩
theorem fwF_7_10 : FW 7 RX7 "<init>" 10 := fun C T N e => by cases (Option.some.inj e : (RX7, TX7, 57) = (C, T, N)); exact Or.inr ⟨rfl, rfl, rfl⟩
theorem fwF_7_11 : FW 7 RX7 "<init>" 11 := fun C T N e => by cases (Option.some.inj e : (RX7, TX7, 57) = (C, T, N)); exact Or.inr ⟨rfl, rfl, rfl⟩
theorem fw_7_12 (own nm : String) : FW 7 own nm 12 := fun C T N e => by cases (Option.some.inj e : (RX7, TX7, 57) = (C, T, N)); exact Or.inl rfl
theorem fwF_7_13 : FW 7 RX7 "<init>" 13 := fun C T N e => by cases (Option.some.inj e : (RX7, TX7, 57) = (C, T, N)); exact Or.inr ⟨rfl, rfl, rfl⟩
theorem fwF_7_14 : FW 7 RX7 "<init>" 14 := fun C T N e => by cases (Option.some.inj e : (RX7, TX7, 57) = (C, T, N)); exact Or.inr ⟨rfl, rfl, rfl⟩
theorem fwF_7_15 : FW 7 RX7 "<init>" 15 := fun C T N e => by cases (Option.some.inj e : (RX7, TX7, 57) = (C, T, N)); exact Or.inr ⟨rfl, rfl, rfl⟩
theorem fwF_7_16 : FW 7 RX7 "<init>" 16 := fun C T N e => by cases (Option.some.inj e : (RX7, TX7, 57) = (C, T, N)); exact Or.inr ⟨rfl, rfl, rfl⟩
theorem fwF_7_17 : FW 7 RX7 "<init>" 17 := fun C T N e => by cases (Option.some.inj e : (RX7, TX7, 57) = (C, T, N)); exact Or.inr ⟨rfl, rfl, rfl⟩
theorem fw_7_18 (own nm : String) : FW 7 own nm 18 := fun C T N e => by cases (Option.some.inj e : (RX7, TX7, 57) = (C, T, N)); exact Or.inl rfl
theorem fw_7_19 (own nm : String) : FW 7 own nm 19 := fun C T N e => by cases (Option.some.inj e : (RX7, TX7, 57) = (C, T, N)); exact Or.inl rfl
theorem fwF_7_20 : FW 7 RX7 "<init>" 20 := fun C T N e => by cases (Option.some.inj e : (RX7, TX7, 57) = (C, T, N)); exact Or.inr ⟨rfl, rfl, rfl⟩
theorem fwF_7_21 : FW 7 RX7 "<init>" 21 := fun C T N e => by cases (Option.some.inj e : (RX7, TX7, 57) = (C, T, N)); exact Or.inr ⟨rfl, rfl, rfl⟩
theorem fwF_7_22 : FW 7 RX7 "<init>" 22 := fun C T N e => by cases (Option.some.inj e : (RX7, TX7, 57) = (C, T, N)); exact Or.inr ⟨rfl, rfl, rfl⟩
theorem fwF_7_23 : FW 7 RX7 "<init>" 23 := fun C T N e => by cases (Option.some.inj e : (RX7, TX7, 57) = (C, T, N)); exact Or.inr ⟨rfl, rfl, rfl⟩
theorem fwF_7_24 : FW 7 RX7 "<init>" 24 := fun C T N e => by cases (Option.some.inj e : (RX7, TX7, 57) = (C, T, N)); exact Or.inr ⟨rfl, rfl, rfl⟩
theorem fwF_7_25 : FW 7 RX7 "<init>" 25 := fun C T N e => by cases (Option.some.inj e : (RX7, TX7, 57) = (C, T, N)); exact Or.inr ⟨rfl, rfl, rfl⟩
theorem fw_7_26 (own nm : String) : FW 7 own nm 26 := fun C T N e => by cases (Option.some.inj e : (RX7, TX7, 57) = (C, T, N)); exact Or.inl rfl
theorem fw_7_27 (own nm : String) : FW 7 own nm 27 := fun C T N e => by cases (Option.some.inj e : (RX7, TX7, 57) = (C, T, N)); exact Or.inl rfl
theorem fwF_7_28 : FW 7 RX7 "<init>" 28 := fun C T N e => by cases (Option.some.inj e : (RX7, TX7, 57) = (C, T, N)); exact Or.inr ⟨rfl, rfl, rfl⟩
theorem fwF_7_29 : FW 7 RX7 "<init>" 29 := fun C T N e => by cases (Option.some.inj e : (RX7, TX7, 57) = (C, T, N)); exact Or.inr ⟨rfl, rfl, rfl⟩
theorem fw_7_30 (own nm : String) : FW 7 own nm 30 := fun C T N e => by cases (Option.some.inj e : (RX7, TX7, 57) = (C, T, N)); exact Or.inl rfl
theorem fw_7_31 (own nm : String) : FW 7 own nm 31 := fun C T N e => by cases (Option.some.inj e : (RX7, TX7, 57) = (C, T, N)); exact Or.inl rfl
theorem fwF_7_32 : FW 7 RX7 "<init>" 32 := fun C T N e => by cases (Option.some.inj e : (RX7, TX7, 57) = (C, T, N)); exact Or.inr ⟨rfl, rfl, rfl⟩
theorem fwF_7_33 : FW 7 RX7 "<init>" 33 := fun C T N e => by cases (Option.some.inj e : (RX7, TX7, 57) = (C, T, N)); exact Or.inr ⟨rfl, rfl, rfl⟩
theorem fwF_7_34 : FW 7 RX7 "<init>" 34 := fun C T N e => by cases (Option.some.inj e : (RX7, TX7, 57) = (C, T, N)); exact Or.inr ⟨rfl, rfl, rfl⟩
theorem fwF_7_35 : FW 7 RX7 "<init>" 35 := fun C T N e => by cases (Option.some.inj e : (RX7, TX7, 57) = (C, T, N)); exact Or.inr ⟨rfl, rfl, rfl⟩
theorem fw_7_36 (own nm : String) : FW 7 own nm 36 := fun C T N e => by cases (Option.some.inj e : (RX7, TX7, 57) = (C, T, N)); exact Or.inl rfl
theorem fw_7_37 (own nm : String) : FW 7 own nm 37 := fun C T N e => by cases (Option.some.inj e : (RX7, TX7, 57) = (C, T, N)); exact Or.inl rfl
theorem fw_7_38 (own nm : String) : FW 7 own nm 38 := fun C T N e => by cases (Option.some.inj e : (RX7, TX7, 57) = (C, T, N)); exact Or.inl rfl
theorem fw_7_39 (own nm : String) : FW 7 own nm 39 := fun C T N e => by cases (Option.some.inj e : (RX7, TX7, 57) = (C, T, N)); exact Or.inl rfl
theorem fw_7_40 (own nm : String) : FW 7 own nm 40 := fun C T N e => by cases (Option.some.inj e : (RX7, TX7, 57) = (C, T, N)); exact Or.inl rfl
theorem fwF_7_41 : FW 7 RX7 "<init>" 41 := fun C T N e => by cases (Option.some.inj e : (RX7, TX7, 57) = (C, T, N)); exact Or.inr ⟨rfl, rfl, rfl⟩
theorem fwF_7_42 : FW 7 RX7 "<init>" 42 := fun C T N e => by cases (Option.some.inj e : (RX7, TX7, 57) = (C, T, N)); exact Or.inr ⟨rfl, rfl, rfl⟩
theorem fwF_7_43 : FW 7 RX7 "<init>" 43 := fun C T N e => by cases (Option.some.inj e : (RX7, TX7, 57) = (C, T, N)); exact Or.inr ⟨rfl, rfl, rfl⟩
theorem fw_7_44 (own nm : String) : FW 7 own nm 44 := fun C T N e => by cases (Option.some.inj e : (RX7, TX7, 57) = (C, T, N)); exact Or.inl rfl
theorem fw_7_45 (own nm : String) : FW 7 own nm 45 := fun C T N e => by cases (Option.some.inj e : (RX7, TX7, 57) = (C, T, N)); exact Or.inl rfl
theorem fw_7_46 (own nm : String) : FW 7 own nm 46 := fun C T N e => by cases (Option.some.inj e : (RX7, TX7, 57) = (C, T, N)); exact Or.inl rfl
theorem fw_7_47 (own nm : String) : FW 7 own nm 47 := fun C T N e => by cases (Option.some.inj e : (RX7, TX7, 57) = (C, T, N)); exact Or.inl rfl
theorem fw_7_48 (own nm : String) : FW 7 own nm 48 := fun C T N e => by cases (Option.some.inj e : (RX7, TX7, 57) = (C, T, N)); exact Or.inl rfl
theorem fw_7_49 (own nm : String) : FW 7 own nm 49 := fun C T N e => by cases (Option.some.inj e : (RX7, TX7, 57) = (C, T, N)); exact Or.inl rfl
theorem fw_7_50 (own nm : String) : FW 7 own nm 50 := fun C T N e => by cases (Option.some.inj e : (RX7, TX7, 57) = (C, T, N)); exact Or.inl rfl
theorem fw_7_51 (own nm : String) : FW 7 own nm 51 := fun C T N e => by cases (Option.some.inj e : (RX7, TX7, 57) = (C, T, N)); exact Or.inl rfl
theorem fw_7_52 (own nm : String) : FW 7 own nm 52 := fun C T N e => by cases (Option.some.inj e : (RX7, TX7, 57) = (C, T, N)); exact Or.inl rfl
theorem fw_7_53 (own nm : String) : FW 7 own nm 53 := fun C T N e => by cases (Option.some.inj e : (RX7, TX7, 57) = (C, T, N)); exact Or.inl rfl
theorem fw_7_54 (own nm : String) : FW 7 own nm 54 := fun C T N e => by cases (Option.some.inj e : (RX7, TX7, 57) = (C, T, N)); exact Or.inl rfl
theorem fw_7_55 (own nm : String) : FW 7 own nm 55 := fun C T N e => by cases (Option.some.inj e : (RX7, TX7, 57) = (C, T, N)); exact Or.inl rfl
theorem fw_7_56 (own nm : String) : FW 7 own nm 56 := fun C T N e => by cases (Option.some.inj e : (RX7, TX7, 57) = (C, T, N)); exact Or.inl rfl
theorem oi_1 : Cond.instanceMethod objectInit ∈ lw_gd := gd_of 21 (by decide +kernel) rfl
theorem oi_2 : Cond.code objectInit ⟨#[0xb1]⟩ 1 none ∈ lw_gd := gd_of 22 (by decide +kernel) rfl
theorem fb_1 : Cond.native ⟨"java/lang/Float", "floatToRawIntBits", "(F)I"⟩ ∈ lw_gd := gd_of 1328 (by decide +kernel) rfl
theorem fb_2 : Cond.static ⟨"java/lang/Float", "floatToRawIntBits", "(F)I"⟩ ∈ lw_gd := gd_of 1327 (by decide +kernel) rfl
theorem fb_3 : Cond.initialized "java/lang/Float" ∈ lw_gd := gd_of 14 (by decide +kernel) rfl
theorem ac_1 : Cond.native arraycopyName ∈ lw_gd := gd_of 420 (by decide +kernel) rfl
theorem ac_2 : Cond.static arraycopyName ∈ lw_gd := gd_of 419 (by decide +kernel) rfl
theorem ac_3 : Cond.initialized "java/lang/System" ∈ lw_gd := gd_of 13 (by decide +kernel) rfl
theorem ft_X6_15 : FT 6 RX6 15 0 := ⟨by decide, RX6, TX6, 16, rfl, rfl, tyX6_ok, nmX6, ws_6, by decide, gd_of 220 (by decide +kernel) rfl⟩
theorem ft_X6_20 : FT 6 RX6 20 1 := ⟨by decide, RX6, TX6, 16, rfl, rfl, tyX6_ok, nmX6, ws_6, by decide, gd_of 221 (by decide +kernel) rfl⟩
theorem ft_X6_27 : FT 6 RX6 27 2 := ⟨by decide, RX6, TX6, 16, rfl, rfl, tyX6_ok, nmX6, ws_6, by decide, gd_of 222 (by decide +kernel) rfl⟩
theorem ft_X6_31 : FT 6 RX6 31 3 := ⟨by decide, RX6, TX6, 16, rfl, rfl, tyX6_ok, nmX6, ws_6, by decide, gd_of 223 (by decide +kernel) rfl⟩
theorem ft_X6_34 : FT 6 RX6 34 4 := ⟨by decide, RX6, TX6, 16, rfl, rfl, tyX6_ok, nmX6, ws_6, by decide, gd_of 224 (by decide +kernel) rfl⟩
theorem ft_X6_41 : FT 6 RX6 41 5 := ⟨by decide, RX6, TX6, 16, rfl, rfl, tyX6_ok, nmX6, ws_6, by decide, gd_of 225 (by decide +kernel) rfl⟩
theorem ft_X6_45 : FT 6 RX6 45 6 := ⟨by decide, RX6, TX6, 16, rfl, rfl, tyX6_ok, nmX6, ws_6, by decide, gd_of 226 (by decide +kernel) rfl⟩
theorem ft_X6_49 : FT 6 RX6 49 7 := ⟨by decide, RX6, TX6, 16, rfl, rfl, tyX6_ok, nmX6, ws_6, by decide, gd_of 227 (by decide +kernel) rfl⟩
theorem ft_X6_58 : FT 6 RX6 58 8 := ⟨by decide, RX6, TX6, 16, rfl, rfl, tyX6_ok, nmX6, ws_6, by decide, gd_of 228 (by decide +kernel) rfl⟩
theorem ft_X6_62 : FT 6 RX6 62 9 := ⟨by decide, RX6, TX6, 16, rfl, rfl, tyX6_ok, nmX6, ws_6, by decide, gd_of 229 (by decide +kernel) rfl⟩
theorem ft_X6_65 : FT 6 RX6 65 10 := ⟨by decide, RX6, TX6, 16, rfl, rfl, tyX6_ok, nmX6, ws_6, by decide, gd_of 230 (by decide +kernel) rfl⟩
theorem ft_X6_71 : FT 6 RX6 71 11 := ⟨by decide, RX6, TX6, 16, rfl, rfl, tyX6_ok, nmX6, ws_6, by decide, gd_of 231 (by decide +kernel) rfl⟩
theorem ft_X6_75 : FT 6 RX6 75 12 := ⟨by decide, RX6, TX6, 16, rfl, rfl, tyX6_ok, nmX6, ws_6, by decide, gd_of 232 (by decide +kernel) rfl⟩
theorem ft_X6_78 : FT 6 RX6 78 13 := ⟨by decide, RX6, TX6, 16, rfl, rfl, tyX6_ok, nmX6, ws_6, by decide, gd_of 233 (by decide +kernel) rfl⟩
theorem ft_X6_81 : FT 6 RX6 81 14 := ⟨by decide, RX6, TX6, 16, rfl, rfl, tyX6_ok, nmX6, ws_6, by decide, gd_of 234 (by decide +kernel) rfl⟩
theorem ft_X6_87 : FT 6 RX6 87 15 := ⟨by decide, RX6, TX6, 16, rfl, rfl, tyX6_ok, nmX6, ws_6, by decide, gd_of 235 (by decide +kernel) rfl⟩
theorem ft_X6_91 : FT 5 RX6 91 0 := ⟨by decide, RX5, TX5, 11, rfl, rfl, tyX5_ok, nmX5, ws_5, by decide, gd_of 97 (by decide +kernel) rfl⟩
theorem ft_X6_120 : FT 5 RX6 120 1 := ⟨by decide, RX5, TX5, 11, rfl, rfl, tyX5_ok, nmX5, ws_5, by decide, gd_of 99 (by decide +kernel) rfl⟩
theorem ft_X6_134 : FT 4 RX6 134 0 := ⟨by decide, RX4, TX4, 6, rfl, rfl, tyX4_ok, nmX4, ws_4, by decide, gd_of 33 (by decide +kernel) rfl⟩
theorem ft_X6_148 : FT 1 RX6 148 0 := ⟨by decide, RX1, TX1, 10, rfl, rfl, tyX1_ok, nmX1, ws_1, by decide, gd_of 142 (by decide +kernel) rfl⟩
theorem ft_X6_191 : FT 0 RX6 191 0 := ⟨by decide, RX0, TX0, 6, rfl, rfl, tyX0_ok, nmX0, ws_0, by decide, gd_of 70 (by decide +kernel) rfl⟩
theorem ft_X6_200 : FT 0 RX6 200 1 := ⟨by decide, RX0, TX0, 6, rfl, rfl, tyX0_ok, nmX0, ws_0, by decide, gd_of 72 (by decide +kernel) rfl⟩
theorem ft_X6_214 : FT 4 RX6 214 1 := ⟨by decide, RX4, TX4, 6, rfl, rfl, tyX4_ok, nmX4, ws_4, by decide, gd_of 36 (by decide +kernel) rfl⟩
theorem ft_X6_218 : FT 4 RX6 218 2 := ⟨by decide, RX4, TX4, 6, rfl, rfl, tyX4_ok, nmX4, ws_4, by decide, gd_of 38 (by decide +kernel) rfl⟩
theorem ft_X6_229 : FT 4 RX6 229 3 := ⟨by decide, RX4, TX4, 6, rfl, rfl, tyX4_ok, nmX4, ws_4, by decide, gd_of 41 (by decide +kernel) rfl⟩
theorem ft_X6_232 : FT 4 RX6 232 4 := ⟨by decide, RX4, TX4, 6, rfl, rfl, tyX4_ok, nmX4, ws_4, by decide, gd_of 43 (by decide +kernel) rfl⟩
theorem ft_X6_235 : FT 4 RX6 235 5 := ⟨by decide, RX4, TX4, 6, rfl, rfl, tyX4_ok, nmX4, ws_4, by decide, gd_of 45 (by decide +kernel) rfl⟩
theorem ft_X6_252 : FT 2 RX6 252 0 := ⟨by decide, RX2, TX2, 3, rfl, rfl, tyX2_ok, nmX2, ws_2, by decide, gd_of 182 (by decide +kernel) rfl⟩
theorem ft_X6_256 : FT 2 RX6 256 1 := ⟨by decide, RX2, TX2, 3, rfl, rfl, tyX2_ok, nmX2, ws_2, by decide, gd_of 185 (by decide +kernel) rfl⟩
theorem ft_X6_260 : FT 2 RX6 260 2 := ⟨by decide, RX2, TX2, 3, rfl, rfl, tyX2_ok, nmX2, ws_2, by decide, gd_of 188 (by decide +kernel) rfl⟩
theorem ft_X0_9 : FT 0 RX0 9 0 := ⟨by decide, RX0, TX0, 6, rfl, rfl, tyX0_ok, nmX0, ws_0, by decide, gd_of 69 (by decide +kernel) rfl⟩
theorem ft_X0_15 : FT 0 RX0 15 1 := ⟨by decide, RX0, TX0, 6, rfl, rfl, tyX0_ok, nmX0, ws_0, by decide, gd_of 71 (by decide +kernel) rfl⟩
theorem ft_X0_18 : FT 0 RX0 18 2 := ⟨by decide, RX0, TX0, 6, rfl, rfl, tyX0_ok, nmX0, ws_0, by decide, gd_of 73 (by decide +kernel) rfl⟩
theorem ft_X0_21 : FT 0 RX0 21 3 := ⟨by decide, RX0, TX0, 6, rfl, rfl, tyX0_ok, nmX0, ws_0, by decide, gd_of 74 (by decide +kernel) rfl⟩
theorem ft_X0_25 : FT 0 RX0 25 4 := ⟨by decide, RX0, TX0, 6, rfl, rfl, tyX0_ok, nmX0, ws_0, by decide, gd_of 75 (by decide +kernel) rfl⟩
theorem ft_X0_30 : FT 0 RX0 30 5 := ⟨by decide, RX0, TX0, 6, rfl, rfl, tyX0_ok, nmX0, ws_0, by decide, gd_of 76 (by decide +kernel) rfl⟩
theorem ft_X1_9 : FT 1 RX1 9 0 := ⟨by decide, RX1, TX1, 10, rfl, rfl, tyX1_ok, nmX1, ws_1, by decide, gd_of 141 (by decide +kernel) rfl⟩
theorem ft_X1_15 : FT 1 RX1 15 7 := ⟨by decide, RX1, TX1, 10, rfl, rfl, tyX1_ok, nmX1, ws_1, by decide, gd_of 149 (by decide +kernel) rfl⟩
theorem ft_X1_18 : FT 1 RX1 18 8 := ⟨by decide, RX1, TX1, 10, rfl, rfl, tyX1_ok, nmX1, ws_1, by decide, gd_of 150 (by decide +kernel) rfl⟩
theorem ft_X1_22 : FT 1 RX1 22 9 := ⟨by decide, RX1, TX1, 10, rfl, rfl, tyX1_ok, nmX1, ws_1, by decide, gd_of 151 (by decide +kernel) rfl⟩
theorem ft_X1_25 : FT 1 RX1 25 1 := ⟨by decide, RX1, TX1, 10, rfl, rfl, tyX1_ok, nmX1, ws_1, by decide, gd_of 143 (by decide +kernel) rfl⟩
theorem ft_X1_29 : FT 1 RX1 29 2 := ⟨by decide, RX1, TX1, 10, rfl, rfl, tyX1_ok, nmX1, ws_1, by decide, gd_of 144 (by decide +kernel) rfl⟩
theorem ft_X1_32 : FT 1 RX1 32 3 := ⟨by decide, RX1, TX1, 10, rfl, rfl, tyX1_ok, nmX1, ws_1, by decide, gd_of 145 (by decide +kernel) rfl⟩
theorem ft_X1_36 : FT 1 RX1 36 4 := ⟨by decide, RX1, TX1, 10, rfl, rfl, tyX1_ok, nmX1, ws_1, by decide, gd_of 146 (by decide +kernel) rfl⟩
theorem ft_X1_39 : FT 1 RX1 39 5 := ⟨by decide, RX1, TX1, 10, rfl, rfl, tyX1_ok, nmX1, ws_1, by decide, gd_of 147 (by decide +kernel) rfl⟩
theorem ft_X1_42 : FT 1 RX1 42 6 := ⟨by decide, RX1, TX1, 10, rfl, rfl, tyX1_ok, nmX1, ws_1, by decide, gd_of 148 (by decide +kernel) rfl⟩
theorem ft_X1_49 : FT 4 RX1 49 0 := ⟨by decide, RX4, TX4, 6, rfl, rfl, tyX4_ok, nmX4, ws_4, by decide, gd_of 32 (by decide +kernel) rfl⟩
theorem ft_X1_58 : FT 4 RX1 58 1 := ⟨by decide, RX4, TX4, 6, rfl, rfl, tyX4_ok, nmX4, ws_4, by decide, gd_of 35 (by decide +kernel) rfl⟩
theorem ft_X1_61 : FT 4 RX1 61 3 := ⟨by decide, RX4, TX4, 6, rfl, rfl, tyX4_ok, nmX4, ws_4, by decide, gd_of 40 (by decide +kernel) rfl⟩
theorem ft_X2_7 : FT 2 RX2 7 0 := ⟨by decide, RX2, TX2, 3, rfl, rfl, tyX2_ok, nmX2, ws_2, by decide, gd_of 179 (by decide +kernel) rfl⟩
theorem ft_X2_13 : FT 2 RX2 13 1 := ⟨by decide, RX2, TX2, 3, rfl, rfl, tyX2_ok, nmX2, ws_2, by decide, gd_of 183 (by decide +kernel) rfl⟩
theorem ft_X2_17 : FT 2 RX2 17 2 := ⟨by decide, RX2, TX2, 3, rfl, rfl, tyX2_ok, nmX2, ws_2, by decide, gd_of 186 (by decide +kernel) rfl⟩
theorem ft_X3_7 : FT 3 RX3 7 0 := ⟨by decide, RX3, TX3, 5, rfl, rfl, tyX3_ok, nmX3, ws_3, by decide, gd_of 204 (by decide +kernel) rfl⟩
theorem ft_X3_13 : FT 3 RX3 13 1 := ⟨by decide, RX3, TX3, 5, rfl, rfl, tyX3_ok, nmX3, ws_3, by decide, gd_of 205 (by decide +kernel) rfl⟩
theorem ft_X3_16 : FT 3 RX3 16 2 := ⟨by decide, RX3, TX3, 5, rfl, rfl, tyX3_ok, nmX3, ws_3, by decide, gd_of 206 (by decide +kernel) rfl⟩
theorem ft_X3_22 : FT 3 RX3 22 3 := ⟨by decide, RX3, TX3, 5, rfl, rfl, tyX3_ok, nmX3, ws_3, by decide, gd_of 207 (by decide +kernel) rfl⟩
theorem ft_X3_26 : FT 3 RX3 26 4 := ⟨by decide, RX3, TX3, 5, rfl, rfl, tyX3_ok, nmX3, ws_3, by decide, gd_of 208 (by decide +kernel) rfl⟩
theorem ft_X3_29 : FT 4 RX3 29 0 := ⟨by decide, RX4, TX4, 6, rfl, rfl, tyX4_ok, nmX4, ws_4, by decide, gd_of 31 (by decide +kernel) rfl⟩
theorem ft_X3_52 : FT 2 RX3 52 0 := ⟨by decide, RX2, TX2, 3, rfl, rfl, tyX2_ok, nmX2, ws_2, by decide, gd_of 180 (by decide +kernel) rfl⟩
theorem ft_X4_9 : FT 4 RX4 9 0 := ⟨by decide, RX4, TX4, 6, rfl, rfl, tyX4_ok, nmX4, ws_4, by decide, gd_of 30 (by decide +kernel) rfl⟩
theorem ft_X4_15 : FT 4 RX4 15 1 := ⟨by decide, RX4, TX4, 6, rfl, rfl, tyX4_ok, nmX4, ws_4, by decide, gd_of 34 (by decide +kernel) rfl⟩
theorem ft_X4_19 : FT 4 RX4 19 2 := ⟨by decide, RX4, TX4, 6, rfl, rfl, tyX4_ok, nmX4, ws_4, by decide, gd_of 37 (by decide +kernel) rfl⟩
theorem ft_X4_22 : FT 4 RX4 22 3 := ⟨by decide, RX4, TX4, 6, rfl, rfl, tyX4_ok, nmX4, ws_4, by decide, gd_of 39 (by decide +kernel) rfl⟩
theorem ft_X4_25 : FT 4 RX4 25 4 := ⟨by decide, RX4, TX4, 6, rfl, rfl, tyX4_ok, nmX4, ws_4, by decide, gd_of 42 (by decide +kernel) rfl⟩
theorem ft_X4_28 : FT 4 RX4 28 5 := ⟨by decide, RX4, TX4, 6, rfl, rfl, tyX4_ok, nmX4, ws_4, by decide, gd_of 44 (by decide +kernel) rfl⟩
theorem ft_X4_99 : FT 2 RX4 99 0 := ⟨by decide, RX2, TX2, 3, rfl, rfl, tyX2_ok, nmX2, ws_2, by decide, gd_of 181 (by decide +kernel) rfl⟩
theorem ft_X4_103 : FT 2 RX4 103 2 := ⟨by decide, RX2, TX2, 3, rfl, rfl, tyX2_ok, nmX2, ws_2, by decide, gd_of 187 (by decide +kernel) rfl⟩
theorem ft_X4_107 : FT 2 RX4 107 1 := ⟨by decide, RX2, TX2, 3, rfl, rfl, tyX2_ok, nmX2, ws_2, by decide, gd_of 184 (by decide +kernel) rfl⟩
theorem ft_X5_9 : FT 5 RX5 9 0 := ⟨by decide, RX5, TX5, 11, rfl, rfl, tyX5_ok, nmX5, ws_5, by decide, gd_of 96 (by decide +kernel) rfl⟩
theorem ft_X5_15 : FT 5 RX5 15 1 := ⟨by decide, RX5, TX5, 11, rfl, rfl, tyX5_ok, nmX5, ws_5, by decide, gd_of 98 (by decide +kernel) rfl⟩
theorem ft_X5_18 : FT 5 RX5 18 2 := ⟨by decide, RX5, TX5, 11, rfl, rfl, tyX5_ok, nmX5, ws_5, by decide, gd_of 100 (by decide +kernel) rfl⟩
theorem ft_X5_22 : FT 5 RX5 22 3 := ⟨by decide, RX5, TX5, 11, rfl, rfl, tyX5_ok, nmX5, ws_5, by decide, gd_of 101 (by decide +kernel) rfl⟩
theorem ft_X5_25 : FT 5 RX5 25 4 := ⟨by decide, RX5, TX5, 11, rfl, rfl, tyX5_ok, nmX5, ws_5, by decide, gd_of 102 (by decide +kernel) rfl⟩
theorem ft_X5_28 : FT 5 RX5 28 5 := ⟨by decide, RX5, TX5, 11, rfl, rfl, tyX5_ok, nmX5, ws_5, by decide, gd_of 103 (by decide +kernel) rfl⟩
theorem ft_X5_31 : FT 5 RX5 31 6 := ⟨by decide, RX5, TX5, 11, rfl, rfl, tyX5_ok, nmX5, ws_5, by decide, gd_of 104 (by decide +kernel) rfl⟩
theorem ft_X5_34 : FT 5 RX5 34 7 := ⟨by decide, RX5, TX5, 11, rfl, rfl, tyX5_ok, nmX5, ws_5, by decide, gd_of 105 (by decide +kernel) rfl⟩
theorem ft_X5_37 : FT 5 RX5 37 8 := ⟨by decide, RX5, TX5, 11, rfl, rfl, tyX5_ok, nmX5, ws_5, by decide, gd_of 106 (by decide +kernel) rfl⟩
theorem ft_X5_40 : FT 5 RX5 40 9 := ⟨by decide, RX5, TX5, 11, rfl, rfl, tyX5_ok, nmX5, ws_5, by decide, gd_of 107 (by decide +kernel) rfl⟩
theorem ft_X5_43 : FT 5 RX5 43 10 := ⟨by decide, RX5, TX5, 11, rfl, rfl, tyX5_ok, nmX5, ws_5, by decide, gd_of 108 (by decide +kernel) rfl⟩
theorem ft_X7_9 : FT 7 RX7 9 2 := ⟨by decide, RX7, TX7, 57, rfl, rfl, tyX7_ok, nmX7, ws_7, by decide, gd_of 858 (by decide +kernel) rfl⟩
theorem ft_X7_15 : FT 7 RX7 15 3 := ⟨by decide, RX7, TX7, 57, rfl, rfl, tyX7_ok, nmX7, ws_7, by decide, gd_of 859 (by decide +kernel) rfl⟩
theorem ft_X7_18 : FT 7 RX7 18 5 := ⟨by decide, RX7, TX7, 57, rfl, rfl, tyX7_ok, nmX7, ws_7, by decide, gd_of 861 (by decide +kernel) rfl⟩
theorem ft_X7_22 : FT 7 RX7 22 6 := ⟨by decide, RX7, TX7, 57, rfl, rfl, tyX7_ok, nmX7, ws_7, by decide, gd_of 862 (by decide +kernel) rfl⟩
theorem ft_X7_26 : FT 7 RX7 26 7 := ⟨by decide, RX7, TX7, 57, rfl, rfl, tyX7_ok, nmX7, ws_7, by decide, gd_of 863 (by decide +kernel) rfl⟩
theorem ft_X7_29 : FT 7 RX7 29 8 := ⟨by decide, RX7, TX7, 57, rfl, rfl, tyX7_ok, nmX7, ws_7, by decide, gd_of 864 (by decide +kernel) rfl⟩
theorem ft_X7_33 : FT 7 RX7 33 9 := ⟨by decide, RX7, TX7, 57, rfl, rfl, tyX7_ok, nmX7, ws_7, by decide, gd_of 865 (by decide +kernel) rfl⟩
theorem ft_X7_36 : FT 7 RX7 36 10 := ⟨by decide, RX7, TX7, 57, rfl, rfl, tyX7_ok, nmX7, ws_7, by decide, gd_of 866 (by decide +kernel) rfl⟩
theorem ft_X7_39 : FT 7 RX7 39 11 := ⟨by decide, RX7, TX7, 57, rfl, rfl, tyX7_ok, nmX7, ws_7, by decide, gd_of 867 (by decide +kernel) rfl⟩
theorem ft_X7_42 : FT 7 RX7 42 13 := ⟨by decide, RX7, TX7, 57, rfl, rfl, tyX7_ok, nmX7, ws_7, by decide, gd_of 869 (by decide +kernel) rfl⟩
theorem ft_X7_45 : FT 7 RX7 45 14 := ⟨by decide, RX7, TX7, 57, rfl, rfl, tyX7_ok, nmX7, ws_7, by decide, gd_of 870 (by decide +kernel) rfl⟩
theorem ft_X7_48 : FT 7 RX7 48 15 := ⟨by decide, RX7, TX7, 57, rfl, rfl, tyX7_ok, nmX7, ws_7, by decide, gd_of 871 (by decide +kernel) rfl⟩
theorem ft_X7_51 : FT 7 RX7 51 16 := ⟨by decide, RX7, TX7, 57, rfl, rfl, tyX7_ok, nmX7, ws_7, by decide, gd_of 872 (by decide +kernel) rfl⟩
theorem ft_X7_54 : FT 7 RX7 54 17 := ⟨by decide, RX7, TX7, 57, rfl, rfl, tyX7_ok, nmX7, ws_7, by decide, gd_of 873 (by decide +kernel) rfl⟩
theorem ft_X7_57 : FT 7 RX7 57 20 := ⟨by decide, RX7, TX7, 57, rfl, rfl, tyX7_ok, nmX7, ws_7, by decide, gd_of 876 (by decide +kernel) rfl⟩
theorem ft_X7_60 : FT 7 RX7 60 21 := ⟨by decide, RX7, TX7, 57, rfl, rfl, tyX7_ok, nmX7, ws_7, by decide, gd_of 877 (by decide +kernel) rfl⟩
theorem ft_X7_63 : FT 7 RX7 63 22 := ⟨by decide, RX7, TX7, 57, rfl, rfl, tyX7_ok, nmX7, ws_7, by decide, gd_of 878 (by decide +kernel) rfl⟩
theorem ft_X7_66 : FT 7 RX7 66 23 := ⟨by decide, RX7, TX7, 57, rfl, rfl, tyX7_ok, nmX7, ws_7, by decide, gd_of 879 (by decide +kernel) rfl⟩
theorem ft_X7_69 : FT 7 RX7 69 24 := ⟨by decide, RX7, TX7, 57, rfl, rfl, tyX7_ok, nmX7, ws_7, by decide, gd_of 880 (by decide +kernel) rfl⟩
theorem ft_X7_72 : FT 7 RX7 72 25 := ⟨by decide, RX7, TX7, 57, rfl, rfl, tyX7_ok, nmX7, ws_7, by decide, gd_of 881 (by decide +kernel) rfl⟩
theorem ft_X7_75 : FT 7 RX7 75 28 := ⟨by decide, RX7, TX7, 57, rfl, rfl, tyX7_ok, nmX7, ws_7, by decide, gd_of 884 (by decide +kernel) rfl⟩
theorem ft_X7_78 : FT 7 RX7 78 29 := ⟨by decide, RX7, TX7, 57, rfl, rfl, tyX7_ok, nmX7, ws_7, by decide, gd_of 885 (by decide +kernel) rfl⟩
theorem ft_X7_81 : FT 7 RX7 81 32 := ⟨by decide, RX7, TX7, 57, rfl, rfl, tyX7_ok, nmX7, ws_7, by decide, gd_of 888 (by decide +kernel) rfl⟩
theorem ft_X7_84 : FT 7 RX7 84 33 := ⟨by decide, RX7, TX7, 57, rfl, rfl, tyX7_ok, nmX7, ws_7, by decide, gd_of 889 (by decide +kernel) rfl⟩
theorem ft_X7_87 : FT 7 RX7 87 34 := ⟨by decide, RX7, TX7, 57, rfl, rfl, tyX7_ok, nmX7, ws_7, by decide, gd_of 890 (by decide +kernel) rfl⟩
theorem ft_X7_90 : FT 7 RX7 90 35 := ⟨by decide, RX7, TX7, 57, rfl, rfl, tyX7_ok, nmX7, ws_7, by decide, gd_of 891 (by decide +kernel) rfl⟩
theorem ft_X7_94 : FT 7 RX7 94 37 := ⟨by decide, RX7, TX7, 57, rfl, rfl, tyX7_ok, nmX7, ws_7, by decide, gd_of 893 (by decide +kernel) rfl⟩
theorem ft_X7_98 : FT 7 RX7 98 41 := ⟨by decide, RX7, TX7, 57, rfl, rfl, tyX7_ok, nmX7, ws_7, by decide, gd_of 897 (by decide +kernel) rfl⟩
theorem ft_X7_101 : FT 7 RX7 101 42 := ⟨by decide, RX7, TX7, 57, rfl, rfl, tyX7_ok, nmX7, ws_7, by decide, gd_of 898 (by decide +kernel) rfl⟩
theorem ft_X7_104 : FT 7 RX7 104 43 := ⟨by decide, RX7, TX7, 57, rfl, rfl, tyX7_ok, nmX7, ws_7, by decide, gd_of 899 (by decide +kernel) rfl⟩
theorem ft_X7_107 : FT 7 RX7 107 0 := ⟨by decide, RX7, TX7, 57, rfl, rfl, tyX7_ok, nmX7, ws_7, by decide, gd_of 856 (by decide +kernel) rfl⟩
theorem ft_X7_122 : FT 7 RX7 122 1 := ⟨by decide, RX7, TX7, 57, rfl, rfl, tyX7_ok, nmX7, ws_7, by decide, gd_of 857 (by decide +kernel) rfl⟩
theorem ft_X7_125 : FT 7 RX7 125 4 := ⟨by decide, RX7, TX7, 57, rfl, rfl, tyX7_ok, nmX7, ws_7, by decide, gd_of 860 (by decide +kernel) rfl⟩
theorem ft_X7_128 : FT 7 RX7 128 18 := ⟨by decide, RX7, TX7, 57, rfl, rfl, tyX7_ok, nmX7, ws_7, by decide, gd_of 874 (by decide +kernel) rfl⟩
theorem ft_X7_131 : FT 7 RX7 131 12 := ⟨by decide, RX7, TX7, 57, rfl, rfl, tyX7_ok, nmX7, ws_7, by decide, gd_of 868 (by decide +kernel) rfl⟩
theorem ft_X7_158 : FT 7 RX7 158 19 := ⟨by decide, RX7, TX7, 57, rfl, rfl, tyX7_ok, nmX7, ws_7, by decide, gd_of 875 (by decide +kernel) rfl⟩
theorem ft_X7_165 : FT 7 RX7 165 26 := ⟨by decide, RX7, TX7, 57, rfl, rfl, tyX7_ok, nmX7, ws_7, by decide, gd_of 882 (by decide +kernel) rfl⟩
theorem ft_X7_193 : FT 7 RX7 193 30 := ⟨by decide, RX7, TX7, 57, rfl, rfl, tyX7_ok, nmX7, ws_7, by decide, gd_of 886 (by decide +kernel) rfl⟩
theorem ft_X7_209 : FT 7 RX7 209 27 := ⟨by decide, RX7, TX7, 57, rfl, rfl, tyX7_ok, nmX7, ws_7, by decide, gd_of 883 (by decide +kernel) rfl⟩
theorem ft_X7_216 : FT 7 RX7 216 31 := ⟨by decide, RX7, TX7, 57, rfl, rfl, tyX7_ok, nmX7, ws_7, by decide, gd_of 887 (by decide +kernel) rfl⟩
theorem ft_X7_283 : FT 7 RX7 283 36 := ⟨by decide, RX7, TX7, 57, rfl, rfl, tyX7_ok, nmX7, ws_7, by decide, gd_of 892 (by decide +kernel) rfl⟩
theorem ft_X7_289 : FT 7 RX7 289 38 := ⟨by decide, RX7, TX7, 57, rfl, rfl, tyX7_ok, nmX7, ws_7, by decide, gd_of 894 (by decide +kernel) rfl⟩
theorem ft_X7_296 : FT 7 RX7 296 39 := ⟨by decide, RX7, TX7, 57, rfl, rfl, tyX7_ok, nmX7, ws_7, by decide, gd_of 895 (by decide +kernel) rfl⟩
theorem ft_X7_310 : FT 7 RX7 310 40 := ⟨by decide, RX7, TX7, 57, rfl, rfl, tyX7_ok, nmX7, ws_7, by decide, gd_of 896 (by decide +kernel) rfl⟩
theorem ft_X7_316 : FT 7 RX7 316 44 := ⟨by decide, RX7, TX7, 57, rfl, rfl, tyX7_ok, nmX7, ws_7, by decide, gd_of 900 (by decide +kernel) rfl⟩
theorem ft_X7_345 : FT 7 RX7 345 45 := ⟨by decide, RX7, TX7, 57, rfl, rfl, tyX7_ok, nmX7, ws_7, by decide, gd_of 901 (by decide +kernel) rfl⟩
theorem ft_X7_349 : FT 7 RX7 349 46 := ⟨by decide, RX7, TX7, 57, rfl, rfl, tyX7_ok, nmX7, ws_7, by decide, gd_of 902 (by decide +kernel) rfl⟩
theorem ft_X7_378 : FT 7 RX7 378 49 := ⟨by decide, RX7, TX7, 57, rfl, rfl, tyX7_ok, nmX7, ws_7, by decide, gd_of 905 (by decide +kernel) rfl⟩
theorem ft_X7_381 : FT 7 RX7 381 47 := ⟨by decide, RX7, TX7, 57, rfl, rfl, tyX7_ok, nmX7, ws_7, by decide, gd_of 903 (by decide +kernel) rfl⟩
theorem ft_X7_384 : FT 7 RX7 384 48 := ⟨by decide, RX7, TX7, 57, rfl, rfl, tyX7_ok, nmX7, ws_7, by decide, gd_of 904 (by decide +kernel) rfl⟩
theorem ft_X7_391 : FT 7 RX7 391 53 := ⟨by decide, RX7, TX7, 57, rfl, rfl, tyX7_ok, nmX7, ws_7, by decide, gd_of 909 (by decide +kernel) rfl⟩
theorem ft_X7_394 : FT 7 RX7 394 50 := ⟨by decide, RX7, TX7, 57, rfl, rfl, tyX7_ok, nmX7, ws_7, by decide, gd_of 906 (by decide +kernel) rfl⟩
theorem ft_X7_397 : FT 7 RX7 397 51 := ⟨by decide, RX7, TX7, 57, rfl, rfl, tyX7_ok, nmX7, ws_7, by decide, gd_of 907 (by decide +kernel) rfl⟩
theorem ft_X7_400 : FT 7 RX7 400 52 := ⟨by decide, RX7, TX7, 57, rfl, rfl, tyX7_ok, nmX7, ws_7, by decide, gd_of 908 (by decide +kernel) rfl⟩
theorem ft_X7_407 : FT 7 RX7 407 56 := ⟨by decide, RX7, TX7, 57, rfl, rfl, tyX7_ok, nmX7, ws_7, by decide, gd_of 912 (by decide +kernel) rfl⟩
theorem ft_X7_410 : FT 7 RX7 410 54 := ⟨by decide, RX7, TX7, 57, rfl, rfl, tyX7_ok, nmX7, ws_7, by decide, gd_of 910 (by decide +kernel) rfl⟩
theorem ft_X7_413 : FT 7 RX7 413 55 := ⟨by decide, RX7, TX7, 57, rfl, rfl, tyX7_ok, nmX7, ws_7, by decide, gd_of 911 (by decide +kernel) rfl⟩
theorem nt_X6_13 : NT 4 RX6 13 := ⟨by decide, RX4, TX4, 6, rfl, rfl, tyX4_ok, ws_4, gd_of 23 (by decide +kernel) rfl, gd_of 25 (by decide +kernel) rfl, gd_of 2 (by decide +kernel) rfl⟩
theorem nt_X6_24 : NT 0 RX6 24 := ⟨by decide, RX0, TX0, 6, rfl, rfl, tyX0_ok, ws_0, gd_of 61 (by decide +kernel) rfl, gd_of 62 (by decide +kernel) rfl, gd_of 3 (by decide +kernel) rfl⟩
theorem nt_X6_38 : NT 5 RX6 38 := ⟨by decide, RX5, TX5, 11, rfl, rfl, tyX5_ok, ws_5, gd_of 90 (by decide +kernel) rfl, gd_of 91 (by decide +kernel) rfl, gd_of 4 (by decide +kernel) rfl⟩
theorem nt_X6_53 : NT 1 RX6 53 := ⟨by decide, RX1, TX1, 10, rfl, rfl, tyX1_ok, ws_1, gd_of 134 (by decide +kernel) rfl, gd_of 135 (by decide +kernel) rfl, gd_of 5 (by decide +kernel) rfl⟩
theorem nt_X6_68 : NT 2 RX6 68 := ⟨by decide, RX2, TX2, 3, rfl, rfl, tyX2_ok, ws_2, gd_of 173 (by decide +kernel) rfl, gd_of 174 (by decide +kernel) rfl, gd_of 6 (by decide +kernel) rfl⟩
theorem nt_X6_84 : NT 3 RX6 84 := ⟨by decide, RX3, TX3, 5, rfl, rfl, tyX3_ok, ws_3, gd_of 196 (by decide +kernel) rfl, gd_of 197 (by decide +kernel) rfl, gd_of 7 (by decide +kernel) rfl⟩
theorem nt_X0_28 : NT 4 RX0 28 := ⟨by decide, RX4, TX4, 6, rfl, rfl, tyX4_ok, ws_4, gd_of 67 (by decide +kernel) rfl, gd_of 25 (by decide +kernel) rfl, gd_of 2 (by decide +kernel) rfl⟩
theorem nt_X3_19 : NT 2 RX3 19 := ⟨by decide, RX2, TX2, 3, rfl, rfl, tyX2_ok, ws_2, gd_of 202 (by decide +kernel) rfl, gd_of 174 (by decide +kernel) rfl, gd_of 6 (by decide +kernel) rfl⟩
theorem nt_L_7 : NT 6 RL 7 := ⟨by decide, RX6, TX6, 16, rfl, rfl, tyX6_ok, ws_6, gd_of 15 (by decide +kernel) rfl, gd_of 16 (by decide +kernel) rfl, gd_of 1 (by decide +kernel) rfl⟩
theorem nt_L_10 : NT 7 RL 10 := ⟨by decide, RX7, TX7, 57, rfl, rfl, tyX7_ok, ws_7, gd_of 849 (by decide +kernel) rfl, gd_of 850 (by decide +kernel) rfl, gd_of 8 (by decide +kernel) rfl⟩
theorem ml_X6_5 : Cond.methodLink RX6 5 objectInit ∈ lw_gd := gd_of 20 (by decide +kernel) rfl
theorem ml_X0_3 : Cond.methodLink RX0 3 objectInit ∈ lw_gd := gd_of 66 (by decide +kernel) rfl
theorem ml_X1_3 : Cond.methodLink RX1 3 objectInit ∈ lw_gd := gd_of 139 (by decide +kernel) rfl
theorem ml_X2_1 : Cond.methodLink RX2 1 objectInit ∈ lw_gd := gd_of 178 (by decide +kernel) rfl
theorem ml_X3_1 : Cond.methodLink RX3 1 objectInit ∈ lw_gd := gd_of 201 (by decide +kernel) rfl
theorem ml_X4_3 : Cond.methodLink RX4 3 objectInit ∈ lw_gd := gd_of 29 (by decide +kernel) rfl
theorem ml_X4_57 : Cond.methodLink RX4 57 arraycopyName ∈ lw_gd := gd_of 486 (by decide +kernel) rfl
theorem ml_X5_3 : Cond.methodLink RX5 3 objectInit ∈ lw_gd := gd_of 95 (by decide +kernel) rfl
theorem ml_X7_3 : Cond.methodLink RX7 3 objectInit ∈ lw_gd := gd_of 854 (by decide +kernel) rfl
theorem ml_Jxf58ca_74 : Cond.methodLink RJxf58ca 74 ⟨"java/lang/Float", "floatToRawIntBits", "(F)I"⟩ ∈ lw_gd := gd_of 1326 (by decide +kernel) rfl
theorem ml_J7_150 : Cond.methodLink RJ7 150 arraycopyName ∈ lw_gd := gd_of 418 (by decide +kernel) rfl
