theorem e0 (d : Nat) (σ : am_M) (v1 : Int32) : am_ex (d + 1) 0 [.ref 6, .int v1] σ = am_go am_X0 (am_ex d) M0 0 [.ref 6, .int v1, .null] [] σ := am_ex_s m0 (Nat.le_of_ble_eq_true rfl) rfl
theorem e1 (d : Nat) (σ : am_M) (v1 v2 : Int32) : am_ex (d + 1) 1 [.ref 6, .int v1, .int v2] σ = am_go am_X0 (am_ex d) M1 0 [.ref 6, .int v1, .int v2, .null, .null, .null] [] σ := am_ex_s m1 (Nat.le_of_ble_eq_true rfl) rfl
theorem e2 (d : Nat) (σ : am_M) (v1 : Int32) : am_ex (d + 1) 2 [.ref 6, .int v1] σ = am_go am_X0 (am_ex d) M2 0 [.ref 6, .int v1, .null, .null] [] σ := am_ex_s m2 (Nat.le_of_ble_eq_true rfl) rfl
theorem e3 (d : Nat) (σ : am_M) (v1 : Int32) : am_ex (d + 1) 3 [.ref 6, .int v1] σ = am_go am_X0 (am_ex d) M3 0 [.ref 6, .int v1, .null, .null, .null] [] σ := am_ex_s m3 (Nat.le_of_ble_eq_true rfl) rfl
theorem e4 (d : Nat) (σ : am_M) (v1 v2 : Int32) : am_ex (d + 1) 4 [.ref 6, .int v1, .int v2] σ = am_go am_X0 (am_ex d) M4 0 [.ref 6, .int v1, .int v2, .null] [] σ := am_ex_s m4 (Nat.le_of_ble_eq_true rfl) rfl
theorem e5 (d : Nat) (σ : am_M) (v1 : Int32) : am_ex (d + 1) 5 [.ref 6, .int v1] σ = am_go am_X0 (am_ex d) M5 0 [.ref 6, .int v1, .null, .null] [] σ := am_ex_s m5 (Nat.le_of_ble_eq_true rfl) rfl
theorem e6 (d : Nat) (σ : am_M) (v1 : Int32) : am_ex (d + 1) 6 [.ref 6, .int v1] σ = am_go am_X0 (am_ex d) M6 0 [.ref 6, .int v1, .null, .null] [] σ := am_ex_s m6 (Nat.le_of_ble_eq_true rfl) rfl
theorem e7 (d : Nat) (σ : am_M) (v1 : Int32) : am_ex (d + 1) 7 [.ref 6, .int v1] σ = am_go am_X0 (am_ex d) M7 0 [.ref 6, .int v1, .null, .null, .null, .null] [] σ := am_ex_s m7 (Nat.le_of_ble_eq_true rfl) rfl
theorem e8 (d : Nat) (σ : am_M) (v1 : Int32) : am_ex (d + 1) 8 [.ref 6, .int v1] σ = am_go am_X0 (am_ex d) M8 0 [.ref 6, .int v1] [] σ := am_ex_s m8 (Nat.le_of_ble_eq_true rfl) rfl
theorem e9 (d : Nat) (σ : am_M) (v1 : Int32) : am_ex (d + 1) 9 [.ref 6, .int v1] σ = am_go am_X0 (am_ex d) M9 0 [.ref 6, .int v1, .null] [] σ := am_ex_s m9 (Nat.le_of_ble_eq_true rfl) rfl
theorem e10 (d : Nat) (σ : am_M) (v1 v2 : Int32) : am_ex (d + 1) 10 [.ref 6, .int v1, .int v2] σ = am_go am_X0 (am_ex d) M10 0 [.ref 6, .int v1, .int v2] [] σ := am_ex_s m10 (Nat.le_of_ble_eq_true rfl) rfl
theorem e11 (d : Nat) (σ : am_M) (v1 : Int32) : am_ex (d + 1) 11 [.ref 6, .int v1] σ = am_go am_X0 (am_ex d) M11 0 [.ref 6, .int v1] [] σ := am_ex_s m11 (Nat.le_of_ble_eq_true rfl) rfl
theorem e12 (d : Nat) (σ : am_M) (v1 : Int32) : am_ex (d + 1) 12 [.ref 6, .int v1] σ = am_go am_X0 (am_ex d) M12 0 [.ref 6, .int v1, .null, .null, .null] [] σ := am_ex_s m12 (Nat.le_of_ble_eq_true rfl) rfl
theorem e13 (d : Nat) (σ : am_M) (v1 : Int32) : am_ex (d + 1) 13 [.ref 7, .int v1] σ = am_go am_X0 (am_ex d) M13 0 [.ref 7, .int v1, .null] [] σ := am_ex_s m13 (Nat.le_of_ble_eq_true rfl) rfl
theorem e14 (d : Nat) (σ : am_M) : am_ex (d + 1) 14 [.ref 7] σ = am_go am_X0 (am_ex d) M14 0 [.ref 7] [] σ := am_ex_s m14 (Nat.le_of_ble_eq_true rfl) rfl
theorem e15 (d : Nat) (σ : am_M) (v1 : Int32) : am_ex (d + 1) 15 [.ref 7, .int v1] σ = am_go am_X0 (am_ex d) M15 0 [.ref 7, .int v1] [] σ := am_ex_s m15 (Nat.le_of_ble_eq_true rfl) rfl
theorem e16 (d : Nat) (σ : am_M) (v1 : Int32) : am_ex (d + 1) 16 [.ref 7, .int v1] σ = am_go am_X0 (am_ex d) M16 0 [.ref 7, .int v1] [] σ := am_ex_s m16 (Nat.le_of_ble_eq_true rfl) rfl
theorem e17 (d : Nat) (σ : am_M) : am_ex (d + 1) 17 [.ref 7] σ = am_go am_X0 (am_ex d) M17 0 [.ref 7, .null, .null] [] σ := am_ex_s m17 (Nat.le_of_ble_eq_true rfl) rfl
theorem e18 (d : Nat) (σ : am_M) (v1 : Int32) : am_ex (d + 1) 18 [.ref 7, .int v1] σ = am_go am_X0 (am_ex d) M18 0 [.ref 7, .int v1, .null, .null] [] σ := am_ex_s m18 (Nat.le_of_ble_eq_true rfl) rfl
theorem e19 (d : Nat) (σ : am_M) (v1 : Int32) : am_ex (d + 1) 19 [.ref 7, .int v1] σ = am_go am_X0 (am_ex d) M19 0 [.ref 7, .int v1, .null, .null, .null] [] σ := am_ex_s m19 (Nat.le_of_ble_eq_true rfl) rfl
theorem e20 (d : Nat) (σ : am_M) : am_ex (d + 1) 20 [.ref 8] σ = am_go am_X0 (am_ex d) M20 0 [.ref 8, .null] [] σ := am_ex_s m20 (Nat.le_of_ble_eq_true rfl) rfl
theorem e21 (d : Nat) (σ : am_M) (v1 : Int32) : am_ex (d + 1) 21 [.ref 8, .int v1] σ = am_go am_X0 (am_ex d) M21 0 [.ref 8, .int v1] [] σ := am_ex_s m21 (Nat.le_of_ble_eq_true rfl) rfl
theorem e22 (d : Nat) (σ : am_M) (v1 : Int32) : am_ex (d + 1) 22 [.ref 8, .int v1] σ = am_go am_X0 (am_ex d) M22 0 [.ref 8, .int v1, .null, .null, .null, .null] [] σ := am_ex_s m22 (Nat.le_of_ble_eq_true rfl) rfl
theorem e23 (d : Nat) (σ : am_M) (v1 : Int32) : am_ex (d + 1) 23 [.ref 1, .int v1] σ = am_go am_X0 (am_ex d) M23 0 [.ref 1, .int v1] [] σ := am_ex_s m23 (Nat.le_of_ble_eq_true rfl) rfl
theorem e24 (d : Nat) (σ : am_M) (v1 : Int32) : am_ex (d + 1) 24 [.ref 1, .int v1] σ = am_go am_X0 (am_ex d) M24 0 [.ref 1, .int v1] [] σ := am_ex_s m24 (Nat.le_of_ble_eq_true rfl) rfl
theorem e25 (d : Nat) (σ : am_M) : am_ex (d + 1) 25 [.ref 1] σ = am_go am_X0 (am_ex d) M25 0 [.ref 1] [] σ := am_ex_s m25 (Nat.le_of_ble_eq_true rfl) rfl
theorem e26 (d : Nat) (σ : am_M) : am_ex (d + 1) 26 [.ref 1] σ = am_go am_X0 (am_ex d) M26 0 [.ref 1] [] σ := am_ex_s m26 (Nat.le_of_ble_eq_true rfl) rfl
theorem e27 (d : Nat) (σ : am_M) (v1 : Int32) : am_ex (d + 1) 27 [.ref 1, .int v1] σ = am_go am_X0 (am_ex d) M27 0 [.ref 1, .int v1] [] σ := am_ex_s m27 (Nat.le_of_ble_eq_true rfl) rfl
theorem e28 (d : Nat) (σ : am_M) (v1 : Int32) : am_ex (d + 1) 28 [.ref 1, .int v1] σ = am_go am_X0 (am_ex d) M28 0 [.ref 1, .int v1] [] σ := am_ex_s m28 (Nat.le_of_ble_eq_true rfl) rfl
theorem e29 (d : Nat) (σ : am_M) (v1 v2 : Int32) : am_ex (d + 1) 29 [.ref 1, .int v1, .int v2] σ = am_go am_X0 (am_ex d) M29 0 [.ref 1, .int v1, .int v2] [] σ := am_ex_s m29 (Nat.le_of_ble_eq_true rfl) rfl
theorem e30 (d : Nat) (σ : am_M) (v1 : Int32) : am_ex (d + 1) 30 [.ref 1, .int v1] σ = am_go am_X0 (am_ex d) M30 0 [.ref 1, .int v1] [] σ := am_ex_s m30 (Nat.le_of_ble_eq_true rfl) rfl
theorem e31 (d : Nat) (σ : am_M) : am_ex (d + 1) 31 [.ref 4] σ = am_go am_X0 (am_ex d) M31 0 [.ref 4] [] σ := am_ex_s m31 (Nat.le_of_ble_eq_true rfl) rfl
theorem e32 (d : Nat) (σ : am_M) : am_ex (d + 1) 32 [.ref 4] σ = am_go am_X0 (am_ex d) M32 0 [.ref 4] [] σ := am_ex_s m32 (Nat.le_of_ble_eq_true rfl) rfl
theorem e33 (d : Nat) (σ : am_M) : am_ex (d + 1) 33 [.ref 4] σ = am_go am_X0 (am_ex d) M33 0 [.ref 4] [] σ := am_ex_s m33 (Nat.le_of_ble_eq_true rfl) rfl
theorem e34 (d : Nat) (σ : am_M) (v1 : Int32) : am_ex (d + 1) 34 [.ref 4, .int v1] σ = am_go am_X0 (am_ex d) M34 0 [.ref 4, .int v1] [] σ := am_ex_s m34 (Nat.le_of_ble_eq_true rfl) rfl
theorem e35 (d : Nat) (σ : am_M) (v1 : Int32) : am_ex (d + 1) 35 [.ref 4, .int v1] σ = am_go am_X0 (am_ex d) M35 0 [.ref 4, .int v1] [] σ := am_ex_s m35 (Nat.le_of_ble_eq_true rfl) rfl
theorem e36 (d : Nat) (σ : am_M) (v1 : Int32) : am_ex (d + 1) 36 [.ref 4, .int v1] σ = am_go am_X0 (am_ex d) M36 0 [.ref 4, .int v1] [] σ := am_ex_s m36 (Nat.le_of_ble_eq_true rfl) rfl
theorem e37 (d : Nat) (σ : am_M) (v1 : Int32) : am_ex (d + 1) 37 [.ref 4, .int v1] σ = am_go am_X0 (am_ex d) M37 0 [.ref 4, .int v1] [] σ := am_ex_s m37 (Nat.le_of_ble_eq_true rfl) rfl
theorem e38 (d : Nat) (σ : am_M) (v1 : Int32) : am_ex (d + 1) 38 [.ref 4, .int v1] σ = am_go am_X0 (am_ex d) M38 0 [.ref 4, .int v1, .null] [] σ := am_ex_s m38 (Nat.le_of_ble_eq_true rfl) rfl
theorem e39 (d : Nat) (σ : am_M) (v1 v2 : Int32) : am_ex (d + 1) 39 [.ref 4, .int v1, .int v2] σ = am_go am_X0 (am_ex d) M39 0 [.ref 4, .int v1, .int v2] [] σ := am_ex_s m39 (Nat.le_of_ble_eq_true rfl) rfl
theorem e40 (d : Nat) (σ : am_M) (v1 v2 v3 v4 : Int32) : am_ex (d + 1) 40 [.ref 4, .int v1, .int v2, .int v3, .int v4] σ = am_go am_X0 (am_ex d) M40 0 [.ref 4, .int v1, .int v2, .int v3, .int v4, .null] [] σ := am_ex_s m40 (Nat.le_of_ble_eq_true rfl) rfl
theorem e41 (d : Nat) (σ : am_M) (v1 v2 : Int32) : am_ex (d + 1) 41 [.ref 4, .int v1, .int v2] σ = am_go am_X0 (am_ex d) M41 0 [.ref 4, .int v1, .int v2] [] σ := am_ex_s m41 (Nat.le_of_ble_eq_true rfl) rfl
theorem e42 (d : Nat) (σ : am_M) (v1 v2 : Int32) : am_ex (d + 1) 42 [.ref 4, .int v1, .int v2] σ = am_go am_X0 (am_ex d) M42 0 [.ref 4, .int v1, .int v2] [] σ := am_ex_s m42 (Nat.le_of_ble_eq_true rfl) rfl
theorem e43 (d : Nat) (σ : am_M) (v1 : Int32) : am_ex (d + 1) 43 [.ref 4, .int v1] σ = am_go am_X0 (am_ex d) M43 0 [.ref 4, .int v1] [] σ := am_ex_s m43 (Nat.le_of_ble_eq_true rfl) rfl
theorem e44 (d : Nat) (σ : am_M) (v1 : Int32) : am_ex (d + 1) 44 [.ref 4, .int v1] σ = am_go am_X0 (am_ex d) M44 0 [.ref 4, .int v1] [] σ := am_ex_s m44 (Nat.le_of_ble_eq_true rfl) rfl
theorem e45 (d : Nat) (σ : am_M) (v1 : Int32) : am_ex (d + 1) 45 [.ref 4, .int v1] σ = am_go am_X0 (am_ex d) M45 0 [.ref 4, .int v1] [] σ := am_ex_s m45 (Nat.le_of_ble_eq_true rfl) rfl
theorem e46 (d : Nat) (σ : am_M) (v1 : Int32) : am_ex (d + 1) 46 [.ref 4, .int v1] σ = am_go am_X0 (am_ex d) M46 0 [.ref 4, .int v1] [] σ := am_ex_s m46 (Nat.le_of_ble_eq_true rfl) rfl
theorem e47 (d : Nat) (σ : am_M) (v0 : Int32) : am_ex (d + 1) 47 [.int v0] σ = am_go am_X0 (am_ex d) M47 0 [.int v0] [] σ := am_ex_s m47 (Nat.le_of_ble_eq_true rfl) rfl
theorem e48 (d : Nat) (σ : am_M) : am_ex (d + 1) 48 [.ref 9] σ = am_go am_X0 (am_ex d) M48 0 [.ref 9] [] σ := am_ex_s m48 (Nat.le_of_ble_eq_true rfl) rfl
theorem e49 (d : Nat) (σ : am_M) (v1 : Int32) : am_ex (d + 1) 49 [.ref 9, .int v1] σ = am_go am_X0 (am_ex d) M49 0 [.ref 9, .int v1] [] σ := am_ex_s m49 (Nat.le_of_ble_eq_true rfl) rfl
theorem e50 (d : Nat) (σ : am_M) (v1 v2 : Int32) : am_ex (d + 1) 50 [.ref 9, .int v1, .int v2] σ = am_go am_X0 (am_ex d) M50 0 [.ref 9, .int v1, .int v2, .null] [] σ := am_ex_s m50 (Nat.le_of_ble_eq_true rfl) rfl
theorem e51 (d : Nat) (σ : am_M) (v1 v2 : Int32) : am_ex (d + 1) 51 [.ref 9, .int v1, .int v2] σ = am_go am_X0 (am_ex d) M51 0 [.ref 9, .int v1, .int v2, .null, .null, .null, .null, .null, .null] [] σ := am_ex_s m51 (Nat.le_of_ble_eq_true rfl) rfl
theorem e52 (d : Nat) (σ : am_M) (v1 v2 : Int32) : am_ex (d + 1) 52 [.ref 9, .int v1, .int v2] σ = am_go am_X0 (am_ex d) M52 0 [.ref 9, .int v1, .int v2, .null, .null, .null, .null, .null] [] σ := am_ex_s m52 (Nat.le_of_ble_eq_true rfl) rfl
theorem e53 (d : Nat) (σ : am_M) (v1 v2 v3 v4 : Int32) : am_ex (d + 1) 53 [.ref 9, .int v1, .int v2, .int v3, .int v4] σ = am_go am_X0 (am_ex d) M53 0 [.ref 9, .int v1, .int v2, .int v3, .int v4, .null, .null, .null, .null] [] σ := am_ex_s m53 (Nat.le_of_ble_eq_true rfl) rfl
theorem e54 (d : Nat) (σ : am_M) (v1 : Int32) : am_ex (d + 1) 54 [.ref 9, .int v1] σ = am_go am_X0 (am_ex d) M54 0 [.ref 9, .int v1] [] σ := am_ex_s m54 (Nat.le_of_ble_eq_true rfl) rfl
theorem e55 (d : Nat) (σ : am_M) (v1 v2 v3 : Int32) : am_ex (d + 1) 55 [.ref 9, .int v1, .int v2, .int v3] σ = am_go am_X0 (am_ex d) M55 0 [.ref 9, .int v1, .int v2, .int v3, .null] [] σ := am_ex_s m55 (Nat.le_of_ble_eq_true rfl) rfl
theorem e56 (d : Nat) (σ : am_M) : am_ex (d + 1) 56 [.ref 2] σ = am_go am_X0 (am_ex d) M56 0 [.ref 2] [] σ := am_ex_s m56 (Nat.le_of_ble_eq_true rfl) rfl
theorem e57 (d : Nat) (σ : am_M) : am_ex (d + 1) 57 [.ref 2] σ = am_go am_X0 (am_ex d) M57 0 [.ref 2] [] σ := am_ex_s m57 (Nat.le_of_ble_eq_true rfl) rfl
theorem e58 (d : Nat) (σ : am_M) : am_ex (d + 1) 58 [.ref 2] σ = am_go am_X0 (am_ex d) M58 0 [.ref 2] [] σ := am_ex_s m58 (Nat.le_of_ble_eq_true rfl) rfl
theorem e59 (d : Nat) (σ : am_M) (v1 : Int32) (w2 : Int64) : am_ex (d + 1) 59 [.ref 2, .int v1, .long w2] σ = am_go am_X0 (am_ex d) M59 0 [.ref 2, .int v1, .long w2, .null] [] σ := am_ex_s m59 (Nat.le_of_ble_eq_true rfl) rfl
theorem e60 (d : Nat) (σ : am_M) (v1 : Int32) : am_ex (d + 1) 60 [.ref 2, .int v1] σ = am_go am_X0 (am_ex d) M60 0 [.ref 2, .int v1] [] σ := am_ex_s m60 (Nat.le_of_ble_eq_true rfl) rfl
theorem e61 (d : Nat) (σ : am_M) (v1 : Int32) : am_ex (d + 1) 61 [.ref 2, .int v1] σ = am_go am_X0 (am_ex d) M61 0 [.ref 2, .int v1] [] σ := am_ex_s m61 (Nat.le_of_ble_eq_true rfl) rfl
theorem e62 (d : Nat) (σ : am_M) (v1 : Int32) : am_ex (d + 1) 62 [.ref 2, .int v1] σ = am_go am_X0 (am_ex d) M62 0 [.ref 2, .int v1] [] σ := am_ex_s m62 (Nat.le_of_ble_eq_true rfl) rfl
theorem e63 (d : Nat) (σ : am_M) (v1 v2 : Int32) : am_ex (d + 1) 63 [.ref 2, .int v1, .int v2] σ = am_go am_X0 (am_ex d) M63 0 [.ref 2, .int v1, .int v2] [] σ := am_ex_s m63 (Nat.le_of_ble_eq_true rfl) rfl
theorem e64 (d : Nat) (σ : am_M) : am_ex (d + 1) 64 [.ref 5] σ = am_go am_X0 (am_ex d) M64 0 [.ref 5, .null] [] σ := am_ex_s m64 (Nat.le_of_ble_eq_true rfl) rfl
theorem e65 (d : Nat) (σ : am_M) (v1 : Int32) : am_ex (d + 1) 65 [.ref 5, .int v1] σ = am_go am_X0 (am_ex d) M65 0 [.ref 5, .int v1] [] σ := am_ex_s m65 (Nat.le_of_ble_eq_true rfl) rfl
theorem e66 (d : Nat) (σ : am_M) (v1 : Int32) : am_ex (d + 1) 66 [.ref 5, .int v1] σ = am_go am_X0 (am_ex d) M66 0 [.ref 5, .int v1] [] σ := am_ex_s m66 (Nat.le_of_ble_eq_true rfl) rfl
theorem e67 (d : Nat) (σ : am_M) (v1 : Int32) : am_ex (d + 1) 67 [.ref 5, .int v1] σ = am_go am_X0 (am_ex d) M67 0 [.ref 5, .int v1] [] σ := am_ex_s m67 (Nat.le_of_ble_eq_true rfl) rfl
theorem e68 (d : Nat) (σ : am_M) (v1 : Int32) : am_ex (d + 1) 68 [.ref 5, .int v1] σ = am_go am_X0 (am_ex d) M68 0 [.ref 5, .int v1] [] σ := am_ex_s m68 (Nat.le_of_ble_eq_true rfl) rfl
theorem e69 (d : Nat) (σ : am_M) : am_ex (d + 1) 69 [.ref 5] σ = am_go am_X0 (am_ex d) M69 0 [.ref 5, .null, .null, .null] [] σ := am_ex_s m69 (Nat.le_of_ble_eq_true rfl) rfl
theorem e70 (d : Nat) (σ : am_M) (v1 v2 v3 : Int32) : am_ex (d + 1) 70 [.ref 5, .int v1, .int v2, .int v3] σ = am_go am_X0 (am_ex d) M70 0 [.ref 5, .int v1, .int v2, .int v3, .null, .null, .null] [] σ := am_ex_s m70 (Nat.le_of_ble_eq_true rfl) rfl
theorem e71 (d : Nat) (σ : am_M) (v1 : Int32) : am_ex (d + 1) 71 [.ref 5, .int v1] σ = am_go am_X0 (am_ex d) M71 0 [.ref 5, .int v1, .null, .null] [] σ := am_ex_s m71 (Nat.le_of_ble_eq_true rfl) rfl
theorem e72 (d : Nat) (σ : am_M) : am_ex (d + 1) 72 [.ref 5] σ = am_go am_X0 (am_ex d) M72 0 [.ref 5, .null, .null] [] σ := am_ex_s m72 (Nat.le_of_ble_eq_true rfl) rfl
theorem e73 (d : Nat) (σ : am_M) (v1 v2 : Int32) : am_ex (d + 1) 73 [.ref 5, .int v1, .int v2] σ = am_go am_X0 (am_ex d) M73 0 [.ref 5, .int v1, .int v2, .null, .null] [] σ := am_ex_s m73 (Nat.le_of_ble_eq_true rfl) rfl
theorem e74 (d : Nat) (σ : am_M) (v1 v2 : Int32) : am_ex (d + 1) 74 [.ref 5, .int v1, .int v2] σ = am_go am_X0 (am_ex d) M74 0 [.ref 5, .int v1, .int v2, .null, .null] [] σ := am_ex_s m74 (Nat.le_of_ble_eq_true rfl) rfl
theorem e75 (d : Nat) (σ : am_M) (v1 v2 : Int32) : am_ex (d + 1) 75 [.ref 5, .int v1, .int v2] σ = am_go am_X0 (am_ex d) M75 0 [.ref 5, .int v1, .int v2] [] σ := am_ex_s m75 (Nat.le_of_ble_eq_true rfl) rfl
theorem e76 (d : Nat) (σ : am_M) : am_ex (d + 1) 76 [.ref 3] σ = am_go am_X0 (am_ex d) M76 0 [.ref 3] [] σ := am_ex_s m76 (Nat.le_of_ble_eq_true rfl) rfl
theorem e77 (d : Nat) (σ : am_M) (v1 : Int32) : am_ex (d + 1) 77 [.ref 3, .int v1] σ = am_go am_X0 (am_ex d) M77 0 [.ref 3, .int v1] [] σ := am_ex_s m77 (Nat.le_of_ble_eq_true rfl) rfl
theorem e78 (d : Nat) (σ : am_M) (v1 : Int32) : am_ex (d + 1) 78 [.ref 3, .int v1] σ = am_go am_X0 (am_ex d) M78 0 [.ref 3, .int v1] [] σ := am_ex_s m78 (Nat.le_of_ble_eq_true rfl) rfl
theorem e79 (d : Nat) (σ : am_M) (v1 : Int32) : am_ex (d + 1) 79 [.ref 3, .int v1] σ = am_go am_X0 (am_ex d) M79 0 [.ref 3, .int v1] [] σ := am_ex_s m79 (Nat.le_of_ble_eq_true rfl) rfl
theorem e80 (d : Nat) (σ : am_M) (v1 : Int32) : am_ex (d + 1) 80 [.ref 3, .int v1] σ = am_go am_X0 (am_ex d) M80 0 [.ref 3, .int v1] [] σ := am_ex_s m80 (Nat.le_of_ble_eq_true rfl) rfl
theorem e81 (d : Nat) (σ : am_M) (v1 v2 : Int32) : am_ex (d + 1) 81 [.ref 3, .int v1, .int v2] σ = am_go am_X0 (am_ex d) M81 0 [.ref 3, .int v1, .int v2, .null] [] σ := am_ex_s m81 (Nat.le_of_ble_eq_true rfl) rfl
theorem e82 (d : Nat) (σ : am_M) (v1 : Int32) : am_ex (d + 1) 82 [.ref 3, .int v1] σ = am_go am_X0 (am_ex d) M82 0 [.ref 3, .int v1] [] σ := am_ex_s m82 (Nat.le_of_ble_eq_true rfl) rfl
theorem e83 (d : Nat) (σ : am_M) (v1 v2 : Int32) : am_ex (d + 1) 83 [.ref 3, .int v1, .int v2] σ = am_go am_X0 (am_ex d) M83 0 [.ref 3, .int v1, .int v2] [] σ := am_ex_s m83 (Nat.le_of_ble_eq_true rfl) rfl
theorem e84 (d : Nat) (σ : am_M) (v1 v2 : Int32) : am_ex (d + 1) 84 [.ref 3, .int v1, .int v2] σ = am_go am_X0 (am_ex d) M84 0 [.ref 3, .int v1, .int v2] [] σ := am_ex_s m84 (Nat.le_of_ble_eq_true rfl) rfl
theorem e85 (d : Nat) (σ : am_M) (v1 v2 : Int32) : am_ex (d + 1) 85 [.ref 3, .int v1, .int v2] σ = am_go am_X0 (am_ex d) M85 0 [.ref 3, .int v1, .int v2] [] σ := am_ex_s m85 (Nat.le_of_ble_eq_true rfl) rfl
theorem e86 (d : Nat) (σ : am_M) (v1 v2 : Int32) : am_ex (d + 1) 86 [.ref 3, .int v1, .int v2] σ = am_go am_X0 (am_ex d) M86 0 [.ref 3, .int v1, .int v2, .null] [] σ := am_ex_s m86 (Nat.le_of_ble_eq_true rfl) rfl
theorem e87 (d : Nat) (σ : am_M) : am_ex (d + 1) 87 [.ref 3] σ = am_go am_X0 (am_ex d) M87 0 [.ref 3, .null, .null] [] σ := am_ex_s m87 (Nat.le_of_ble_eq_true rfl) rfl
theorem e88 (d : Nat) (σ : am_M) (v1 v2 : Int32) : am_ex (d + 1) 88 [.ref 3, .int v1, .int v2] σ = am_go am_X0 (am_ex d) M88 0 [.ref 3, .int v1, .int v2, .null, .null] [] σ := am_ex_s m88 (Nat.le_of_ble_eq_true rfl) rfl
theorem e89 (d : Nat) (σ : am_M) (v1 : Int32) : am_ex (d + 1) 89 [.ref 3, .int v1] σ = am_go am_X0 (am_ex d) M89 0 [.ref 3, .int v1, .null, .null, .null] [] σ := am_ex_s m89 (Nat.le_of_ble_eq_true rfl) rfl
theorem e90 (d : Nat) (σ : am_M) (v1 : Int32) : am_ex (d + 1) 90 [.ref 3, .int v1] σ = am_go am_X0 (am_ex d) M90 0 [.ref 3, .int v1, .null, .null] [] σ := am_ex_s m90 (Nat.le_of_ble_eq_true rfl) rfl
theorem e91 (d : Nat) (σ : am_M) (v1 : Int32) : am_ex (d + 1) 91 [.ref 3, .int v1] σ = am_go am_X0 (am_ex d) M91 0 [.ref 3, .int v1] [] σ := am_ex_s m91 (Nat.le_of_ble_eq_true rfl) rfl
theorem e92 (d : Nat) (σ : am_M) (v1 v2 : Int32) : am_ex (d + 1) 92 [.ref 3, .int v1, .int v2] σ = am_go am_X0 (am_ex d) M92 0 [.ref 3, .int v1, .int v2, .null, .null, .null, .null, .null] [] σ := am_ex_s m92 (Nat.le_of_ble_eq_true rfl) rfl
theorem e93 (d : Nat) (σ : am_M) (v1 : Int32) : am_ex (d + 1) 93 [.ref 3, .int v1] σ = am_go am_X0 (am_ex d) M93 0 [.ref 3, .int v1, .null, .null] [] σ := am_ex_s m93 (Nat.le_of_ble_eq_true rfl) rfl
theorem e94 (d : Nat) (σ : am_M) : am_ex (d + 1) 94 [.ref 3, .ref 7] σ = am_go am_X0 (am_ex d) M94 0 [.ref 3, .ref 7, .null] [] σ := am_ex_s m94 (Nat.le_of_ble_eq_true rfl) rfl
theorem e95 (d : Nat) (σ : am_M) (v1 : Int32) : am_ex (d + 1) 95 [.ref 3, .int v1] σ = am_go am_X0 (am_ex d) M95 0 [.ref 3, .int v1, .null] [] σ := am_ex_s m95 (Nat.le_of_ble_eq_true rfl) rfl
theorem e96 (d : Nat) (σ : am_M) (v1 v2 : Int32) : am_ex (d + 1) 96 [.ref 3, .int v1, .int v2] σ = am_go am_X0 (am_ex d) M96 0 [.ref 3, .int v1, .int v2, .null, .null] [] σ := am_ex_s m96 (Nat.le_of_ble_eq_true rfl) rfl
theorem e97 (d : Nat) (σ : am_M) (v1 : Int32) : am_ex (d + 1) 97 [.ref 0, .int v1] σ = am_go am_X0 (am_ex d) M97 0 [.ref 0, .int v1] [] σ := am_ex_s m97 (Nat.le_of_ble_eq_true rfl) rfl
theorem e98 (d : Nat) (σ : am_M) (v1 : Int32) (w2 : Int64) : am_ex (d + 1) 98 [.ref 0, .int v1, .long w2] σ = am_go am_X0 (am_ex d) M98 0 [.ref 0, .int v1, .long w2, .null, .null, .null] [] σ := am_ex_s m98 (Nat.le_of_ble_eq_true rfl) rfl
theorem e99 (d : Nat) (σ : am_M) (v1 : Int32) : am_ex (d + 1) 99 [.ref 0, .int v1] σ = am_go am_X0 (am_ex d) M99 0 [.ref 0, .int v1] [] σ := am_ex_s m99 (Nat.le_of_ble_eq_true rfl) rfl
theorem e100 (d : Nat) (σ : am_M) (v1 : Int32) : am_ex (d + 1) 100 [.ref 0, .int v1] σ = am_go am_X0 (am_ex d) M100 0 [.ref 0, .int v1] [] σ := am_ex_s m100 (Nat.le_of_ble_eq_true rfl) rfl
theorem e101 (d : Nat) (σ : am_M) (v1 : Int32) : am_ex (d + 1) 101 [.ref 0, .int v1] σ = am_go am_X0 (am_ex d) M101 0 [.ref 0, .int v1] [] σ := am_ex_s m101 (Nat.le_of_ble_eq_true rfl) rfl
theorem e102 (d : Nat) (σ : am_M) (v1 : Int32) : am_ex (d + 1) 102 [.ref 0, .int v1] σ = am_go am_X0 (am_ex d) M102 0 [.ref 0, .int v1, .null] [] σ := am_ex_s m102 (Nat.le_of_ble_eq_true rfl) rfl
theorem e103 (d : Nat) (σ : am_M) (v1 : Int32) : am_ex (d + 1) 103 [.ref 0, .int v1] σ = am_go am_X0 (am_ex d) M103 0 [.ref 0, .int v1, .null, .null] [] σ := am_ex_s m103 (Nat.le_of_ble_eq_true rfl) rfl
theorem e104 (d : Nat) (σ : am_M) (v1 v2 : Int32) : am_ex (d + 1) 104 [.ref 0, .int v1, .int v2] σ = am_go am_X0 (am_ex d) M104 0 [.ref 0, .int v1, .int v2] [] σ := am_ex_s m104 (Nat.le_of_ble_eq_true rfl) rfl
theorem e105 (d : Nat) (σ : am_M) (v1 v2 : Int32) : am_ex (d + 1) 105 [.ref 0, .int v1, .int v2] σ = am_go am_X0 (am_ex d) M105 0 [.ref 0, .int v1, .int v2] [] σ := am_ex_s m105 (Nat.le_of_ble_eq_true rfl) rfl
theorem e106 (d : Nat) (σ : am_M) (v1 v2 : Int32) : am_ex (d + 1) 106 [.ref 0, .int v1, .int v2] σ = am_go am_X0 (am_ex d) M106 0 [.ref 0, .int v1, .int v2] [] σ := am_ex_s m106 (Nat.le_of_ble_eq_true rfl) rfl
theorem e107 (d : Nat) (σ : am_M) (v1 v2 : Int32) : am_ex (d + 1) 107 [.ref 0, .int v1, .int v2] σ = am_go am_X0 (am_ex d) M107 0 [.ref 0, .int v1, .int v2, .null, .null] [] σ := am_ex_s m107 (Nat.le_of_ble_eq_true rfl) rfl
theorem e108 (d : Nat) (σ : am_M) (v1 : Int32) : am_ex (d + 1) 108 [.ref 0, .int v1] σ = am_go am_X0 (am_ex d) M108 0 [.ref 0, .int v1, .null] [] σ := am_ex_s m108 (Nat.le_of_ble_eq_true rfl) rfl
theorem e109 (d : Nat) (σ : am_M) (v1 : Int32) : am_ex (d + 1) 109 [.ref 0, .int v1] σ = am_go am_X0 (am_ex d) M109 0 [.ref 0, .int v1] [] σ := am_ex_s m109 (Nat.le_of_ble_eq_true rfl) rfl
theorem e110 (d : Nat) (σ : am_M) (v1 v2 : Int32) : am_ex (d + 1) 110 [.ref 0, .int v1, .int v2] σ = am_go am_X0 (am_ex d) M110 0 [.ref 0, .int v1, .int v2, .null] [] σ := am_ex_s m110 (Nat.le_of_ble_eq_true rfl) rfl
theorem e111 (d : Nat) (σ : am_M) : am_ex (d + 1) 111 [.ref 0] σ = am_go am_X0 (am_ex d) M111 0 [.ref 0] [] σ := am_ex_s m111 (Nat.le_of_ble_eq_true rfl) rfl
theorem e112 (d : Nat) (σ : am_M) (v1 v2 : Int32) : am_ex (d + 1) 112 [.ref 0, .int v1, .int v2] σ = am_go am_X0 (am_ex d) M112 0 [.ref 0, .int v1, .int v2, .null] [] σ := am_ex_s m112 (Nat.le_of_ble_eq_true rfl) rfl
theorem e113 (d : Nat) (σ : am_M) (v1 : Int32) : am_ex (d + 1) 113 [.ref 0, .int v1] σ = am_go am_X0 (am_ex d) M113 0 [.ref 0, .int v1, .null, .null] [] σ := am_ex_s m113 (Nat.le_of_ble_eq_true rfl) rfl
theorem e114 (d : Nat) (σ : am_M) : am_ex (d + 1) 114 [.ref 0] σ = am_go am_X0 (am_ex d) M114 0 [.ref 0] [] σ := am_ex_s m114 (Nat.le_of_ble_eq_true rfl) rfl
theorem e115 (d : Nat) (σ : am_M) (v1 : Int32) : am_ex (d + 1) 115 [.ref 0, .int v1] σ = am_go am_X0 (am_ex d) M115 0 [.ref 0, .int v1, .null, .null] [] σ := am_ex_s m115 (Nat.le_of_ble_eq_true rfl) rfl
theorem e116 (d : Nat) (σ : am_M) (v1 : Int32) : am_ex (d + 1) 116 [.ref 0, .int v1] σ = am_go am_X0 (am_ex d) M116 0 [.ref 0, .int v1, .null] [] σ := am_ex_s m116 (Nat.le_of_ble_eq_true rfl) rfl
theorem e117 (d : Nat) (σ : am_M) (v1 : Int32) : am_ex (d + 1) 117 [.ref 0, .int v1] σ = am_go am_X0 (am_ex d) M117 0 [.ref 0, .int v1, .null, .null] [] σ := am_ex_s m117 (Nat.le_of_ble_eq_true rfl) rfl
theorem e118 (d : Nat) (σ : am_M) : am_ex (d + 1) 118 [.ref 0] σ = am_go am_X0 (am_ex d) M118 0 [.ref 0] [] σ := am_ex_s m118 (Nat.le_of_ble_eq_true rfl) rfl
theorem e119 (d : Nat) (σ : am_M) (v1 : Int32) : am_ex (d + 1) 119 [.ref 0, .int v1] σ = am_go am_X0 (am_ex d) M119 0 [.ref 0, .int v1, .null, .null, .null] [] σ := am_ex_s m119 (Nat.le_of_ble_eq_true rfl) rfl
theorem e120 (d : Nat) (σ : am_M) (v1 : Int32) : am_ex (d + 1) 120 [.ref 0, .int v1] σ = am_go am_X0 (am_ex d) M120 0 [.ref 0, .int v1] [] σ := am_ex_s m120 (Nat.le_of_ble_eq_true rfl) rfl
theorem e121 (d : Nat) (σ : am_M) (v1 : Int32) : am_ex (d + 1) 121 [.ref 0, .int v1] σ = am_go am_X0 (am_ex d) M121 0 [.ref 0, .int v1] [] σ := am_ex_s m121 (Nat.le_of_ble_eq_true rfl) rfl
theorem e122 (d : Nat) (σ : am_M) (v1 v2 : Int32) : am_ex (d + 1) 122 [.ref 0, .int v1, .int v2] σ = am_go am_X0 (am_ex d) M122 0 [.ref 0, .int v1, .int v2] [] σ := am_ex_s m122 (Nat.le_of_ble_eq_true rfl) rfl
theorem e123 (d : Nat) (σ : am_M) (v1 : Int32) : am_ex (d + 1) 123 [.ref 0, .int v1] σ = am_go am_X0 (am_ex d) M123 0 [.ref 0, .int v1, .null] [] σ := am_ex_s m123 (Nat.le_of_ble_eq_true rfl) rfl
theorem e124 (d : Nat) (σ : am_M) (v1 v2 : Int32) : am_ex (d + 1) 124 [.ref 0, .int v1, .int v2] σ = am_go am_X0 (am_ex d) M124 0 [.ref 0, .int v1, .int v2, .null, .null] [] σ := am_ex_s m124 (Nat.le_of_ble_eq_true rfl) rfl
theorem e125 (d : Nat) (σ : am_M) (v1 : Int32) : am_ex (d + 1) 125 [.ref 0, .int v1] σ = am_go am_X0 (am_ex d) M125 0 [.ref 0, .int v1] [] σ := am_ex_s m125 (Nat.le_of_ble_eq_true rfl) rfl
theorem e126 (d : Nat) (σ : am_M) (v1 v2 : Int32) : am_ex (d + 1) 126 [.ref 0, .int v1, .int v2] σ = am_go am_X0 (am_ex d) M126 0 [.ref 0, .int v1, .int v2, .null, .null] [] σ := am_ex_s m126 (Nat.le_of_ble_eq_true rfl) rfl
theorem e127 (d : Nat) (σ : am_M) (v1 : Int32) : am_ex (d + 1) 127 [.ref 0, .int v1] σ = am_go am_X0 (am_ex d) M127 0 [.ref 0, .int v1] [] σ := am_ex_s m127 (Nat.le_of_ble_eq_true rfl) rfl
theorem e128 (d : Nat) (σ : am_M) : am_ex (d + 1) 128 [.ref 0] σ = am_go am_X0 (am_ex d) M128 0 [.ref 0] [] σ := am_ex_s m128 (Nat.le_of_ble_eq_true rfl) rfl
theorem e129 (d : Nat) (σ : am_M) : am_ex (d + 1) 129 [.ref 0] σ = am_go am_X0 (am_ex d) M129 0 [.ref 0] [] σ := am_ex_s m129 (Nat.le_of_ble_eq_true rfl) rfl
theorem e130 (d : Nat) (σ : am_M) (v1 v2 : Int32) : am_ex (d + 1) 130 [.ref 0, .int v1, .int v2] σ = am_go am_X0 (am_ex d) M130 0 [.ref 0, .int v1, .int v2] [] σ := am_ex_s m130 (Nat.le_of_ble_eq_true rfl) rfl
theorem e131 (d : Nat) (σ : am_M) (v1 v2 v3 : Int32) : am_ex (d + 1) 131 [.ref 0, .int v1, .int v2, .int v3] σ = am_go am_X0 (am_ex d) M131 0 [.ref 0, .int v1, .int v2, .int v3, .null] [] σ := am_ex_s m131 (Nat.le_of_ble_eq_true rfl) rfl
theorem e132 (d : Nat) (σ : am_M) (v1 : Int32) : am_ex (d + 1) 132 [.ref 0, .int v1] σ = am_go am_X0 (am_ex d) M132 0 [.ref 0, .int v1] [] σ := am_ex_s m132 (Nat.le_of_ble_eq_true rfl) rfl
theorem e133 (d : Nat) (σ : am_M) (v1 : Int32) : am_ex (d + 1) 133 [.ref 0, .int v1] σ = am_go am_X0 (am_ex d) M133 0 [.ref 0, .int v1] [] σ := am_ex_s m133 (Nat.le_of_ble_eq_true rfl) rfl
theorem e134 (d : Nat) (σ : am_M) (v1 : Int32) : am_ex (d + 1) 134 [.ref 0, .int v1] σ = am_go am_X0 (am_ex d) M134 0 [.ref 0, .int v1, .null, .null, .null] [] σ := am_ex_s m134 (Nat.le_of_ble_eq_true rfl) rfl
theorem e135 (d : Nat) (σ : am_M) (v1 : Int32) : am_ex (d + 1) 135 [.ref 0, .int v1] σ = am_go am_X0 (am_ex d) M135 0 [.ref 0, .int v1] [] σ := am_ex_s m135 (Nat.le_of_ble_eq_true rfl) rfl
theorem e136 (d : Nat) (σ : am_M) : am_ex (d + 1) 136 [.ref 0] σ = am_go am_X0 (am_ex d) M136 0 [.ref 0, .null, .null, .null] [] σ := am_ex_s m136 (Nat.le_of_ble_eq_true rfl) rfl
theorem e137 (d : Nat) (σ : am_M) : am_ex (d + 1) 137 [.ref 0] σ = am_go am_X0 (am_ex d) M137 0 [.ref 0, .null, .null, .null] [] σ := am_ex_s m137 (Nat.le_of_ble_eq_true rfl) rfl
theorem e138 (d : Nat) (σ : am_M) (v1 : Int32) : am_ex (d + 1) 138 [.ref 0, .int v1] σ = am_go am_X0 (am_ex d) M138 0 [.ref 0, .int v1] [] σ := am_ex_s m138 (Nat.le_of_ble_eq_true rfl) rfl
theorem e139 (d : Nat) (σ : am_M) (v1 v2 : Int32) : am_ex (d + 1) 139 [.ref 0, .int v1, .int v2] σ = am_go am_X0 (am_ex d) M139 0 [.ref 0, .int v1, .int v2] [] σ := am_ex_s m139 (Nat.le_of_ble_eq_true rfl) rfl
theorem e140 (d : Nat) (σ : am_M) (v1 v2 : Int32) : am_ex (d + 1) 140 [.ref 0, .int v1, .int v2] σ = am_go am_X0 (am_ex d) M140 0 [.ref 0, .int v1, .int v2] [] σ := am_ex_s m140 (Nat.le_of_ble_eq_true rfl) rfl
theorem e141 (d : Nat) (σ : am_M) (v1 : Int32) : am_ex (d + 1) 141 [.ref 0, .int v1] σ = am_go am_X0 (am_ex d) M141 0 [.ref 0, .int v1] [] σ := am_ex_s m141 (Nat.le_of_ble_eq_true rfl) rfl
theorem e142 (d : Nat) (σ : am_M) (v1 v2 : Int32) : am_ex (d + 1) 142 [.ref 0, .int v1, .int v2] σ = am_go am_X0 (am_ex d) M142 0 [.ref 0, .int v1, .int v2] [] σ := am_ex_s m142 (Nat.le_of_ble_eq_true rfl) rfl
theorem e143 (d : Nat) (σ : am_M) (v1 : Int32) : am_ex (d + 1) 143 [.ref 0, .int v1] σ = am_go am_X0 (am_ex d) M143 0 [.ref 0, .int v1] [] σ := am_ex_s m143 (Nat.le_of_ble_eq_true rfl) rfl
theorem e144 (d : Nat) (σ : am_M) (v0 v1 : Int32) : am_ex (d + 1) 144 [.int v0, .int v1] σ = am_go am_X0 (am_ex d) M144 0 [.int v0, .int v1] [] σ := am_ex_s m144 (Nat.le_of_ble_eq_true rfl) rfl
theorem e145 (d : Nat) (σ : am_M) (v0 v1 : Int32) : am_ex (d + 1) 145 [.int v0, .int v1] σ = am_go am_X0 (am_ex d) M145 0 [.int v0, .int v1] [] σ := am_ex_s m145 (Nat.le_of_ble_eq_true rfl) rfl
theorem e146 (d : Nat) (σ : am_M) (v1 : Int32) : am_ex (d + 1) 146 [.ref 0, .int v1] σ = am_go am_X0 (am_ex d) M146 0 [.ref 0, .int v1] [] σ := am_ex_s m146 (Nat.le_of_ble_eq_true rfl) rfl
theorem e147 (d : Nat) (σ : am_M) (v1 v2 : Int32) : am_ex (d + 1) 147 [.ref 0, .int v1, .int v2] σ = am_go am_X0 (am_ex d) M147 0 [.ref 0, .int v1, .int v2] [] σ := am_ex_s m147 (Nat.le_of_ble_eq_true rfl) rfl
theorem e148 (d : Nat) (σ : am_M) (v1 : Int32) : am_ex (d + 1) 148 [.ref 0, .int v1] σ = am_go am_X0 (am_ex d) M148 0 [.ref 0, .int v1] [] σ := am_ex_s m148 (Nat.le_of_ble_eq_true rfl) rfl
theorem e149 (d : Nat) (σ : am_M) (v1 v2 : Int32) : am_ex (d + 1) 149 [.ref 0, .int v1, .int v2] σ = am_go am_X0 (am_ex d) M149 0 [.ref 0, .int v1, .int v2, .null] [] σ := am_ex_s m149 (Nat.le_of_ble_eq_true rfl) rfl
theorem e150 (d : Nat) (σ : am_M) (v1 v2 v3 : Int32) : am_ex (d + 1) 150 [.ref 0, .int v1, .int v2, .int v3] σ = am_go am_X0 (am_ex d) M150 0 [.ref 0, .int v1, .int v2, .int v3] [] σ := am_ex_s m150 (Nat.le_of_ble_eq_true rfl) rfl
theorem e151 (d : Nat) (σ : am_M) (v1 : Int32) : am_ex (d + 1) 151 [.ref 0, .int v1] σ = am_go am_X0 (am_ex d) M151 0 [.ref 0, .int v1] [] σ := am_ex_s m151 (Nat.le_of_ble_eq_true rfl) rfl
theorem e152 (d : Nat) (σ : am_M) (v1 : Int32) : am_ex (d + 1) 152 [.ref 0, .int v1] σ = am_go am_X0 (am_ex d) M152 0 [.ref 0, .int v1, .null, .null] [] σ := am_ex_s m152 (Nat.le_of_ble_eq_true rfl) rfl
theorem e153 (d : Nat) (σ : am_M) (v1 : Int32) : am_ex (d + 1) 153 [.ref 0, .int v1] σ = am_go am_X0 (am_ex d) M153 0 [.ref 0, .int v1, .null, .null] [] σ := am_ex_s m153 (Nat.le_of_ble_eq_true rfl) rfl
theorem e154 (d : Nat) (σ : am_M) (v1 : Int32) : am_ex (d + 1) 154 [.ref 0, .int v1] σ = am_go am_X0 (am_ex d) M154 0 [.ref 0, .int v1, .null, .null, .null] [] σ := am_ex_s m154 (Nat.le_of_ble_eq_true rfl) rfl
theorem e155 (d : Nat) (σ : am_M) (v1 : Int32) : am_ex (d + 1) 155 [.ref 0, .int v1] σ = am_go am_X0 (am_ex d) M155 0 [.ref 0, .int v1, .null, .null] [] σ := am_ex_s m155 (Nat.le_of_ble_eq_true rfl) rfl
theorem e156 (d : Nat) (σ : am_M) : am_ex (d + 1) 156 [.ref 0] σ = am_go am_X0 (am_ex d) M156 0 [.ref 0, .null] [] σ := am_ex_s m156 (Nat.le_of_ble_eq_true rfl) rfl
theorem e157 (d : Nat) (σ : am_M) : am_ex (d + 1) 157 [.ref 0] σ = am_go am_X0 (am_ex d) M157 0 [.ref 0, .null, .null, .null] [] σ := am_ex_s m157 (Nat.le_of_ble_eq_true rfl) rfl
theorem e158 (d : Nat) (σ : am_M) (v1 v2 : Int32) : am_ex (d + 1) 158 [.ref 0, .int v1, .int v2] σ = am_go am_X0 (am_ex d) M158 0 [.ref 0, .int v1, .int v2, .null] [] σ := am_ex_s m158 (Nat.le_of_ble_eq_true rfl) rfl
theorem e159 (d : Nat) (σ : am_M) (v1 : Int32) : am_ex (d + 1) 159 [.ref 0, .int v1] σ = am_go am_X0 (am_ex d) M159 0 [.ref 0, .int v1, .null] [] σ := am_ex_s m159 (Nat.le_of_ble_eq_true rfl) rfl
theorem e160 (d : Nat) (σ : am_M) (v1 : Int32) : am_ex (d + 1) 160 [.ref 0, .int v1] σ = am_go am_X0 (am_ex d) M160 0 [.ref 0, .int v1, .null, .null, .null, .null, .null] [] σ := am_ex_s m160 (Nat.le_of_ble_eq_true rfl) rfl
theorem e161 (d : Nat) (σ : am_M) (v0 : Int32) : am_ex (d + 1) 161 [.int v0] σ = am_go am_X0 (am_ex d) M161 0 [.int v0, .null] [] σ := am_ex_s m161 (Nat.le_of_ble_eq_true rfl) rfl
theorem e162 (d : Nat) (σ : am_M) (v0 : Int32) : am_ex (d + 1) 162 [.int v0] σ = am_go am_X0 (am_ex d) M162 0 [.int v0] [] σ := am_ex_s m162 (Nat.le_of_ble_eq_true rfl) rfl
theorem e163 (d : Nat) (σ : am_M) (v0 : Int32) : am_ex (d + 1) 163 [.int v0] σ = am_go am_X0 (am_ex d) M163 0 [.int v0] [] σ := am_ex_s m163 (Nat.le_of_ble_eq_true rfl) rfl
theorem e164 (d : Nat) (σ : am_M) (v0 : Int32) : am_ex (d + 1) 164 [.int v0] σ = am_go am_X0 (am_ex d) M164 0 [.int v0] [] σ := am_ex_s m164 (Nat.le_of_ble_eq_true rfl) rfl
theorem e165 (d : Nat) (σ : am_M) (v0 : Int32) : am_ex (d + 1) 165 [.int v0] σ = am_go am_X0 (am_ex d) M165 0 [.int v0, .null] [] σ := am_ex_s m165 (Nat.le_of_ble_eq_true rfl) rfl
theorem e166 (d : Nat) (σ : am_M) (v0 : Int32) : am_ex (d + 1) 166 [.int v0] σ = am_go am_X0 (am_ex d) M166 0 [.int v0] [] σ := am_ex_s m166 (Nat.le_of_ble_eq_true rfl) rfl
theorem e167 (d : Nat) (σ : am_M) (v0 : Int32) : am_ex (d + 1) 167 [.int v0] σ = am_go am_X0 (am_ex d) M167 0 [.int v0] [] σ := am_ex_s m167 (Nat.le_of_ble_eq_true rfl) rfl
theorem e168 (d : Nat) (σ : am_M) (v0 v1 : Int32) : am_ex (d + 1) 168 [.int v0, .int v1] σ = am_go am_X0 (am_ex d) M168 0 [.int v0, .int v1, .null, .null] [] σ := am_ex_s m168 (Nat.le_of_ble_eq_true rfl) rfl
theorem e169 (d : Nat) (σ : am_M) (v0 : Int32) : am_ex (d + 1) 169 [.int v0] σ = am_go am_X0 (am_ex d) M169 0 [.int v0] [] σ := am_ex_s m169 (Nat.le_of_ble_eq_true rfl) rfl
theorem e170 (d : Nat) (σ : am_M) (v0 : Int32) : am_ex (d + 1) 170 [.int v0] σ = am_go am_X0 (am_ex d) M170 0 [.int v0] [] σ := am_ex_s m170 (Nat.le_of_ble_eq_true rfl) rfl
theorem e171 (d : Nat) (σ : am_M) (v0 v1 : Int32) : am_ex (d + 1) 171 [.int v0, .int v1] σ = am_go am_X0 (am_ex d) M171 0 [.int v0, .int v1, .null] [] σ := am_ex_s m171 (Nat.le_of_ble_eq_true rfl) rfl
theorem e172 (d : Nat) (σ : am_M) : am_ex (d + 1) 172 [.ref 34] σ = am_go am_X0 (am_ex d) M172 0 [.ref 34] [] σ := am_ex_s m172 (Nat.le_of_ble_eq_true rfl) rfl
theorem e173 (d : Nat) (σ : am_M) (w0 w2 w4 : Int64) : am_ex (d + 1) 173 [.long w0, .long w2, .long w4] σ = am_go am_X0 (am_ex d) M173 0 [.long w0, .null, .long w2, .null, .long w4, .null] [] σ := am_ex_s m173 (Nat.le_of_ble_eq_true rfl) rfl
theorem e174 (d : Nat) (σ : am_M) (v1 : Int32) : am_ex (d + 1) 174 [.ref 34, .int v1] σ = am_go am_X0 (am_ex d) M174 0 [.ref 34, .int v1, .null] [] σ := am_ex_s m174 (Nat.le_of_ble_eq_true rfl) rfl
theorem e175 (d : Nat) (σ : am_M) (v1 : Int32) : am_ex (d + 1) 175 [.ref 34, .int v1] σ = am_go am_X0 (am_ex d) M175 0 [.ref 34, .int v1] [] σ := am_ex_s m175 (Nat.le_of_ble_eq_true rfl) rfl
theorem e176 (d : Nat) (σ : am_M) (v0 : Int32) : am_ex (d + 1) 176 [.int v0] σ = am_go am_X0 (am_ex d) M176 0 [.int v0, .null] [] σ := am_ex_s m176 (Nat.le_of_ble_eq_true rfl) rfl
theorem e177 (d : Nat) (σ : am_M) : am_ex (d + 1) 177 [.ref 34] σ = am_go am_X0 (am_ex d) M177 0 [.ref 34] [] σ := am_ex_s m177 (Nat.le_of_ble_eq_true rfl) rfl
theorem e178 (d : Nat) (σ : am_M) (v1 : Int32) : am_ex (d + 1) 178 [.ref 34, .int v1] σ = am_go am_X0 (am_ex d) M178 0 [.ref 34, .int v1] [] σ := am_ex_s m178 (Nat.le_of_ble_eq_true rfl) rfl
theorem e179 (d : Nat) (σ : am_M) (v0 : Int32) : am_ex (d + 1) 179 [.int v0] σ = am_go am_X0 (am_ex d) M179 0 [.int v0] [] σ := am_ex_s m179 (Nat.le_of_ble_eq_true rfl) rfl
theorem e180 (d : Nat) (σ : am_M) (v0 : Int32) : am_ex (d + 1) 180 [.int v0] σ = am_go am_X0 (am_ex d) M180 0 [.int v0] [] σ := am_ex_s m180 (Nat.le_of_ble_eq_true rfl) rfl
theorem e181 (d : Nat) (σ : am_M) (v0 v1 : Int32) : am_ex (d + 1) 181 [.int v0, .int v1] σ = am_go am_X0 (am_ex d) M181 0 [.int v0, .int v1, .null] [] σ := am_ex_s m181 (Nat.le_of_ble_eq_true rfl) rfl
theorem e182 (d : Nat) (σ : am_M) (v0 : Int32) : am_ex (d + 1) 182 [.int v0] σ = am_go am_X0 (am_ex d) M182 0 [.int v0] [] σ := am_ex_s m182 (Nat.le_of_ble_eq_true rfl) rfl
theorem e183 (d : Nat) (σ : am_M) (v0 : Int32) : am_ex (d + 1) 183 [.int v0] σ = am_go am_X0 (am_ex d) M183 0 [.int v0] [] σ := am_ex_s m183 (Nat.le_of_ble_eq_true rfl) rfl
theorem e184 (d : Nat) (σ : am_M) (v1 : Int32) : am_ex (d + 1) 184 [.ref 34, .int v1] σ = am_go am_X0 (am_ex d) M184 0 [.ref 34, .int v1] [] σ := am_ex_s m184 (Nat.le_of_ble_eq_true rfl) rfl
theorem e185 (d : Nat) (σ : am_M) (v1 : Int32) : am_ex (d + 1) 185 [.ref 34, .int v1] σ = am_go am_X0 (am_ex d) M185 0 [.ref 34, .int v1] [] σ := am_ex_s m185 (Nat.le_of_ble_eq_true rfl) rfl
theorem e186 (d : Nat) (σ : am_M) (v1 : Int32) : am_ex (d + 1) 186 [.ref 34, .int v1] σ = am_go am_X0 (am_ex d) M186 0 [.ref 34, .int v1, .null] [] σ := am_ex_s m186 (Nat.le_of_ble_eq_true rfl) rfl
theorem e187 (d : Nat) (σ : am_M) (v1 v2 : Int32) : am_ex (d + 1) 187 [.ref 34, .int v1, .int v2] σ = am_go am_X0 (am_ex d) M187 0 [.ref 34, .int v1, .int v2] [] σ := am_ex_s m187 (Nat.le_of_ble_eq_true rfl) rfl
theorem e188 (d : Nat) (σ : am_M) (v1 v2 v3 v4 : Int32) (w5 : Int64) : am_ex (d + 1) 188 [.ref 34, .int v1, .int v2, .int v3, .int v4, .long w5] σ = am_go am_X0 (am_ex d) M188 0 [.ref 34, .int v1, .int v2, .int v3, .int v4, .long w5, .null, .null] [] σ := am_ex_s m188 (Nat.le_of_ble_eq_true rfl) rfl
theorem e189 (d : Nat) (σ : am_M) (v1 v2 : Int32) : am_ex (d + 1) 189 [.ref 34, .int v1, .int v2] σ = am_go am_X0 (am_ex d) M189 0 [.ref 34, .int v1, .int v2] [] σ := am_ex_s m189 (Nat.le_of_ble_eq_true rfl) rfl
theorem e190 (d : Nat) (σ : am_M) (v1 : Int32) : am_ex (d + 1) 190 [.ref 34, .int v1] σ = am_go am_X0 (am_ex d) M190 0 [.ref 34, .int v1] [] σ := am_ex_s m190 (Nat.le_of_ble_eq_true rfl) rfl
theorem e191 (d : Nat) (σ : am_M) (v1 v2 v3 v4 : Int32) : am_ex (d + 1) 191 [.ref 34, .int v1, .int v2, .int v3, .int v4] σ = am_go am_X0 (am_ex d) M191 0 [.ref 34, .int v1, .int v2, .int v3, .int v4, .null] [] σ := am_ex_s m191 (Nat.le_of_ble_eq_true rfl) rfl
theorem e192 (d : Nat) (σ : am_M) (v1 v2 v3 v4 : Int32) : am_ex (d + 1) 192 [.ref 34, .int v1, .int v2, .int v3, .int v4] σ = am_go am_X0 (am_ex d) M192 0 [.ref 34, .int v1, .int v2, .int v3, .int v4, .null] [] σ := am_ex_s m192 (Nat.le_of_ble_eq_true rfl) rfl
theorem e193 (d : Nat) (σ : am_M) (v1 v2 : Int32) : am_ex (d + 1) 193 [.ref 34, .int v1, .int v2] σ = am_go am_X0 (am_ex d) M193 0 [.ref 34, .int v1, .int v2, .null] [] σ := am_ex_s m193 (Nat.le_of_ble_eq_true rfl) rfl
theorem e194 (d : Nat) (σ : am_M) (v1 : Int32) : am_ex (d + 1) 194 [.ref 34, .int v1] σ = am_go am_X0 (am_ex d) M194 0 [.ref 34, .int v1, .null, .null] [] σ := am_ex_s m194 (Nat.le_of_ble_eq_true rfl) rfl
theorem e195 (d : Nat) (σ : am_M) (v1 : Int32) : am_ex (d + 1) 195 [.ref 34, .int v1] σ = am_go am_X0 (am_ex d) M195 0 [.ref 34, .int v1, .null] [] σ := am_ex_s m195 (Nat.le_of_ble_eq_true rfl) rfl
theorem e196 (d : Nat) (σ : am_M) (v1 : Int32) : am_ex (d + 1) 196 [.ref 34, .int v1] σ = am_go am_X0 (am_ex d) M196 0 [.ref 34, .int v1] [] σ := am_ex_s m196 (Nat.le_of_ble_eq_true rfl) rfl
theorem e197 (d : Nat) (σ : am_M) (v1 : Int32) : am_ex (d + 1) 197 [.ref 34, .int v1] σ = am_go am_X0 (am_ex d) M197 0 [.ref 34, .int v1, .null, .null] [] σ := am_ex_s m197 (Nat.le_of_ble_eq_true rfl) rfl
theorem e198 (d : Nat) (σ : am_M) (v1 : Int32) : am_ex (d + 1) 198 [.ref 34, .int v1] σ = am_go am_X0 (am_ex d) M198 0 [.ref 34, .int v1, .null, .null, .null] [] σ := am_ex_s m198 (Nat.le_of_ble_eq_true rfl) rfl
theorem e199 (d : Nat) (σ : am_M) (v1 : Int32) : am_ex (d + 1) 199 [.ref 34, .int v1] σ = am_go am_X0 (am_ex d) M199 0 [.ref 34, .int v1] [] σ := am_ex_s m199 (Nat.le_of_ble_eq_true rfl) rfl
theorem e200 (d : Nat) (σ : am_M) (v1 : Int32) : am_ex (d + 1) 200 [.ref 34, .int v1] σ = am_go am_X0 (am_ex d) M200 0 [.ref 34, .int v1, .null, .null] [] σ := am_ex_s m200 (Nat.le_of_ble_eq_true rfl) rfl
theorem e201 (d : Nat) (σ : am_M) (v1 : Int32) : am_ex (d + 1) 201 [.ref 34, .int v1] σ = am_go am_X0 (am_ex d) M201 0 [.ref 34, .int v1] [] σ := am_ex_s m201 (Nat.le_of_ble_eq_true rfl) rfl
theorem e202 (d : Nat) (σ : am_M) (v1 : Int32) (w2 : Int64) : am_ex (d + 1) 202 [.ref 34, .int v1, .long w2] σ = am_go am_X0 (am_ex d) M202 0 [.ref 34, .int v1, .long w2, .null, .null] [] σ := am_ex_s m202 (Nat.le_of_ble_eq_true rfl) rfl
theorem e203 (d : Nat) (σ : am_M) (v1 : Int32) : am_ex (d + 1) 203 [.ref 34, .int v1] σ = am_go am_X0 (am_ex d) M203 0 [.ref 34, .int v1] [] σ := am_ex_s m203 (Nat.le_of_ble_eq_true rfl) rfl
theorem e204 (d : Nat) (σ : am_M) (v1 : Int32) : am_ex (d + 1) 204 [.ref 34, .int v1] σ = am_go am_X0 (am_ex d) M204 0 [.ref 34, .int v1] [] σ := am_ex_s m204 (Nat.le_of_ble_eq_true rfl) rfl
theorem e205 (d : Nat) (σ : am_M) (v1 : Int32) : am_ex (d + 1) 205 [.ref 34, .int v1] σ = am_go am_X0 (am_ex d) M205 0 [.ref 34, .int v1] [] σ := am_ex_s m205 (Nat.le_of_ble_eq_true rfl) rfl
theorem e206 (d : Nat) (σ : am_M) (v1 : Int32) : am_ex (d + 1) 206 [.ref 34, .int v1] σ = am_go am_X0 (am_ex d) M206 0 [.ref 34, .int v1, .null, .null] [] σ := am_ex_s m206 (Nat.le_of_ble_eq_true rfl) rfl
theorem e207 (d : Nat) (σ : am_M) (v1 : Int32) : am_ex (d + 1) 207 [.ref 34, .int v1] σ = am_go am_X0 (am_ex d) M207 0 [.ref 34, .int v1, .null, .null] [] σ := am_ex_s m207 (Nat.le_of_ble_eq_true rfl) rfl
theorem e208 (d : Nat) (σ : am_M) (v0 : Int32) : am_ex (d + 1) 208 [.int v0] σ = am_go am_X0 (am_ex d) M208 0 [.int v0] [] σ := am_ex_s m208 (Nat.le_of_ble_eq_true rfl) rfl
theorem e209 (d : Nat) (σ : am_M) (v1 v2 : Int32) : am_ex (d + 1) 209 [.ref 34, .int v1, .int v2] σ = am_go am_X0 (am_ex d) M209 0 [.ref 34, .int v1, .int v2] [] σ := am_ex_s m209 (Nat.le_of_ble_eq_true rfl) rfl
theorem e210 (d : Nat) (σ : am_M) (v1 : Int32) : am_ex (d + 1) 210 [.ref 34, .int v1] σ = am_go am_X0 (am_ex d) M210 0 [.ref 34, .int v1, .null] [] σ := am_ex_s m210 (Nat.le_of_ble_eq_true rfl) rfl
theorem e211 (d : Nat) (σ : am_M) (v1 : Int32) : am_ex (d + 1) 211 [.ref 34, .int v1] σ = am_go am_X0 (am_ex d) M211 0 [.ref 34, .int v1, .null, .null, .null] [] σ := am_ex_s m211 (Nat.le_of_ble_eq_true rfl) rfl
theorem e212 (d : Nat) (σ : am_M) (v1 : Int32) : am_ex (d + 1) 212 [.ref 34, .int v1] σ = am_go am_X0 (am_ex d) M212 0 [.ref 34, .int v1, .null, .null, .null, .null] [] σ := am_ex_s m212 (Nat.le_of_ble_eq_true rfl) rfl
theorem e213 (d : Nat) (σ : am_M) (v1 v2 : Int32) : am_ex (d + 1) 213 [.ref 34, .int v1, .int v2] σ = am_go am_X0 (am_ex d) M213 0 [.ref 34, .int v1, .int v2, .null, .null] [] σ := am_ex_s m213 (Nat.le_of_ble_eq_true rfl) rfl
theorem e214 (d : Nat) (σ : am_M) (v1 v2 : Int32) : am_ex (d + 1) 214 [.ref 34, .int v1, .int v2] σ = am_go am_X0 (am_ex d) M214 0 [.ref 34, .int v1, .int v2, .null, .null, .null, .null, .null, .null] [] σ := am_ex_s m214 (Nat.le_of_ble_eq_true rfl) rfl
theorem e215 (d : Nat) (σ : am_M) (v1 : Int32) : am_ex (d + 1) 215 [.ref 34, .int v1] σ = am_go am_X0 (am_ex d) M215 0 [.ref 34, .int v1] [] σ := am_ex_s m215 (Nat.le_of_ble_eq_true rfl) rfl
theorem e216 (d : Nat) (σ : am_M) (v1 v2 : Int32) : am_ex (d + 1) 216 [.ref 34, .int v1, .int v2] σ = am_go am_X0 (am_ex d) M216 0 [.ref 34, .int v1, .int v2, .null] [] σ := am_ex_s m216 (Nat.le_of_ble_eq_true rfl) rfl
theorem e217 (d : Nat) (σ : am_M) (v1 : Int32) : am_ex (d + 1) 217 [.ref 34, .int v1] σ = am_go am_X0 (am_ex d) M217 0 [.ref 34, .int v1, .null, .null] [] σ := am_ex_s m217 (Nat.le_of_ble_eq_true rfl) rfl
theorem e218 (d : Nat) (σ : am_M) : am_ex (d + 1) 218 [.ref 34] σ = am_go am_X0 (am_ex d) M218 0 [.ref 34] [] σ := am_ex_s m218 (Nat.le_of_ble_eq_true rfl) rfl
theorem e219 (d : Nat) (σ : am_M) (v1 : Int32) : am_ex (d + 1) 219 [.ref 34, .int v1] σ = am_go am_X0 (am_ex d) M219 0 [.ref 34, .int v1, .null, .null] [] σ := am_ex_s m219 (Nat.le_of_ble_eq_true rfl) rfl
theorem e220 (d : Nat) (σ : am_M) (v0 : Int32) : am_ex (d + 1) 220 [.int v0] σ = am_go am_X0 (am_ex d) M220 0 [.int v0] [] σ := am_ex_s m220 (Nat.le_of_ble_eq_true rfl) rfl
theorem e221 (d : Nat) (σ : am_M) (v1 v2 : Int32) : am_ex (d + 1) 221 [.ref 34, .int v1, .int v2] σ = am_go am_X0 (am_ex d) M221 0 [.ref 34, .int v1, .int v2, .null, .null] [] σ := am_ex_s m221 (Nat.le_of_ble_eq_true rfl) rfl
theorem e222 (d : Nat) (σ : am_M) (v1 : Int32) : am_ex (d + 1) 222 [.ref 34, .int v1] σ = am_go am_X0 (am_ex d) M222 0 [.ref 34, .int v1, .null] [] σ := am_ex_s m222 (Nat.le_of_ble_eq_true rfl) rfl
theorem e223 (d : Nat) (σ : am_M) (v1 : Int32) : am_ex (d + 1) 223 [.ref 34, .int v1] σ = am_go am_X0 (am_ex d) M223 0 [.ref 34, .int v1, .null, .null] [] σ := am_ex_s m223 (Nat.le_of_ble_eq_true rfl) rfl
theorem e224 (d : Nat) (σ : am_M) (v1 : Int32) : am_ex (d + 1) 224 [.ref 34, .int v1] σ = am_go am_X0 (am_ex d) M224 0 [.ref 34, .int v1] [] σ := am_ex_s m224 (Nat.le_of_ble_eq_true rfl) rfl
theorem e225 (d : Nat) (σ : am_M) (v1 v2 : Int32) : am_ex (d + 1) 225 [.ref 34, .int v1, .int v2] σ = am_go am_X0 (am_ex d) M225 0 [.ref 34, .int v1, .int v2, .null] [] σ := am_ex_s m225 (Nat.le_of_ble_eq_true rfl) rfl
theorem e226 (d : Nat) (σ : am_M) : am_ex (d + 1) 226 [.ref 34] σ = am_go am_X0 (am_ex d) M226 0 [.ref 34, .null, .null] [] σ := am_ex_s m226 (Nat.le_of_ble_eq_true rfl) rfl
theorem e227 (d : Nat) (σ : am_M) : am_ex (d + 1) 227 [.ref 34] σ = am_go am_X0 (am_ex d) M227 0 [.ref 34] [] σ := am_ex_s m227 (Nat.le_of_ble_eq_true rfl) rfl
theorem e228 (d : Nat) (σ : am_M) (v1 : Int32) : am_ex (d + 1) 228 [.ref 34, .int v1] σ = am_go am_X0 (am_ex d) M228 0 [.ref 34, .int v1, .null] [] σ := am_ex_s m228 (Nat.le_of_ble_eq_true rfl) rfl
theorem e229 (d : Nat) (σ : am_M) : am_ex (d + 1) 229 [.ref 34] σ = am_go am_X0 (am_ex d) M229 0 [.ref 34, .null, .null, .null] [] σ := am_ex_s m229 (Nat.le_of_ble_eq_true rfl) rfl
theorem e230 (d : Nat) (σ : am_M) (v1 : Int32) : am_ex (d + 1) 230 [.ref 34, .int v1] σ = am_go am_X0 (am_ex d) M230 0 [.ref 34, .int v1, .null, .null, .null, .null] [] σ := am_ex_s m230 (Nat.le_of_ble_eq_true rfl) rfl
theorem e231 (d : Nat) (σ : am_M) (v1 : Int32) : am_ex (d + 1) 231 [.ref 34, .int v1] σ = am_go am_X0 (am_ex d) M231 0 [.ref 34, .int v1, .null, .null] [] σ := am_ex_s m231 (Nat.le_of_ble_eq_true rfl) rfl
theorem e232 (d : Nat) (σ : am_M) (v1 : Int32) : am_ex (d + 1) 232 [.ref 34, .int v1] σ = am_go am_X0 (am_ex d) M232 0 [.ref 34, .int v1, .null] [] σ := am_ex_s m232 (Nat.le_of_ble_eq_true rfl) rfl
theorem e233 (d : Nat) (σ : am_M) : am_ex (d + 1) 233 [.ref 34] σ = am_go am_X0 (am_ex d) M233 0 [.ref 34] [] σ := am_ex_s m233 (Nat.le_of_ble_eq_true rfl) rfl
theorem e234 (d : Nat) (σ : am_M) (v1 : Int32) : am_ex (d + 1) 234 [.ref 34, .int v1] σ = am_go am_X0 (am_ex d) M234 0 [.ref 34, .int v1, .null, .null] [] σ := am_ex_s m234 (Nat.le_of_ble_eq_true rfl) rfl
theorem e235 (d : Nat) (σ : am_M) (v1 : Int32) : am_ex (d + 1) 235 [.ref 34, .int v1] σ = am_go am_X0 (am_ex d) M235 0 [.ref 34, .int v1, .null, .null, .null, .null] [] σ := am_ex_s m235 (Nat.le_of_ble_eq_true rfl) rfl
theorem e236 (d : Nat) (σ : am_M) (v1 : Int32) : am_ex (d + 1) 236 [.ref 34, .int v1] σ = am_go am_X0 (am_ex d) M236 0 [.ref 34, .int v1] [] σ := am_ex_s m236 (Nat.le_of_ble_eq_true rfl) rfl
theorem e237 (d : Nat) (σ : am_M) (v1 : Int32) : am_ex (d + 1) 237 [.ref 34, .int v1] σ = am_go am_X0 (am_ex d) M237 0 [.ref 34, .int v1] [] σ := am_ex_s m237 (Nat.le_of_ble_eq_true rfl) rfl
theorem e238 (d : Nat) (σ : am_M) (v1 v2 : Int32) : am_ex (d + 1) 238 [.ref 34, .int v1, .int v2] σ = am_go am_X0 (am_ex d) M238 0 [.ref 34, .int v1, .int v2] [] σ := am_ex_s m238 (Nat.le_of_ble_eq_true rfl) rfl
theorem e239 (d : Nat) (σ : am_M) (v1 : Int32) : am_ex (d + 1) 239 [.ref 34, .int v1] σ = am_go am_X0 (am_ex d) M239 0 [.ref 34, .int v1, .null] [] σ := am_ex_s m239 (Nat.le_of_ble_eq_true rfl) rfl
theorem e240 (d : Nat) (σ : am_M) (v1 v2 : Int32) : am_ex (d + 1) 240 [.ref 34, .int v1, .int v2] σ = am_go am_X0 (am_ex d) M240 0 [.ref 34, .int v1, .int v2, .null, .null] [] σ := am_ex_s m240 (Nat.le_of_ble_eq_true rfl) rfl
theorem e241 (d : Nat) (σ : am_M) (v1 : Int32) : am_ex (d + 1) 241 [.ref 34, .int v1] σ = am_go am_X0 (am_ex d) M241 0 [.ref 34, .int v1, .null, .null] [] σ := am_ex_s m241 (Nat.le_of_ble_eq_true rfl) rfl
theorem e242 (d : Nat) (σ : am_M) (v1 v2 : Int32) : am_ex (d + 1) 242 [.ref 34, .int v1, .int v2] σ = am_go am_X0 (am_ex d) M242 0 [.ref 34, .int v1, .int v2, .null] [] σ := am_ex_s m242 (Nat.le_of_ble_eq_true rfl) rfl
theorem e243 (d : Nat) (σ : am_M) (v1 : Int32) : am_ex (d + 1) 243 [.ref 34, .int v1] σ = am_go am_X0 (am_ex d) M243 0 [.ref 34, .int v1] [] σ := am_ex_s m243 (Nat.le_of_ble_eq_true rfl) rfl
theorem e244 (d : Nat) (σ : am_M) (v1 : Int32) : am_ex (d + 1) 244 [.ref 34, .int v1] σ = am_go am_X0 (am_ex d) M244 0 [.ref 34, .int v1, .null] [] σ := am_ex_s m244 (Nat.le_of_ble_eq_true rfl) rfl
theorem e245 (d : Nat) (σ : am_M) (v1 v2 : Int32) : am_ex (d + 1) 245 [.ref 34, .int v1, .int v2] σ = am_go am_X0 (am_ex d) M245 0 [.ref 34, .int v1, .int v2, .null, .null] [] σ := am_ex_s m245 (Nat.le_of_ble_eq_true rfl) rfl
theorem e246 (d : Nat) (σ : am_M) (v1 v2 : Int32) : am_ex (d + 1) 246 [.ref 34, .int v1, .int v2] σ = am_go am_X0 (am_ex d) M246 0 [.ref 34, .int v1, .int v2, .null, .null] [] σ := am_ex_s m246 (Nat.le_of_ble_eq_true rfl) rfl
theorem e247 (d : Nat) (σ : am_M) (v1 : Int32) : am_ex (d + 1) 247 [.ref 34, .int v1] σ = am_go am_X0 (am_ex d) M247 0 [.ref 34, .int v1] [] σ := am_ex_s m247 (Nat.le_of_ble_eq_true rfl) rfl
theorem e248 (d : Nat) (σ : am_M) : am_ex (d + 1) 248 [.ref 34] σ = am_go am_X0 (am_ex d) M248 0 [.ref 34] [] σ := am_ex_s m248 (Nat.le_of_ble_eq_true rfl) rfl
theorem e249 (d : Nat) (σ : am_M) : am_ex (d + 1) 249 [.ref 34] σ = am_go am_X0 (am_ex d) M249 0 [.ref 34] [] σ := am_ex_s m249 (Nat.le_of_ble_eq_true rfl) rfl
theorem e250 (d : Nat) (σ : am_M) (v1 : Int32) : am_ex (d + 1) 250 [.ref 34, .int v1] σ = am_go am_X0 (am_ex d) M250 0 [.ref 34, .int v1, .null] [] σ := am_ex_s m250 (Nat.le_of_ble_eq_true rfl) rfl
theorem e251 (d : Nat) (σ : am_M) (v1 : Int32) : am_ex (d + 1) 251 [.ref 34, .int v1] σ = am_go am_X0 (am_ex d) M251 0 [.ref 34, .int v1, .null, .null] [] σ := am_ex_s m251 (Nat.le_of_ble_eq_true rfl) rfl
theorem e252 (d : Nat) (σ : am_M) (v1 v2 : Int32) : am_ex (d + 1) 252 [.ref 34, .int v1, .int v2] σ = am_go am_X0 (am_ex d) M252 0 [.ref 34, .int v1, .int v2, .null] [] σ := am_ex_s m252 (Nat.le_of_ble_eq_true rfl) rfl
theorem e253 (d : Nat) (σ : am_M) (v1 : Int32) : am_ex (d + 1) 253 [.ref 34, .int v1] σ = am_go am_X0 (am_ex d) M253 0 [.ref 34, .int v1, .null, .null] [] σ := am_ex_s m253 (Nat.le_of_ble_eq_true rfl) rfl
theorem e254 (d : Nat) (σ : am_M) (v1 v2 : Int32) : am_ex (d + 1) 254 [.ref 34, .int v1, .int v2] σ = am_go am_X0 (am_ex d) M254 0 [.ref 34, .int v1, .int v2] [] σ := am_ex_s m254 (Nat.le_of_ble_eq_true rfl) rfl
theorem e255 (d : Nat) (σ : am_M) (v1 v2 v3 : Int32) : am_ex (d + 1) 255 [.ref 34, .int v1, .int v2, .int v3] σ = am_go am_X0 (am_ex d) M255 0 [.ref 34, .int v1, .int v2, .int v3, .null] [] σ := am_ex_s m255 (Nat.le_of_ble_eq_true rfl) rfl
theorem e256 (d : Nat) (σ : am_M) (v1 v2 : Int32) : am_ex (d + 1) 256 [.ref 34, .int v1, .int v2] σ = am_go am_X0 (am_ex d) M256 0 [.ref 34, .int v1, .int v2, .null] [] σ := am_ex_s m256 (Nat.le_of_ble_eq_true rfl) rfl
theorem e257 (d : Nat) (σ : am_M) (v1 : Int32) : am_ex (d + 1) 257 [.ref 34, .int v1] σ = am_go am_X0 (am_ex d) M257 0 [.ref 34, .int v1] [] σ := am_ex_s m257 (Nat.le_of_ble_eq_true rfl) rfl
theorem e258 (d : Nat) (σ : am_M) (v1 : Int32) : am_ex (d + 1) 258 [.ref 34, .int v1] σ = am_go am_X0 (am_ex d) M258 0 [.ref 34, .int v1] [] σ := am_ex_s m258 (Nat.le_of_ble_eq_true rfl) rfl
theorem e259 (d : Nat) (σ : am_M) (v1 : Int32) : am_ex (d + 1) 259 [.ref 34, .int v1] σ = am_go am_X0 (am_ex d) M259 0 [.ref 34, .int v1, .null, .null, .null] [] σ := am_ex_s m259 (Nat.le_of_ble_eq_true rfl) rfl
theorem e260 (d : Nat) (σ : am_M) : am_ex (d + 1) 260 [.ref 34] σ = am_go am_X0 (am_ex d) M260 0 [.ref 34, .null, .null] [] σ := am_ex_s m260 (Nat.le_of_ble_eq_true rfl) rfl
theorem e261 (d : Nat) (σ : am_M) (v1 v2 v3 : Int32) : am_ex (d + 1) 261 [.ref 34, .int v1, .int v2, .int v3] σ = am_go am_X0 (am_ex d) M261 0 [.ref 34, .int v1, .int v2, .int v3, .null, .null] [] σ := am_ex_s m261 (Nat.le_of_ble_eq_true rfl) rfl
theorem e262 (d : Nat) (σ : am_M) (v1 : Int32) : am_ex (d + 1) 262 [.ref 34, .int v1] σ = am_go am_X0 (am_ex d) M262 0 [.ref 34, .int v1, .null, .null, .null] [] σ := am_ex_s m262 (Nat.le_of_ble_eq_true rfl) rfl
theorem e263 (d : Nat) (σ : am_M) (v1 v2 v3 v4 : Int32) : am_ex (d + 1) 263 [.ref 34, .int v1, .int v2, .int v3, .int v4] σ = am_go am_X0 (am_ex d) M263 0 [.ref 34, .int v1, .int v2, .int v3, .int v4] [] σ := am_ex_s m263 (Nat.le_of_ble_eq_true rfl) rfl
theorem e264 (d : Nat) (σ : am_M) (v1 v2 : Int32) : am_ex (d + 1) 264 [.ref 34, .int v1, .int v2] σ = am_go am_X0 (am_ex d) M264 0 [.ref 34, .int v1, .int v2, .null, .null, .null] [] σ := am_ex_s m264 (Nat.le_of_ble_eq_true rfl) rfl
theorem e265 (d : Nat) (σ : am_M) : am_ex (d + 1) 265 [.ref 34] σ = am_go am_X0 (am_ex d) M265 0 [.ref 34, .null, .null] [] σ := am_ex_s m265 (Nat.le_of_ble_eq_true rfl) rfl
theorem e266 (d : Nat) (σ : am_M) (v1 : Int32) : am_ex (d + 1) 266 [.ref 34, .int v1] σ = am_go am_X0 (am_ex d) M266 0 [.ref 34, .int v1, .null, .null] [] σ := am_ex_s m266 (Nat.le_of_ble_eq_true rfl) rfl
theorem e267 (d : Nat) (σ : am_M) (v1 : Int32) : am_ex (d + 1) 267 [.ref 34, .int v1] σ = am_go am_X0 (am_ex d) M267 0 [.ref 34, .int v1] [] σ := am_ex_s m267 (Nat.le_of_ble_eq_true rfl) rfl
theorem e268 (d : Nat) (σ : am_M) (v0 : Int32) : am_ex (d + 1) 268 [.int v0] σ = am_go am_X0 (am_ex d) M268 0 [.int v0] [] σ := am_ex_s m268 (Nat.le_of_ble_eq_true rfl) rfl
theorem e269 (d : Nat) (σ : am_M) (v1 v2 : Int32) : am_ex (d + 1) 269 [.ref 34, .int v1, .int v2] σ = am_go am_X0 (am_ex d) M269 0 [.ref 34, .int v1, .int v2, .null, .null, .null, .null] [] σ := am_ex_s m269 (Nat.le_of_ble_eq_true rfl) rfl
theorem e270 (d : Nat) (σ : am_M) (v1 : Int32) : am_ex (d + 1) 270 [.ref 34, .int v1] σ = am_go am_X0 (am_ex d) M270 0 [.ref 34, .int v1] [] σ := am_ex_s m270 (Nat.le_of_ble_eq_true rfl) rfl
theorem e271 (d : Nat) (σ : am_M) (v1 v2 : Int32) : am_ex (d + 1) 271 [.ref 34, .int v1, .int v2] σ = am_go am_X0 (am_ex d) M271 0 [.ref 34, .int v1, .int v2] [] σ := am_ex_s m271 (Nat.le_of_ble_eq_true rfl) rfl
theorem e272 (d : Nat) (σ : am_M) (v1 v2 : Int32) : am_ex (d + 1) 272 [.ref 34, .int v1, .int v2] σ = am_go am_X0 (am_ex d) M272 0 [.ref 34, .int v1, .int v2, .null, .null, .null, .null, .null, .null] [] σ := am_ex_s m272 (Nat.le_of_ble_eq_true rfl) rfl
theorem e273 (d : Nat) (σ : am_M) (v1 : Int32) : am_ex (d + 1) 273 [.ref 34, .int v1] σ = am_go am_X0 (am_ex d) M273 0 [.ref 34, .int v1] [] σ := am_ex_s m273 (Nat.le_of_ble_eq_true rfl) rfl
theorem e274 (d : Nat) (σ : am_M) (v1 v2 : Int32) : am_ex (d + 1) 274 [.ref 34, .int v1, .int v2] σ = am_go am_X0 (am_ex d) M274 0 [.ref 34, .int v1, .int v2] [] σ := am_ex_s m274 (Nat.le_of_ble_eq_true rfl) rfl
theorem e275 (d : Nat) (σ : am_M) (v0 : Int32) : am_ex (d + 1) 275 [.int v0] σ = am_go am_X0 (am_ex d) M275 0 [.int v0] [] σ := am_ex_s m275 (Nat.le_of_ble_eq_true rfl) rfl
