/-- a text's words -/
def z_cds (q : ZT) : List Cond := (.exactly (.string q.1 q.2.1) "java/lang/String") :: (.eq (.field (.string q.1 q.2.1) "java/lang/String" "coder" "B") (.int 0)) :: (.arrayOf (.field (.string q.1 q.2.1) "java/lang/String" "value" "[B") .byte) :: (.eq (.length (.field (.string q.1 q.2.1) "java/lang/String" "value" "[B")) (.int (Int32.ofNat q.2.2.2.length))) :: (List.range q.2.2.2.length).map (fun j => .eq (.elem (.field (.string q.1 q.2.1) "java/lang/String" "value" "[B") (.int (Int32.ofNat j))) (.int (q.2.2.2.getD j 0)))
theorem zsc_0 : ∀ w ∈ z_cds (RX5, 93, "dukedom", [100, 117, 107, 101, 100, 111, 109]), w ∈ flatC (Jvm.Cond.and given_1 narrow_1) := by decide +kernel
theorem zsc_1 : ∀ w ∈ z_cds (RX5, 99, "years", [121, 101, 97, 114, 115]), w ∈ flatC (Jvm.Cond.and given_1 narrow_1) := by decide +kernel
theorem zsc_2 : ∀ w ∈ z_cds (RX5, 107, "law", [108, 97, 119]), w ∈ flatC (Jvm.Cond.and given_1 narrow_1) := by decide +kernel
theorem zsc_3 : ∀ w ∈ z_cds (RX5, 111, "odds", [111, 100, 100, 115]), w ∈ flatC (Jvm.Cond.and given_1 narrow_1) := by decide +kernel
theorem zsc_4 : ∀ w ∈ z_cds (RX5, 52, "rank", [114, 97, 110, 107]), w ∈ flatC (Jvm.Cond.and given_1 narrow_1) := by decide +kernel
theorem zsc_5 : ∀ w ∈ z_cds (RX5, 118, "wide", [119, 105, 100, 101]), w ∈ flatC (Jvm.Cond.and given_1 narrow_1) := by decide +kernel
theorem zsc_6 : ∀ w ∈ z_cds (RX5, 123, "water", [119, 97, 116, 101, 114]), w ∈ flatC (Jvm.Cond.and given_1 narrow_1) := by decide +kernel
theorem zsc_7 : ∀ w ∈ z_cds (RX5, 128, "drains", [100, 114, 97, 105, 110, 115]), w ∈ flatC (Jvm.Cond.and given_1 narrow_1) := by decide +kernel
theorem zsc_8 : ∀ w ∈ z_cds (RX5, 132, "swims", [115, 119, 105, 109, 115]), w ∈ flatC (Jvm.Cond.and given_1 narrow_1) := by decide +kernel
theorem zsc_9 : ∀ w ∈ z_cds (RX5, 61, "plank", [112, 108, 97, 110, 107]), w ∈ flatC (Jvm.Cond.and given_1 narrow_1) := by decide +kernel
theorem zsc_10 : ∀ w ∈ z_cds (RX5, 142, "on", [111, 110]), w ∈ flatC (Jvm.Cond.and given_1 narrow_1) := by decide +kernel
theorem zsc_11 : ∀ w ∈ z_cds (RX5, 66, "rain", [114, 97, 105, 110]), w ∈ flatC (Jvm.Cond.and given_1 narrow_1) := by decide +kernel
theorem zsc_12 : ∀ w ∈ z_cds (RX5, 150, "at", [97, 116]), w ∈ flatC (Jvm.Cond.and given_1 narrow_1) := by decide +kernel
theorem zsc_13 : ∀ w ∈ z_cds (RX5, 71, "frost", [102, 114, 111, 115, 116]), w ∈ flatC (Jvm.Cond.and given_1 narrow_1) := by decide +kernel
theorem zsc_14 : ∀ w ∈ z_cds (RX5, 76, "invite", [105, 110, 118, 105, 116, 101]), w ∈ flatC (Jvm.Cond.and given_1 narrow_1) := by decide +kernel
theorem zsc_15 : ∀ w ∈ z_cds (RX10, 179, "dukedom", [100, 117, 107, 101, 100, 111, 109]), w ∈ flatC (Jvm.Cond.and given_1 narrow_1) := by decide +kernel
theorem zsc_16 : ∀ w ∈ z_cds (RX10, 181, "years", [121, 101, 97, 114, 115]), w ∈ flatC (Jvm.Cond.and given_1 narrow_1) := by decide +kernel
theorem zsc_17 : ∀ w ∈ z_cds (RX10, 187, "law", [108, 97, 119]), w ∈ flatC (Jvm.Cond.and given_1 narrow_1) := by decide +kernel
theorem zsc_18 : ∀ w ∈ z_cds (RX10, 189, "odds", [111, 100, 100, 115]), w ∈ flatC (Jvm.Cond.and given_1 narrow_1) := by decide +kernel
theorem zsc_19 : ∀ w ∈ z_cds (RX10, 200, "rank", [114, 97, 110, 107]), w ∈ flatC (Jvm.Cond.and given_1 narrow_1) := by decide +kernel
theorem zsc_20 : ∀ w ∈ z_cds (RX10, 202, "plank", [112, 108, 97, 110, 107]), w ∈ flatC (Jvm.Cond.and given_1 narrow_1) := by decide +kernel
theorem zsc_21 : ∀ w ∈ z_cds (RX10, 204, "rain", [114, 97, 105, 110]), w ∈ flatC (Jvm.Cond.and given_1 narrow_1) := by decide +kernel
theorem zsc_22 : ∀ w ∈ z_cds (RX10, 206, "frost", [102, 114, 111, 115, 116]), w ∈ flatC (Jvm.Cond.and given_1 narrow_1) := by decide +kernel
theorem zsc_23 : ∀ w ∈ z_cds (RX10, 208, "invite", [105, 110, 118, 105, 116, 101]), w ∈ flatC (Jvm.Cond.and given_1 narrow_1) := by decide +kernel
theorem zsc_24 : ∀ w ∈ z_cds (RX10, 191, "wide", [119, 105, 100, 101]), w ∈ flatC (Jvm.Cond.and given_1 narrow_1) := by decide +kernel
theorem zsc_25 : ∀ w ∈ z_cds (RX10, 193, "water", [119, 97, 116, 101, 114]), w ∈ flatC (Jvm.Cond.and given_1 narrow_1) := by decide +kernel
theorem zsc_26 : ∀ w ∈ z_cds (RX10, 195, "drains", [100, 114, 97, 105, 110, 115]), w ∈ flatC (Jvm.Cond.and given_1 narrow_1) := by decide +kernel
theorem zsc_27 : ∀ w ∈ z_cds (RX10, 197, "swims", [115, 119, 105, 109, 115]), w ∈ flatC (Jvm.Cond.and given_1 narrow_1) := by decide +kernel
theorem zsc_28 : ∀ w ∈ z_cds (RX10, 216, "on", [111, 110]), w ∈ flatC (Jvm.Cond.and given_1 narrow_1) := by decide +kernel
theorem zsc_29 : ∀ w ∈ z_cds (RX10, 199, "at", [97, 116]), w ∈ flatC (Jvm.Cond.and given_1 narrow_1) := by decide +kernel
theorem z_SSa : z_al (fun q => ∀ w ∈ z_cds q, w ∈ flatC (Jvm.Cond.and given_1 narrow_1)) z_SS := ⟨zsc_0, zsc_1, zsc_2, zsc_3, zsc_4, zsc_5, zsc_6, zsc_7, zsc_8, zsc_9, zsc_10, zsc_11, zsc_12, zsc_13, zsc_14, zsc_15, zsc_16, zsc_17, zsc_18, zsc_19, zsc_20, zsc_21, zsc_22, zsc_23, zsc_24, zsc_25, zsc_26, zsc_27, zsc_28, zsc_29, trivial⟩
