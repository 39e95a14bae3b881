theorem tx_X6_65 : ∀ w ∈ vx_atS RX6 65 "java/lang/IllegalArgumentException" exUp, w ∈ FW := by decide +kernel
theorem tx_X6_236 : ∀ w ∈ vx_atS RX6 236 "java/lang/IndexOutOfBoundsException" exUp, w ∈ FW := by decide +kernel
theorem tx_X6_241 : ∀ w ∈ nxW RX6 241 "java/util/NoSuchElementException" "java/lang/RuntimeException" ["java/lang/Exception"] 13 prog_28_method_4_code, w ∈ FW := by decide +kernel
theorem tx_X6_255 : ∀ w ∈ vx_atS RX6 255 "java/lang/IllegalStateException" exUp, w ∈ FW := by decide +kernel
