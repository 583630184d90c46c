/-! what a throw needs of the tables -/
theorem eth_IllegalArgumentException : eTh RX11 125 129 "java/lang/IllegalArgumentException" ["java/lang/RuntimeException", "java/lang/Exception"] := ⟨by decide +kernel, by decide +kernel, tw_756, tw_23, by decide +kernel, by decide +kernel⟩
theorem eth_IndexOutOfBoundsException : eTh RX11 309 313 "java/lang/IndexOutOfBoundsException" ["java/lang/RuntimeException", "java/lang/Exception"] := ⟨by decide +kernel, by decide +kernel, tw_883, tw_25, by decide +kernel, by decide +kernel⟩
theorem eth_IllegalStateException : eTh RX11 241 245 "java/lang/IllegalStateException" ["java/lang/RuntimeException", "java/lang/Exception"] := ⟨by decide +kernel, by decide +kernel, tw_1022, tw_27, by decide +kernel, by decide +kernel⟩
