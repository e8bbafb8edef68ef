theorem dL_law_3037 : decode cL_law 3037 = .ok (.iconst 1, 1) := by decide +kernel
theorem dL_law_3038 : decode cL_law 3038 = .ok (.iadd, 1) := by decide +kernel
theorem dL_law_3039 : decode cL_law 3039 = .ok (.iaload, 1) := by decide +kernel
theorem dL_law_3040 : decode cL_law 3040 = .ok (.aload_n 0, 1) := by decide +kernel
theorem dL_law_3041 : decode cL_law 3041 = .ok (.iload 4, 2) := by decide +kernel
theorem dL_law_3043 : decode cL_law 3043 = .ok (.iconst 2, 1) := by decide +kernel
theorem dL_law_3044 : decode cL_law 3044 = .ok (.iadd, 1) := by decide +kernel
theorem dL_law_3045 : decode cL_law 3045 = .ok (.iaload, 1) := by decide +kernel
theorem dL_law_3046 : decode cL_law 3046 = .ok (.aload_n 0, 1) := by decide +kernel
theorem dL_law_3047 : decode cL_law 3047 = .ok (.iload 4, 2) := by decide +kernel
theorem dL_law_3049 : decode cL_law 3049 = .ok (.iconst 3, 1) := by decide +kernel
theorem dL_law_3050 : decode cL_law 3050 = .ok (.iadd, 1) := by decide +kernel
theorem dL_law_3051 : decode cL_law 3051 = .ok (.iaload, 1) := by decide +kernel
theorem dL_law_3052 : decode cL_law 3052 = .ok (.ifCond .eq 7, 3) := by decide +kernel
theorem dL_law_3055 : decode cL_law 3055 = .ok (.iconst 1, 1) := by decide +kernel
theorem dL_law_3056 : decode cL_law 3056 = .ok (.goto 4, 3) := by decide +kernel
theorem dL_law_3059 : decode cL_law 3059 = .ok (.iconst 0, 1) := by decide +kernel
theorem dL_law_3060 : decode cL_law 3060 = .ok (.invokevirtual 207, 3) := by decide +kernel
theorem dL_law_3063 : decode cL_law 3063 = .ok (.aload_n 2, 1) := by decide +kernel
theorem dL_law_3064 : decode cL_law 3064 = .ok (.aload_n 0, 1) := by decide +kernel
theorem dL_law_3065 : decode cL_law 3065 = .ok (.iload 4, 2) := by decide +kernel
theorem dL_law_3067 : decode cL_law 3067 = .ok (.iconst 1, 1) := by decide +kernel
theorem dL_law_3068 : decode cL_law 3068 = .ok (.iadd, 1) := by decide +kernel
theorem dL_law_3069 : decode cL_law 3069 = .ok (.iaload, 1) := by decide +kernel
theorem dL_law_3070 : decode cL_law 3070 = .ok (.aload_n 0, 1) := by decide +kernel
theorem dL_law_3071 : decode cL_law 3071 = .ok (.iload 4, 2) := by decide +kernel
theorem dL_law_3073 : decode cL_law 3073 = .ok (.iconst 2, 1) := by decide +kernel
theorem dL_law_3074 : decode cL_law 3074 = .ok (.iadd, 1) := by decide +kernel
theorem dL_law_3075 : decode cL_law 3075 = .ok (.iaload, 1) := by decide +kernel
theorem dL_law_3076 : decode cL_law 3076 = .ok (.aload_n 0, 1) := by decide +kernel
theorem dL_law_3077 : decode cL_law 3077 = .ok (.iload 4, 2) := by decide +kernel
theorem dL_law_3079 : decode cL_law 3079 = .ok (.iconst 3, 1) := by decide +kernel
theorem dL_law_3080 : decode cL_law 3080 = .ok (.iadd, 1) := by decide +kernel
theorem dL_law_3081 : decode cL_law 3081 = .ok (.iaload, 1) := by decide +kernel
theorem dL_law_3082 : decode cL_law 3082 = .ok (.ifCond .eq 7, 3) := by decide +kernel
theorem dL_law_3085 : decode cL_law 3085 = .ok (.iconst 1, 1) := by decide +kernel
theorem dL_law_3086 : decode cL_law 3086 = .ok (.goto 4, 3) := by decide +kernel
theorem dL_law_3089 : decode cL_law 3089 = .ok (.iconst 0, 1) := by decide +kernel
theorem dL_law_3090 : decode cL_law 3090 = .ok (.invokevirtual 211, 3) := by decide +kernel
theorem dL_law_3093 : decode cL_law 3093 = .ok (.if_icmp .eq 229, 3) := by decide +kernel
theorem dL_law_3096 : decode cL_law 3096 = .ok (.iconst 0, 1) := by decide +kernel
theorem dL_law_3097 : decode cL_law 3097 = .ok (.ireturn, 1) := by decide +kernel
theorem dL_law_3098 : decode cL_law 3098 = .ok (.aload_n 1, 1) := by decide +kernel
theorem dL_law_3099 : decode cL_law 3099 = .ok (.aload_n 0, 1) := by decide +kernel
theorem dL_law_3100 : decode cL_law 3100 = .ok (.iload 4, 2) := by decide +kernel
theorem dL_law_3102 : decode cL_law 3102 = .ok (.iconst 1, 1) := by decide +kernel
theorem dL_law_3103 : decode cL_law 3103 = .ok (.iadd, 1) := by decide +kernel
theorem dL_law_3104 : decode cL_law 3104 = .ok (.iaload, 1) := by decide +kernel
theorem dL_law_3105 : decode cL_law 3105 = .ok (.aload_n 0, 1) := by decide +kernel
theorem dL_law_3106 : decode cL_law 3106 = .ok (.iload 4, 2) := by decide +kernel
theorem dL_law_3108 : decode cL_law 3108 = .ok (.iconst 2, 1) := by decide +kernel
theorem dL_law_3109 : decode cL_law 3109 = .ok (.iadd, 1) := by decide +kernel
theorem dL_law_3110 : decode cL_law 3110 = .ok (.iaload, 1) := by decide +kernel
theorem dL_law_3111 : decode cL_law 3111 = .ok (.aload_n 0, 1) := by decide +kernel
theorem dL_law_3112 : decode cL_law 3112 = .ok (.iload 4, 2) := by decide +kernel
theorem dL_law_3114 : decode cL_law 3114 = .ok (.iconst 3, 1) := by decide +kernel
theorem dL_law_3115 : decode cL_law 3115 = .ok (.iadd, 1) := by decide +kernel
theorem dL_law_3116 : decode cL_law 3116 = .ok (.iaload, 1) := by decide +kernel
theorem dL_law_3117 : decode cL_law 3117 = .ok (.aload_n 0, 1) := by decide +kernel
theorem dL_law_3118 : decode cL_law 3118 = .ok (.iload 4, 2) := by decide +kernel
theorem dL_law_3120 : decode cL_law 3120 = .ok (.iconst 4, 1) := by decide +kernel
theorem dL_law_3121 : decode cL_law 3121 = .ok (.iadd, 1) := by decide +kernel
theorem dL_law_3122 : decode cL_law 3122 = .ok (.iaload, 1) := by decide +kernel
theorem dL_law_3123 : decode cL_law 3123 = .ok (.aload_n 0, 1) := by decide +kernel
theorem dL_law_3124 : decode cL_law 3124 = .ok (.iload 4, 2) := by decide +kernel
theorem dL_law_3126 : decode cL_law 3126 = .ok (.iconst 5, 1) := by decide +kernel
theorem dL_law_3127 : decode cL_law 3127 = .ok (.iadd, 1) := by decide +kernel
theorem dL_law_3128 : decode cL_law 3128 = .ok (.iaload, 1) := by decide +kernel
theorem dL_law_3129 : decode cL_law 3129 = .ok (.aload_n 0, 1) := by decide +kernel
theorem dL_law_3130 : decode cL_law 3130 = .ok (.iload 4, 2) := by decide +kernel
theorem dL_law_3132 : decode cL_law 3132 = .ok (.bipush 6, 2) := by decide +kernel
theorem dL_law_3134 : decode cL_law 3134 = .ok (.iadd, 1) := by decide +kernel
theorem dL_law_3135 : decode cL_law 3135 = .ok (.iaload, 1) := by decide +kernel
theorem dL_law_3136 : decode cL_law 3136 = .ok (.aload_n 0, 1) := by decide +kernel
theorem dL_law_3137 : decode cL_law 3137 = .ok (.iload 4, 2) := by decide +kernel
theorem dL_law_3139 : decode cL_law 3139 = .ok (.bipush 7, 2) := by decide +kernel
theorem dL_law_3141 : decode cL_law 3141 = .ok (.iadd, 1) := by decide +kernel
theorem dL_law_3142 : decode cL_law 3142 = .ok (.iaload, 1) := by decide +kernel
theorem dL_law_3143 : decode cL_law 3143 = .ok (.aload_n 0, 1) := by decide +kernel
theorem dL_law_3144 : decode cL_law 3144 = .ok (.iload 4, 2) := by decide +kernel
theorem dL_law_3146 : decode cL_law 3146 = .ok (.bipush 8, 2) := by decide +kernel
theorem dL_law_3148 : decode cL_law 3148 = .ok (.iadd, 1) := by decide +kernel
theorem dL_law_3149 : decode cL_law 3149 = .ok (.iaload, 1) := by decide +kernel
theorem dL_law_3150 : decode cL_law 3150 = .ok (.aload_n 3, 1) := by decide +kernel
theorem dL_law_3151 : decode cL_law 3151 = .ok (.invokestatic 212, 3) := by decide +kernel
theorem dL_law_3154 : decode cL_law 3154 = .ok (.istore 5, 2) := by decide +kernel
theorem dL_law_3156 : decode cL_law 3156 = .ok (.aload_n 2, 1) := by decide +kernel
theorem dL_law_3157 : decode cL_law 3157 = .ok (.aload_n 0, 1) := by decide +kernel
theorem dL_law_3158 : decode cL_law 3158 = .ok (.iload 4, 2) := by decide +kernel
theorem dL_law_3160 : decode cL_law 3160 = .ok (.iconst 1, 1) := by decide +kernel
theorem dL_law_3161 : decode cL_law 3161 = .ok (.iadd, 1) := by decide +kernel
theorem dL_law_3162 : decode cL_law 3162 = .ok (.iaload, 1) := by decide +kernel
theorem dL_law_3163 : decode cL_law 3163 = .ok (.aload_n 0, 1) := by decide +kernel
theorem dL_law_3164 : decode cL_law 3164 = .ok (.iload 4, 2) := by decide +kernel
theorem dL_law_3166 : decode cL_law 3166 = .ok (.iconst 2, 1) := by decide +kernel
theorem dL_law_3167 : decode cL_law 3167 = .ok (.iadd, 1) := by decide +kernel
theorem dL_law_3168 : decode cL_law 3168 = .ok (.iaload, 1) := by decide +kernel
theorem dL_law_3169 : decode cL_law 3169 = .ok (.aload_n 0, 1) := by decide +kernel
theorem dL_law_3170 : decode cL_law 3170 = .ok (.iload 4, 2) := by decide +kernel
theorem dL_law_3172 : decode cL_law 3172 = .ok (.iconst 3, 1) := by decide +kernel
theorem dL_law_3173 : decode cL_law 3173 = .ok (.iadd, 1) := by decide +kernel
theorem dL_law_3174 : decode cL_law 3174 = .ok (.iaload, 1) := by decide +kernel
theorem dL_law_3175 : decode cL_law 3175 = .ok (.aload_n 0, 1) := by decide +kernel
theorem dL_law_3176 : decode cL_law 3176 = .ok (.iload 4, 2) := by decide +kernel
theorem dL_law_3178 : decode cL_law 3178 = .ok (.iconst 4, 1) := by decide +kernel
theorem dL_law_3179 : decode cL_law 3179 = .ok (.iadd, 1) := by decide +kernel
theorem dL_law_3180 : decode cL_law 3180 = .ok (.iaload, 1) := by decide +kernel
theorem dL_law_3181 : decode cL_law 3181 = .ok (.aload_n 0, 1) := by decide +kernel
theorem dL_law_3182 : decode cL_law 3182 = .ok (.iload 4, 2) := by decide +kernel
theorem dL_law_3184 : decode cL_law 3184 = .ok (.iconst 5, 1) := by decide +kernel
theorem dL_law_3185 : decode cL_law 3185 = .ok (.iadd, 1) := by decide +kernel
theorem dL_law_3186 : decode cL_law 3186 = .ok (.iaload, 1) := by decide +kernel
theorem dL_law_3187 : decode cL_law 3187 = .ok (.aload_n 0, 1) := by decide +kernel
theorem dL_law_3188 : decode cL_law 3188 = .ok (.iload 4, 2) := by decide +kernel
theorem dL_law_3190 : decode cL_law 3190 = .ok (.bipush 6, 2) := by decide +kernel
theorem dL_law_3192 : decode cL_law 3192 = .ok (.iadd, 1) := by decide +kernel
theorem dL_law_3193 : decode cL_law 3193 = .ok (.iaload, 1) := by decide +kernel
theorem dL_law_3194 : decode cL_law 3194 = .ok (.aload_n 0, 1) := by decide +kernel
theorem dL_law_3195 : decode cL_law 3195 = .ok (.iload 4, 2) := by decide +kernel
theorem dL_law_3197 : decode cL_law 3197 = .ok (.bipush 7, 2) := by decide +kernel
theorem dL_law_3199 : decode cL_law 3199 = .ok (.iadd, 1) := by decide +kernel
theorem dL_law_3200 : decode cL_law 3200 = .ok (.iaload, 1) := by decide +kernel
theorem dL_law_3201 : decode cL_law 3201 = .ok (.aload_n 0, 1) := by decide +kernel
theorem dL_law_3202 : decode cL_law 3202 = .ok (.iload 4, 2) := by decide +kernel
theorem dL_law_3204 : decode cL_law 3204 = .ok (.bipush 8, 2) := by decide +kernel
theorem dL_law_3206 : decode cL_law 3206 = .ok (.iadd, 1) := by decide +kernel
theorem dL_law_3207 : decode cL_law 3207 = .ok (.iaload, 1) := by decide +kernel
theorem dL_law_3208 : decode cL_law 3208 = .ok (.invokevirtual 214, 3) := by decide +kernel
theorem dL_law_3211 : decode cL_law 3211 = .ok (.istore 6, 2) := by decide +kernel
theorem dL_law_3213 : decode cL_law 3213 = .ok (.aload_n 2, 1) := by decide +kernel
theorem dL_law_3214 : decode cL_law 3214 = .ok (.invokevirtual 98, 3) := by decide +kernel
theorem dL_law_3217 : decode cL_law 3217 = .ok (.iload 5, 2) := by decide +kernel
theorem dL_law_3219 : decode cL_law 3219 = .ok (.if_icmp .eq 5, 3) := by decide +kernel
theorem dL_law_3222 : decode cL_law 3222 = .ok (.iconst 0, 1) := by decide +kernel
theorem dL_law_3223 : decode cL_law 3223 = .ok (.ireturn, 1) := by decide +kernel
theorem dL_law_3224 : decode cL_law 3224 = .ok (.iload 5, 2) := by decide +kernel
theorem dL_law_3226 : decode cL_law 3226 = .ok (.ifCond .ne 15, 3) := by decide +kernel
theorem dL_law_3229 : decode cL_law 3229 = .ok (.aload_n 3, 1) := by decide +kernel
theorem dL_law_3230 : decode cL_law 3230 = .ok (.iconst 0, 1) := by decide +kernel
theorem dL_law_3231 : decode cL_law 3231 = .ok (.laload, 1) := by decide +kernel
theorem dL_law_3232 : decode cL_law 3232 = .ok (.iload 6, 2) := by decide +kernel
theorem dL_law_3234 : decode cL_law 3234 = .ok (.i2l, 1) := by decide +kernel
theorem dL_law_3235 : decode cL_law 3235 = .ok (.lcmp, 1) := by decide +kernel
theorem dL_law_3236 : decode cL_law 3236 = .ok (.ifCond .eq 5, 3) := by decide +kernel
theorem dL_law_3239 : decode cL_law 3239 = .ok (.iconst 0, 1) := by decide +kernel
theorem dL_law_3240 : decode cL_law 3240 = .ok (.ireturn, 1) := by decide +kernel
theorem dL_law_3241 : decode cL_law 3241 = .ok (.goto 81, 3) := by decide +kernel
theorem dL_law_3244 : decode cL_law 3244 = .ok (.aload_n 1, 1) := by decide +kernel
theorem dL_law_3245 : decode cL_law 3245 = .ok (.aload_n 0, 1) := by decide +kernel
theorem dL_law_3246 : decode cL_law 3246 = .ok (.iload 4, 2) := by decide +kernel
theorem dL_law_3248 : decode cL_law 3248 = .ok (.iconst 1, 1) := by decide +kernel
theorem dL_law_3249 : decode cL_law 3249 = .ok (.iadd, 1) := by decide +kernel
theorem dL_law_3250 : decode cL_law 3250 = .ok (.iaload, 1) := by decide +kernel
theorem dL_law_3251 : decode cL_law 3251 = .ok (.aload_n 0, 1) := by decide +kernel
theorem dL_law_3252 : decode cL_law 3252 = .ok (.iload 4, 2) := by decide +kernel
theorem dL_law_3254 : decode cL_law 3254 = .ok (.iconst 2, 1) := by decide +kernel
theorem dL_law_3255 : decode cL_law 3255 = .ok (.iadd, 1) := by decide +kernel
theorem dL_law_3256 : decode cL_law 3256 = .ok (.iaload, 1) := by decide +kernel
theorem dL_law_3257 : decode cL_law 3257 = .ok (.ifCond .eq 7, 3) := by decide +kernel
theorem dL_law_3260 : decode cL_law 3260 = .ok (.iconst 1, 1) := by decide +kernel
theorem dL_law_3261 : decode cL_law 3261 = .ok (.goto 4, 3) := by decide +kernel
theorem dL_law_3264 : decode cL_law 3264 = .ok (.iconst 0, 1) := by decide +kernel
theorem dL_law_3265 : decode cL_law 3265 = .ok (.invokevirtual 215, 3) := by decide +kernel
theorem dL_law_3268 : decode cL_law 3268 = .ok (.aload_n 2, 1) := by decide +kernel
theorem dL_law_3269 : decode cL_law 3269 = .ok (.aload_n 0, 1) := by decide +kernel
theorem dL_law_3270 : decode cL_law 3270 = .ok (.iload 4, 2) := by decide +kernel
theorem dL_law_3272 : decode cL_law 3272 = .ok (.iconst 1, 1) := by decide +kernel
theorem dL_law_3273 : decode cL_law 3273 = .ok (.iadd, 1) := by decide +kernel
theorem dL_law_3274 : decode cL_law 3274 = .ok (.iaload, 1) := by decide +kernel
theorem dL_law_3275 : decode cL_law 3275 = .ok (.aload_n 0, 1) := by decide +kernel
theorem dL_law_3276 : decode cL_law 3276 = .ok (.iload 4, 2) := by decide +kernel
theorem dL_law_3278 : decode cL_law 3278 = .ok (.iconst 2, 1) := by decide +kernel
theorem dL_law_3279 : decode cL_law 3279 = .ok (.iadd, 1) := by decide +kernel
theorem dL_law_3280 : decode cL_law 3280 = .ok (.iaload, 1) := by decide +kernel
theorem dL_law_3281 : decode cL_law 3281 = .ok (.ifCond .eq 7, 3) := by decide +kernel
theorem dL_law_3284 : decode cL_law 3284 = .ok (.iconst 1, 1) := by decide +kernel
theorem dL_law_3285 : decode cL_law 3285 = .ok (.goto 4, 3) := by decide +kernel
theorem dL_law_3288 : decode cL_law 3288 = .ok (.iconst 0, 1) := by decide +kernel
theorem dL_law_3289 : decode cL_law 3289 = .ok (.invokevirtual 219, 3) := by decide +kernel
theorem dL_law_3292 : decode cL_law 3292 = .ok (.if_icmp .eq 30, 3) := by decide +kernel
theorem dL_law_3295 : decode cL_law 3295 = .ok (.iconst 0, 1) := by decide +kernel
theorem dL_law_3296 : decode cL_law 3296 = .ok (.ireturn, 1) := by decide +kernel
theorem dL_law_3297 : decode cL_law 3297 = .ok (.aload_n 1, 1) := by decide +kernel
theorem dL_law_3298 : decode cL_law 3298 = .ok (.aload_n 0, 1) := by decide +kernel
theorem dL_law_3299 : decode cL_law 3299 = .ok (.iload 4, 2) := by decide +kernel
theorem dL_law_3301 : decode cL_law 3301 = .ok (.iconst 1, 1) := by decide +kernel
theorem dL_law_3302 : decode cL_law 3302 = .ok (.iadd, 1) := by decide +kernel
theorem dL_law_3303 : decode cL_law 3303 = .ok (.iaload, 1) := by decide +kernel
theorem dL_law_3304 : decode cL_law 3304 = .ok (.invokevirtual 220, 3) := by decide +kernel
theorem dL_law_3307 : decode cL_law 3307 = .ok (.aload_n 2, 1) := by decide +kernel
theorem dL_law_3308 : decode cL_law 3308 = .ok (.aload_n 0, 1) := by decide +kernel
theorem dL_law_3309 : decode cL_law 3309 = .ok (.iload 4, 2) := by decide +kernel
theorem dL_law_3311 : decode cL_law 3311 = .ok (.iconst 1, 1) := by decide +kernel
theorem dL_law_3312 : decode cL_law 3312 = .ok (.iadd, 1) := by decide +kernel
theorem dL_law_3313 : decode cL_law 3313 = .ok (.iaload, 1) := by decide +kernel
theorem dL_law_3314 : decode cL_law 3314 = .ok (.invokevirtual 223, 3) := by decide +kernel
theorem dL_law_3317 : decode cL_law 3317 = .ok (.if_icmp .eq 5, 3) := by decide +kernel
theorem dL_law_3320 : decode cL_law 3320 = .ok (.iconst 0, 1) := by decide +kernel
theorem dL_law_3321 : decode cL_law 3321 = .ok (.ireturn, 1) := by decide +kernel
theorem dL_law_3322 : decode cL_law 3322 = .ok (.iinc 4 10, 3) := by decide +kernel
theorem dL_law_3325 : decode cL_law 3325 = .ok (.goto (-3302), 3) := by decide +kernel
theorem dL_law_3328 : decode cL_law 3328 = .ok (.iconst 1, 1) := by decide +kernel
theorem dL_law_3329 : decode cL_law 3329 = .ok (.ireturn, 1) := by decide +kernel
