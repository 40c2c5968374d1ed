theorem dyL_law_2050 : decode cL_law 2050 = .ok (.iconst 2, 1) := by decide +kernel
theorem dyL_law_2051 : decode cL_law 2051 = .ok (.invokevirtual 36, 3) := by decide +kernel
theorem dyL_law_2054 : decode cL_law 2054 = .ok (.iconst 1, 1) := by decide +kernel
theorem dyL_law_2055 : decode cL_law 2055 = .ok (.if_icmp .gt 7, 3) := by decide +kernel
theorem dyL_law_2058 : decode cL_law 2058 = .ok (.iconst 1, 1) := by decide +kernel
theorem dyL_law_2059 : decode cL_law 2059 = .ok (.goto 4, 3) := by decide +kernel
theorem dyL_law_2062 : decode cL_law 2062 = .ok (.iconst 0, 1) := by decide +kernel
theorem dyL_law_2063 : decode cL_law 2063 = .ok (.istore_n 3, 1) := by decide +kernel
theorem dyL_law_2064 : decode cL_law 2064 = .ok (.iconst 0, 1) := by decide +kernel
theorem dyL_law_2065 : decode cL_law 2065 = .ok (.istore 8, 2) := by decide +kernel
theorem dyL_law_2067 : decode cL_law 2067 = .ok (.iload 8, 2) := by decide +kernel
theorem dyL_law_2069 : decode cL_law 2069 = .ok (.bipush 21, 2) := by decide +kernel
theorem dyL_law_2071 : decode cL_law 2071 = .ok (.if_icmp .ge 22, 3) := by decide +kernel
theorem dyL_law_2074 : decode cL_law 2074 = .ok (.aload_n 2, 1) := by decide +kernel
theorem dyL_law_2075 : decode cL_law 2075 = .ok (.iconst 2, 1) := by decide +kernel
theorem dyL_law_2076 : decode cL_law 2076 = .ok (.invokevirtual 36, 3) := by decide +kernel
theorem dyL_law_2079 : decode cL_law 2079 = .ok (.ifCond .ne 14, 3) := by decide +kernel
theorem dyL_law_2082 : decode cL_law 2082 = .ok (.aload_n 2, 1) := by decide +kernel
theorem dyL_law_2083 : decode cL_law 2083 = .ok (.invokevirtual 89, 3) := by decide +kernel
theorem dyL_law_2086 : decode cL_law 2086 = .ok (.pop, 1) := by decide +kernel
theorem dyL_law_2087 : decode cL_law 2087 = .ok (.iinc 8 1, 3) := by decide +kernel
theorem dyL_law_2090 : decode cL_law 2090 = .ok (.goto (-23), 3) := by decide +kernel
theorem dyL_law_2093 : decode cL_law 2093 = .ok (.iload_n 3, 1) := by decide +kernel
theorem dyL_law_2094 : decode cL_law 2094 = .ok (.ifCond .eq 355, 3) := by decide +kernel
theorem dyL_law_2097 : decode cL_law 2097 = .ok (.aload_n 2, 1) := by decide +kernel
theorem dyL_law_2098 : decode cL_law 2098 = .ok (.iconst 2, 1) := by decide +kernel
theorem dyL_law_2099 : decode cL_law 2099 = .ok (.invokevirtual 36, 3) := by decide +kernel
theorem dyL_law_2102 : decode cL_law 2102 = .ok (.iconst 1, 1) := by decide +kernel
theorem dyL_law_2103 : decode cL_law 2103 = .ok (.if_icmp .ne 346, 3) := by decide +kernel
theorem dyL_law_2106 : decode cL_law 2106 = .ok (.aload_n 2, 1) := by decide +kernel
theorem dyL_law_2107 : decode cL_law 2107 = .ok (.iconst 5, 1) := by decide +kernel
theorem dyL_law_2108 : decode cL_law 2108 = .ok (.invokevirtual 36, 3) := by decide +kernel
theorem dyL_law_2111 : decode cL_law 2111 = .ok (.sipush 2300, 3) := by decide +kernel
theorem dyL_law_2114 : decode cL_law 2114 = .ok (.if_icmp .ge 335, 3) := by decide +kernel
theorem dyL_law_2117 : decode cL_law 2117 = .ok (.aload_n 2, 1) := by decide +kernel
theorem dyL_law_2118 : decode cL_law 2118 = .ok (.bipush 15, 2) := by decide +kernel
theorem dyL_law_2120 : decode cL_law 2120 = .ok (.invokevirtual 36, 3) := by decide +kernel
theorem dyL_law_2123 : decode cL_law 2123 = .ok (.istore 8, 2) := by decide +kernel
theorem dyL_law_2125 : decode cL_law 2125 = .ok (.iload 8, 2) := by decide +kernel
theorem dyL_law_2127 : decode cL_law 2127 = .ok (.newarray .int, 2) := by decide +kernel
theorem dyL_law_2129 : decode cL_law 2129 = .ok (.astore 9, 2) := by decide +kernel
theorem dyL_law_2131 : decode cL_law 2131 = .ok (.iconst 0, 1) := by decide +kernel
theorem dyL_law_2132 : decode cL_law 2132 = .ok (.istore 10, 2) := by decide +kernel
theorem dyL_law_2134 : decode cL_law 2134 = .ok (.iload 10, 2) := by decide +kernel
theorem dyL_law_2136 : decode cL_law 2136 = .ok (.iload 8, 2) := by decide +kernel
theorem dyL_law_2138 : decode cL_law 2138 = .ok (.if_icmp .ge 20, 3) := by decide +kernel
theorem dyL_law_2141 : decode cL_law 2141 = .ok (.aload 9, 2) := by decide +kernel
theorem dyL_law_2143 : decode cL_law 2143 = .ok (.iload 10, 2) := by decide +kernel
theorem dyL_law_2145 : decode cL_law 2145 = .ok (.aload_n 2, 1) := by decide +kernel
theorem dyL_law_2146 : decode cL_law 2146 = .ok (.iload 10, 2) := by decide +kernel
theorem dyL_law_2148 : decode cL_law 2148 = .ok (.invokevirtual 154, 3) := by decide +kernel
theorem dyL_law_2151 : decode cL_law 2151 = .ok (.iastore, 1) := by decide +kernel
theorem dyL_law_2152 : decode cL_law 2152 = .ok (.iinc 10 1, 3) := by decide +kernel
theorem dyL_law_2155 : decode cL_law 2155 = .ok (.goto (-21), 3) := by decide +kernel
theorem dyL_law_2158 : decode cL_law 2158 = .ok (.aload_n 2, 1) := by decide +kernel
theorem dyL_law_2159 : decode cL_law 2159 = .ok (.iconst 3, 1) := by decide +kernel
theorem dyL_law_2160 : decode cL_law 2160 = .ok (.invokevirtual 36, 3) := by decide +kernel
theorem dyL_law_2163 : decode cL_law 2163 = .ok (.istore 10, 2) := by decide +kernel
theorem dyL_law_2165 : decode cL_law 2165 = .ok (.aload_n 2, 1) := by decide +kernel
theorem dyL_law_2166 : decode cL_law 2166 = .ok (.invokevirtual 82, 3) := by decide +kernel
theorem dyL_law_2169 : decode cL_law 2169 = .ok (.istore 11, 2) := by decide +kernel
theorem dyL_law_2171 : decode cL_law 2171 = .ok (.iload 10, 2) := by decide +kernel
theorem dyL_law_2173 : decode cL_law 2173 = .ok (.newarray .int, 2) := by decide +kernel
theorem dyL_law_2175 : decode cL_law 2175 = .ok (.astore 12, 2) := by decide +kernel
theorem dyL_law_2177 : decode cL_law 2177 = .ok (.iconst 0, 1) := by decide +kernel
theorem dyL_law_2178 : decode cL_law 2178 = .ok (.istore 13, 2) := by decide +kernel
theorem dyL_law_2180 : decode cL_law 2180 = .ok (.iconst 0, 1) := by decide +kernel
theorem dyL_law_2181 : decode cL_law 2181 = .ok (.istore 14, 2) := by decide +kernel
theorem dyL_law_2183 : decode cL_law 2183 = .ok (.iload 14, 2) := by decide +kernel
theorem dyL_law_2185 : decode cL_law 2185 = .ok (.iload 10, 2) := by decide +kernel
theorem dyL_law_2187 : decode cL_law 2187 = .ok (.if_icmp .ge 33, 3) := by decide +kernel
theorem dyL_law_2190 : decode cL_law 2190 = .ok (.aload_n 2, 1) := by decide +kernel
theorem dyL_law_2191 : decode cL_law 2191 = .ok (.iload 14, 2) := by decide +kernel
theorem dyL_law_2193 : decode cL_law 2193 = .ok (.iconst 0, 1) := by decide +kernel
theorem dyL_law_2194 : decode cL_law 2194 = .ok (.invokevirtual 108, 3) := by decide +kernel
theorem dyL_law_2197 : decode cL_law 2197 = .ok (.ifCond .ne 17, 3) := by decide +kernel
theorem dyL_law_2200 : decode cL_law 2200 = .ok (.aload 12, 2) := by decide +kernel
theorem dyL_law_2202 : decode cL_law 2202 = .ok (.iload 13, 2) := by decide +kernel
theorem dyL_law_2204 : decode cL_law 2204 = .ok (.iinc 13 1, 3) := by decide +kernel
theorem dyL_law_2207 : decode cL_law 2207 = .ok (.aload_n 2, 1) := by decide +kernel
theorem dyL_law_2208 : decode cL_law 2208 = .ok (.iload 14, 2) := by decide +kernel
theorem dyL_law_2210 : decode cL_law 2210 = .ok (.invokevirtual 111, 3) := by decide +kernel
theorem dyL_law_2213 : decode cL_law 2213 = .ok (.iastore, 1) := by decide +kernel
theorem dyL_law_2214 : decode cL_law 2214 = .ok (.iinc 14 1, 3) := by decide +kernel
theorem dyL_law_2217 : decode cL_law 2217 = .ok (.goto (-34), 3) := by decide +kernel
theorem dyL_law_2220 : decode cL_law 2220 = .ok (.aload_n 2, 1) := by decide +kernel
theorem dyL_law_2221 : decode cL_law 2221 = .ok (.bipush 17, 2) := by decide +kernel
theorem dyL_law_2223 : decode cL_law 2223 = .ok (.invokevirtual 36, 3) := by decide +kernel
theorem dyL_law_2226 : decode cL_law 2226 = .ok (.istore 14, 2) := by decide +kernel
theorem dyL_law_2228 : decode cL_law 2228 = .ok (.aload_n 2, 1) := by decide +kernel
theorem dyL_law_2229 : decode cL_law 2229 = .ok (.bipush 12, 2) := by decide +kernel
theorem dyL_law_2231 : decode cL_law 2231 = .ok (.invokevirtual 36, 3) := by decide +kernel
theorem dyL_law_2234 : decode cL_law 2234 = .ok (.istore 15, 2) := by decide +kernel
theorem dyL_law_2236 : decode cL_law 2236 = .ok (.aload_n 2, 1) := by decide +kernel
theorem dyL_law_2237 : decode cL_law 2237 = .ok (.bipush 13, 2) := by decide +kernel
theorem dyL_law_2239 : decode cL_law 2239 = .ok (.invokevirtual 36, 3) := by decide +kernel
theorem dyL_law_2242 : decode cL_law 2242 = .ok (.istore 16, 2) := by decide +kernel
theorem dyL_law_2244 : decode cL_law 2244 = .ok (.aload_n 2, 1) := by decide +kernel
theorem dyL_law_2245 : decode cL_law 2245 = .ok (.iconst 0, 1) := by decide +kernel
theorem dyL_law_2246 : decode cL_law 2246 = .ok (.invokevirtual 157, 3) := by decide +kernel
theorem dyL_law_2249 : decode cL_law 2249 = .ok (.istore 17, 2) := by decide +kernel
theorem dyL_law_2251 : decode cL_law 2251 = .ok (.aload_n 2, 1) := by decide +kernel
theorem dyL_law_2252 : decode cL_law 2252 = .ok (.aload 9, 2) := by decide +kernel
theorem dyL_law_2254 : decode cL_law 2254 = .ok (.invokestatic 160, 3) := by decide +kernel
theorem dyL_law_2257 : decode cL_law 2257 = .ok (.istore 18, 2) := by decide +kernel
theorem dyL_law_2259 : decode cL_law 2259 = .ok (.iload 18, 2) := by decide +kernel
theorem dyL_law_2261 : decode cL_law 2261 = .ok (.iconst 1, 1) := by decide +kernel
theorem dyL_law_2262 : decode cL_law 2262 = .ok (.if_icmp .ge 7, 3) := by decide +kernel
theorem dyL_law_2265 : decode cL_law 2265 = .ok (.iconst 1, 1) := by decide +kernel
theorem dyL_law_2266 : decode cL_law 2266 = .ok (.goto 4, 3) := by decide +kernel
theorem dyL_law_2269 : decode cL_law 2269 = .ok (.iconst 0, 1) := by decide +kernel
theorem dyL_law_2270 : decode cL_law 2270 = .ok (.istore_n 3, 1) := by decide +kernel
theorem dyL_law_2271 : decode cL_law 2271 = .ok (.iload 18, 2) := by decide +kernel
theorem dyL_law_2273 : decode cL_law 2273 = .ok (.ifCond .ne 176, 3) := by decide +kernel
theorem dyL_law_2276 : decode cL_law 2276 = .ok (.aload_n 2, 1) := by decide +kernel
theorem dyL_law_2277 : decode cL_law 2277 = .ok (.iconst 0, 1) := by decide +kernel
theorem dyL_law_2278 : decode cL_law 2278 = .ok (.invokevirtual 36, 3) := by decide +kernel
theorem dyL_law_2281 : decode cL_law 2281 = .ok (.iload 8, 2) := by decide +kernel
theorem dyL_law_2283 : decode cL_law 2283 = .ok (.if_icmp .ne 166, 3) := by decide +kernel
theorem dyL_law_2286 : decode cL_law 2286 = .ok (.iload_n 3, 1) := by decide +kernel
theorem dyL_law_2287 : decode cL_law 2287 = .ok (.ifCond .eq 70, 3) := by decide +kernel
theorem dyL_law_2290 : decode cL_law 2290 = .ok (.aload_n 2, 1) := by decide +kernel
theorem dyL_law_2291 : decode cL_law 2291 = .ok (.invokevirtual 82, 3) := by decide +kernel
theorem dyL_law_2294 : decode cL_law 2294 = .ok (.iload 11, 2) := by decide +kernel
theorem dyL_law_2296 : decode cL_law 2296 = .ok (.if_icmp .ne 61, 3) := by decide +kernel
theorem dyL_law_2299 : decode cL_law 2299 = .ok (.aload_n 2, 1) := by decide +kernel
theorem dyL_law_2300 : decode cL_law 2300 = .ok (.bipush 17, 2) := by decide +kernel
theorem dyL_law_2302 : decode cL_law 2302 = .ok (.invokevirtual 36, 3) := by decide +kernel
theorem dyL_law_2305 : decode cL_law 2305 = .ok (.iload 14, 2) := by decide +kernel
theorem dyL_law_2307 : decode cL_law 2307 = .ok (.if_icmp .ne 50, 3) := by decide +kernel
theorem dyL_law_2310 : decode cL_law 2310 = .ok (.aload_n 2, 1) := by decide +kernel
theorem dyL_law_2311 : decode cL_law 2311 = .ok (.bipush 12, 2) := by decide +kernel
theorem dyL_law_2313 : decode cL_law 2313 = .ok (.invokevirtual 36, 3) := by decide +kernel
theorem dyL_law_2316 : decode cL_law 2316 = .ok (.iload 15, 2) := by decide +kernel
theorem dyL_law_2318 : decode cL_law 2318 = .ok (.if_icmp .ne 39, 3) := by decide +kernel
theorem dyL_law_2321 : decode cL_law 2321 = .ok (.aload_n 2, 1) := by decide +kernel
theorem dyL_law_2322 : decode cL_law 2322 = .ok (.bipush 13, 2) := by decide +kernel
theorem dyL_law_2324 : decode cL_law 2324 = .ok (.invokevirtual 36, 3) := by decide +kernel
theorem dyL_law_2327 : decode cL_law 2327 = .ok (.iload 16, 2) := by decide +kernel
theorem dyL_law_2329 : decode cL_law 2329 = .ok (.if_icmp .ne 28, 3) := by decide +kernel
theorem dyL_law_2332 : decode cL_law 2332 = .ok (.aload_n 2, 1) := by decide +kernel
theorem dyL_law_2333 : decode cL_law 2333 = .ok (.iconst 0, 1) := by decide +kernel
theorem dyL_law_2334 : decode cL_law 2334 = .ok (.invokevirtual 157, 3) := by decide +kernel
theorem dyL_law_2337 : decode cL_law 2337 = .ok (.iload 17, 2) := by decide +kernel
theorem dyL_law_2339 : decode cL_law 2339 = .ok (.if_icmp .ne 18, 3) := by decide +kernel
theorem dyL_law_2342 : decode cL_law 2342 = .ok (.aload_n 2, 1) := by decide +kernel
theorem dyL_law_2343 : decode cL_law 2343 = .ok (.bipush 15, 2) := by decide +kernel
theorem dyL_law_2345 : decode cL_law 2345 = .ok (.invokevirtual 36, 3) := by decide +kernel
theorem dyL_law_2348 : decode cL_law 2348 = .ok (.iload 8, 2) := by decide +kernel
theorem dyL_law_2350 : decode cL_law 2350 = .ok (.if_icmp .lt 7, 3) := by decide +kernel
theorem dyL_law_2353 : decode cL_law 2353 = .ok (.iconst 1, 1) := by decide +kernel
theorem dyL_law_2354 : decode cL_law 2354 = .ok (.goto 4, 3) := by decide +kernel
theorem dyL_law_2357 : decode cL_law 2357 = .ok (.iconst 0, 1) := by decide +kernel
theorem dyL_law_2358 : decode cL_law 2358 = .ok (.istore_n 3, 1) := by decide +kernel
theorem dyL_law_2359 : decode cL_law 2359 = .ok (.iconst 0, 1) := by decide +kernel
theorem dyL_law_2360 : decode cL_law 2360 = .ok (.istore 19, 2) := by decide +kernel
theorem dyL_law_2362 : decode cL_law 2362 = .ok (.iconst 0, 1) := by decide +kernel
theorem dyL_law_2363 : decode cL_law 2363 = .ok (.istore 20, 2) := by decide +kernel
theorem dyL_law_2365 : decode cL_law 2365 = .ok (.iload 20, 2) := by decide +kernel
theorem dyL_law_2367 : decode cL_law 2367 = .ok (.aload_n 2, 1) := by decide +kernel
theorem dyL_law_2368 : decode cL_law 2368 = .ok (.iconst 3, 1) := by decide +kernel
theorem dyL_law_2369 : decode cL_law 2369 = .ok (.invokevirtual 36, 3) := by decide +kernel
theorem dyL_law_2372 : decode cL_law 2372 = .ok (.if_icmp .ge 53, 3) := by decide +kernel
theorem dyL_law_2375 : decode cL_law 2375 = .ok (.aload_n 2, 1) := by decide +kernel
theorem dyL_law_2376 : decode cL_law 2376 = .ok (.iload 20, 2) := by decide +kernel
theorem dyL_law_2378 : decode cL_law 2378 = .ok (.iconst 0, 1) := by decide +kernel
theorem dyL_law_2379 : decode cL_law 2379 = .ok (.invokevirtual 108, 3) := by decide +kernel
theorem dyL_law_2382 : decode cL_law 2382 = .ok (.ifCond .ne 37, 3) := by decide +kernel
theorem dyL_law_2385 : decode cL_law 2385 = .ok (.iload_n 3, 1) := by decide +kernel
theorem dyL_law_2386 : decode cL_law 2386 = .ok (.ifCond .eq 31, 3) := by decide +kernel
theorem dyL_law_2389 : decode cL_law 2389 = .ok (.iload 19, 2) := by decide +kernel
theorem dyL_law_2391 : decode cL_law 2391 = .ok (.iload 13, 2) := by decide +kernel
theorem dyL_law_2393 : decode cL_law 2393 = .ok (.if_icmp .ge 24, 3) := by decide +kernel
theorem dyL_law_2396 : decode cL_law 2396 = .ok (.aload_n 2, 1) := by decide +kernel
theorem dyL_law_2397 : decode cL_law 2397 = .ok (.iload 20, 2) := by decide +kernel
theorem dyL_law_2399 : decode cL_law 2399 = .ok (.invokevirtual 111, 3) := by decide +kernel
theorem dyL_law_2402 : decode cL_law 2402 = .ok (.aload 12, 2) := by decide +kernel
theorem dyL_law_2404 : decode cL_law 2404 = .ok (.iload 19, 2) := by decide +kernel
theorem dyL_law_2406 : decode cL_law 2406 = .ok (.iinc 19 1, 3) := by decide +kernel
theorem dyL_law_2409 : decode cL_law 2409 = .ok (.iaload, 1) := by decide +kernel
theorem dyL_law_2410 : decode cL_law 2410 = .ok (.if_icmp .ne 7, 3) := by decide +kernel
theorem dyL_law_2413 : decode cL_law 2413 = .ok (.iconst 1, 1) := by decide +kernel
theorem dyL_law_2414 : decode cL_law 2414 = .ok (.goto 4, 3) := by decide +kernel
theorem dyL_law_2417 : decode cL_law 2417 = .ok (.iconst 0, 1) := by decide +kernel
theorem dyL_law_2418 : decode cL_law 2418 = .ok (.istore_n 3, 1) := by decide +kernel
theorem dyL_law_2419 : decode cL_law 2419 = .ok (.iinc 20 1, 3) := by decide +kernel
theorem dyL_law_2422 : decode cL_law 2422 = .ok (.goto (-57), 3) := by decide +kernel
theorem dyL_law_2425 : decode cL_law 2425 = .ok (.iload_n 3, 1) := by decide +kernel
theorem dyL_law_2426 : decode cL_law 2426 = .ok (.ifCond .eq 21, 3) := by decide +kernel
theorem dyL_law_2429 : decode cL_law 2429 = .ok (.iload 19, 2) := by decide +kernel
theorem dyL_law_2431 : decode cL_law 2431 = .ok (.iload 13, 2) := by decide +kernel
theorem dyL_law_2433 : decode cL_law 2433 = .ok (.if_icmp .ne 14, 3) := by decide +kernel
theorem dyL_law_2436 : decode cL_law 2436 = .ok (.aload_n 2, 1) := by decide +kernel
theorem dyL_law_2437 : decode cL_law 2437 = .ok (.invokestatic 141, 3) := by decide +kernel
theorem dyL_law_2440 : decode cL_law 2440 = .ok (.ifCond .eq 7, 3) := by decide +kernel
theorem dyL_law_2443 : decode cL_law 2443 = .ok (.iconst 1, 1) := by decide +kernel
theorem dyL_law_2444 : decode cL_law 2444 = .ok (.goto 4, 3) := by decide +kernel
theorem dyL_law_2447 : decode cL_law 2447 = .ok (.iconst 0, 1) := by decide +kernel
theorem dyL_law_2448 : decode cL_law 2448 = .ok (.istore_n 3, 1) := by decide +kernel
theorem dyL_law_2449 : decode cL_law 2449 = .ok (.iload_n 3, 1) := by decide +kernel
theorem dyL_law_2450 : decode cL_law 2450 = .ok (.ireturn, 1) := by decide +kernel
