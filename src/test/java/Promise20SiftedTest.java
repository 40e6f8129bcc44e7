/** Promise 20, sifted, with the sum that the Terms tell. */
final class Promise20SiftedTest {
    private static final Kit KIT = new Kit();

    public static void main(String[] args) {
        sums();
        ahead();
        kept();
        refused();
        KIT.end();
    }

    private static TapLoom taps(int... pairs) {
        TapLoom loom = new TapLoom();
        for (int i = 0; i + 1 < pairs.length; i += 2) {
            loom.tap(pairs[i], pairs[i + 1]);
        }
        return loom;
    }

    private static TapLoom sampled(TapLoom loom, int... samples) {
        for (int sample : samples) {
            loom.sample(sample);
        }
        return loom;
    }

    private static void sums() {
        KIT.test("Promise 20, Terms 'the tap times the sample t places ahead': t of 0, 1 and 3", () -> {
            TapLoom loom = sampled(taps(0, 2, 1, 7, 3, 5), 10, 1, 0, 3);
            KIT.is("sifted(0)", loom.sifted(0), 2 * 3 + 5 * 10);
            KIT.is("sifted(1)", loom.sifted(1), 7 * 1);
            KIT.is("sifted(2)", loom.sifted(2), 2 * 1 + 7 * 10);
            KIT.is("sifted(3)", loom.sifted(3), 2 * 10);
        });
        KIT.test("Promise 20, Terms 'the sum over all taps': all 32 of 1, and samples of 1", () -> {
            TapLoom loom = new TapLoom();
            for (int tap = 0; tap < Looms.TAPS; tap++) {
                loom.tap(tap, 1);
            }
            for (int i = 0; i < 40; i++) {
                loom.sample(1);
                KIT.is("sifted(0) of " + (i + 1), loom.sifted(0), Math.min(i + 1, 32));
            }
            KIT.is("sifted(8)", loom.sifted(8), 32);
            KIT.is("sifted(9)", loom.sifted(9), 31);
        });
        KIT.test("Promise 20, Terms 'by 97': 96, 97 and 98 are 96, 0 and 1", () -> {
            KIT.is("96", sampled(taps(0, 2), 48).sifted(0), 96);
            KIT.is("97", sampled(taps(0, 1, 1, 1), 49, 48).sifted(0), 0);
            KIT.is("98", sampled(taps(0, 2), 49).sifted(0), 1);
        });
        KIT.test("Promise 20, Terms 'by 97', 'the remainders, 0 to 96': samples below 0", () -> {
            KIT.is("-1", sampled(taps(0, 1), -1).sifted(0), 96);
            KIT.is("-96", sampled(taps(0, 1), -96).sifted(0), 1);
            KIT.is("2 times -1", sampled(taps(0, 2), -1).sifted(0), 95);
            KIT.is("-97", sampled(taps(0, 1, 1, 1), -48, -49).sifted(0), 0);
            KIT.is("3 less 5", sampled(taps(0, 1, 1, 1), 3, -5).sifted(0), 95);
        });
        KIT.test("Promise 20, Terms 'by 97': the greatest taps with the greatest and the least samples", () -> {
            TapLoom loom = new TapLoom();
            for (int tap = 0; tap < Looms.TAPS; tap++) {
                loom.tap(tap, 96);
            }
            for (int i = 0; i < 32; i++) {
                loom.sample(96);
            }
            KIT.is("32 times 1", loom.sifted(0), 32);
            for (int i = 0; i < 32; i++) {
                loom.sample(-96);
            }
            KIT.is("32 times -1", loom.sifted(0), 97 - 32);
            KIT.is("still 32 times 1", loom.sifted(32), 32);
            KIT.is("half of each", loom.sifted(16), 0);
        });
        KIT.test("Promise 20, 'the samples that were sifted': by the taps of now", () -> {
            TapLoom loom = sampled(taps(0, 2), 10);
            KIT.is("first", loom.sifted(0), 20);
            loom.tap(0, 3);
            KIT.is("then", loom.sifted(0), 30);
            loom.design();
            KIT.is("at last", loom.sifted(0), 0);
        });
        KIT.test("Promise 20, Terms 'all taps': 0 where all taps are 0, not NONE", () ->
                KIT.is("sifted(0)", sampled(new TapLoom(), 5).sifted(0), 0));
    }

    private static void ahead() {
        KIT.test("Promise 20, Terms 'or 0, if there is none': the first sample has none ahead of it", () -> {
            TapLoom loom = sampled(taps(0, 1, 1, 96, 31, 96), 7, 8);
            KIT.is("sifted(1)", loom.sifted(1), 7);
            KIT.is("sifted(0)", loom.sifted(0), 8 - 7);
        });
        KIT.test("Promise 20, Terms 'or 0, if there is none': tap 31 with 31 samples, and with 32", () -> {
            TapLoom loom = taps(31, 1);
            for (int i = 1; i <= 31; i++) {
                loom.sample(i);
            }
            KIT.is("31 samples", loom.sifted(0), 0);
            loom.sample(50);
            KIT.is("32 samples", loom.sifted(0), 1);
            KIT.is("the one ahead of it", loom.sifted(1), 0);
        });
        KIT.test("Promise 20, Terms 'or it is kept no more': it is 0 then", () -> {
            TapLoom loom = taps(0, 1, 31, 1);
            Looms.sample(loom, 1, 70);
            KIT.is("sifted(32), with the earliest kept", loom.sifted(32), 38 + 7);
            KIT.is("sifted(33), with one kept no more", loom.sifted(33), 37);
            KIT.is("sifted(63), the earliest kept", loom.sifted(63), 7);
        });
        KIT.test("Promise 20, Terms 'or it is kept no more': with tap 1, at 64 samples and one more", () -> {
            TapLoom loom = taps(0, 1, 1, 1);
            Looms.sample(loom, 1, 64);
            KIT.is("sifted(63)", loom.sifted(63), 1);
            KIT.is("sifted(62)", loom.sifted(62), 2 + 1);
            loom.sample(65);
            KIT.is("sifted(63) then", loom.sifted(63), 2);
            KIT.is("sifted(62) then", loom.sifted(62), 3 + 2);
        });
    }

    private static void kept() {
        KIT.test("Promise 20, 'back: 0 for the latest one'", () -> {
            TapLoom loom = sampled(taps(0, 1), 4, 5, 6);
            KIT.is("sifted(0)", loom.sifted(0), 6);
            KIT.is("sifted(2)", loom.sifted(2), 4);
        });
        KIT.test("Promise 20, 'NONE if there are not so many samples': none at all", () -> {
            TapLoom loom = taps(0, 1);
            KIT.is("sifted(0)", loom.sifted(0), TapLoom.NONE);
            KIT.is("sifted(1)", loom.sifted(1), TapLoom.NONE);
        });
        KIT.test("Promise 20, 'NONE if there are not so many samples': the first number beyond", () -> {
            TapLoom loom = sampled(taps(0, 1), 4, 5, 6);
            KIT.is("sifted(2)", loom.sifted(2), 4);
            KIT.is("sifted(3)", loom.sifted(3), TapLoom.NONE);
        });
        KIT.test("Promise 20, 'NONE if there are not so many samples': 64 and beyond, of 70", () -> {
            TapLoom loom = taps(0, 1);
            Looms.sample(loom, 1, 70);
            KIT.is("sifted(63)", loom.sifted(63), 7);
            KIT.is("sifted(64)", loom.sifted(64), TapLoom.NONE);
            KIT.is("sifted(69)", loom.sifted(69), TapLoom.NONE);
        });
        KIT.test("Promise 20, 'NONE if there are not so many samples': the greatest int", () -> {
            TapLoom loom = taps(0, 1);
            KIT.is("of none", loom.sifted(Integer.MAX_VALUE), TapLoom.NONE);
            Looms.sample(loom, 1, 70);
            KIT.is("of 70", loom.sifted(Integer.MAX_VALUE), TapLoom.NONE);
            KIT.is("a little less", loom.sifted(Integer.MAX_VALUE - 31), TapLoom.NONE);
        });
    }

    private static void refused() {
        KIT.refused("Promise 20, 'IndexOutOfBoundsException if back is below 0': -1", Kit.INDEX,
                Looms::busy, loom -> loom.sifted(-1));
        KIT.refused("Promise 20, 'IndexOutOfBoundsException if back is below 0': the least int", Kit.INDEX,
                Looms::busy, loom -> loom.sifted(Integer.MIN_VALUE));
        KIT.refused("Promise 20, 'IndexOutOfBoundsException if back is below 0': -1 without samples", Kit.INDEX,
                TapLoom::new, loom -> loom.sifted(-1));
        KIT.asks("Promise 20, with Terms 'Questions change nothing': sifted(0)", Looms::busy,
                loom -> loom.sifted(0));
        KIT.asks("Promise 20, with Terms 'Questions change nothing': sifted(64)", Looms::busy,
                loom -> loom.sifted(64));
    }
}
