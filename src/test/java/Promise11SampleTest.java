/** Promise 11, sample, sentence by sentence. */
final class Promise11SampleTest {
    private static final Kit KIT = new Kit();

    public static void main(String[] args) {
        puts();
        kept();
        values();
        KIT.end();
    }

    /** One tap alone, so that what is sifted is the sample itself by 97. */
    private static TapLoom plain() {
        TapLoom loom = new TapLoom();
        loom.tap(0, 1);
        return loom;
    }

    private static void puts() {
        KIT.test("Promise 11, 'Puts a sample behind the others': the latest is the last one put", () -> {
            TapLoom loom = plain();
            Looms.sample(loom, 11, 13);
            KIT.is("sifted(0)", loom.sifted(0), 13);
            KIT.is("sifted(1)", loom.sifted(1), 12);
            KIT.is("sifted(2)", loom.sifted(2), 11);
            KIT.is("sifted(3)", loom.sifted(3), TapLoom.NONE);
        });
        KIT.test("Promise 11, 'Returns how many there are then': 1 to 64", () -> {
            TapLoom loom = new TapLoom();
            for (int i = 1; i <= 64; i++) {
                KIT.is("sample " + i, loom.sample(0), i);
            }
        });
    }

    private static void kept() {
        KIT.test("Promise 11, 'the latest 64 are kept': with 64 all are there", () -> {
            TapLoom loom = plain();
            Looms.sample(loom, 1, 64);
            KIT.is("sifted(0)", loom.sifted(0), 64);
            KIT.is("sifted(63)", loom.sifted(63), 1);
            KIT.is("sifted(64)", loom.sifted(64), TapLoom.NONE);
        });
        KIT.test("Promise 11, 'the latest 64 are kept': with 65 the first one is not, and there are 64", () -> {
            TapLoom loom = plain();
            Looms.sample(loom, 1, 64);
            KIT.is("the 65th", loom.sample(65), 64);
            KIT.is("sifted(0)", loom.sifted(0), 65);
            KIT.is("sifted(63)", loom.sifted(63), 2);
            KIT.is("sifted(64)", loom.sifted(64), TapLoom.NONE);
        });
        KIT.test("Promise 11, 'the latest 64 are kept': twice round and more, there are 64", () -> {
            TapLoom loom = plain();
            for (int i = 0; i < 150; i++) {
                KIT.is("sample " + i, loom.sample(i % 97), Math.min(i + 1, 64));
            }
            for (int back = 0; back < 64; back++) {
                KIT.is("sifted(" + back + ")", loom.sifted(back), (149 - back) % 97);
            }
        });
    }

    private static void values() {
        for (int end : new int[] {-96, -1, 0, 1, 96}) {
            KIT.test("Promise 11, 'value: -96 to 96': " + end + " is taken", () -> {
                TapLoom loom = plain();
                KIT.is("sample", loom.sample(end), 1);
                KIT.is("sifted(0)", loom.sifted(0), end < 0 ? end + 97 : end);
            });
        }
        KIT.refusedBeyond("Promise 11, 'IllegalArgumentException if value is out of range', 'value: -96 to 96'",
                Kit.ARGUMENT, Looms::busy, -96, 96, TapLoom::sample);
        KIT.refusedBeyond("Promise 11, 'IllegalArgumentException if value is out of range', 64 are kept",
                Kit.ARGUMENT, Promise11SampleTest::full, -96, 96, TapLoom::sample);
        KIT.refused("Promise 11, 'IllegalArgumentException if value is out of range': 97 as the first one",
                Kit.ARGUMENT, TapLoom::new, loom -> loom.sample(97));
    }

    private static TapLoom full() {
        TapLoom loom = plain();
        Looms.sample(loom, 1, 70);
        return loom;
    }
}
