/** A call that is refused, and one that only asks, leaves all as it was: ASKS, IMAGES, LAWS, the tape, the latest FAULT. */
public final class RefusedTest {
    private static final long BAD = -1_000_000_000_000_000_000L;
    private static final int BIG = Integer.MAX_VALUE;
    private static final int SMALL = Integer.MIN_VALUE;
    private static final int[] FAR = {BIG, SMALL};

    private interface Call {
        long on(LoafStreet x);
    }

    private RefusedTest() {
    }

    public static void main(String[] args) {
        text();
        bakers();
        values();
        laws();
        full();
        asking();
        notWhole();
        withoutStreet();
        Due.end("RefusedTest");
    }

    /** A street of two with everything told, a text on the tape and a FAULT behind it. */
    private static LoafStreet rich() {
        LoafStreet x = Due.told("baker a cost 2;baker b cost 3;list b;door 1;steps 3 from 4 by 3;women 9 ask a;"
            + "each 4 of 2 worth 7;readers 8;");
        x.sure(0, 1);
        x.lot(1, 0, 30);
        x.lot(1, 2, 70);
        x.promise(1, true);
        x.cost(0, 1);
        x.law(0, 2);
        x.law(1, 0);
        x.force(1);
        x.image();
        x.sure(0, 2);
        x.cost(1, 4);
        Due.tell(x, "baker ?");
        Due.feed(x, "baker z cost 9;");
        return x;
    }

    private static int one(boolean is) {
        return is ? 1 : 0;
    }

    private static void leaves(String name, long due, Call call) {
        leaves(name, due, rich(), call);
    }

    private static void leaves(String name, long due, LoafStreet x, Call call) {
        long[] before = View.of(x);
        Due.is(name, call.on(x), due);
        View.alike(name, before, View.of(x));
        if (x.count(1) == 20 && x.count(2) == 2 && x.count(4) == 1 && x.count(6) == 1) {
            Due.is(name + ": the image is there", x.back(0), true);
            LoafStreet other = rich();
            other.back(0);
            View.alike(name + ": as in the image", View.of(other), View.of(x));
            Due.is(name + ": the tape's text is there", x.street(20), 1);
            Due.is(name + ": its cost", x.told(100), 9);
        }
    }

    private static void text() {
        for (int n : new int[] {-1, 21, 800, 801, BIG, SMALL}) {
            leaves("street " + n, -2, x -> x.street(n));
        }
    }

    private static void bakers() {
        for (int b : new int[] {-1, 2, 3, 4, BIG, SMALL}) {
            leaves("cost of " + b, 0, x -> one(x.cost(b, 5)));
            leaves("promise of " + b, 0, x -> one(x.promise(b, true)));
            leaves("no promise of " + b, 0, x -> one(x.promise(b, false)));
            leaves("sure of " + b, 0, x -> one(x.sure(b, 0)));
            leaves("lot of " + b, 0, x -> one(x.lot(b, 0, 1)));
            leaves("answer of " + b, 0, x -> one(x.answer(b)));
            leaves("edge of " + b, -1, x -> x.edge(b));
            leaves("at of " + b, BAD, x -> x.at(b, 0));
            leaves("lots of " + b, -1, x -> x.lots(b, 0, 0, 1, 0));
            leaves("lots with " + b, -1, x -> x.lots(0, b, 0, 1, 0));
            leaves("saves by " + b, -1, x -> x.saves(0, b));
        }
    }

    private static void values() {
        for (int baker = 0; baker < 2; baker++) {
            int b = baker;
            for (int cost : new int[] {-1, 100, BIG, SMALL}) {
                leaves("cost " + cost, 0, x -> one(x.cost(b, cost)));
            }
            for (int step : new int[] {-1, 3, 7, 8, BIG, SMALL}) {
                leaves("sure " + step, 0, x -> one(x.sure(b, step)));
            }
            for (int step : new int[] {-1, 8, BIG, SMALL}) {
                leaves("lot for " + step, 0, x -> one(x.lot(b, step, 1)));
            }
            for (int parts : new int[] {-1, 101, BIG, SMALL}) {
                leaves("lot of " + parts, 0, x -> one(x.lot(b, 1, parts)));
            }
        }
    }

    private static void laws() {
        for (int kind : new int[] {-1, 3, BIG, SMALL}) {
            leaves("law of kind " + kind, -1, x -> x.law(kind, 1));
        }
        for (int step : new int[] {-1, 8, BIG, SMALL}) {
            for (int kind = 0; kind < 3; kind++) {
                int k = kind;
                leaves("law for " + step, -1, x -> x.law(k, step));
            }
        }
        for (int law : new int[] {-2, 2, 3, BIG, SMALL}) {
            leaves("force " + law, 0, x -> one(x.force(law)));
        }
        for (int image : new int[] {-1, 1, 4, BIG, SMALL}) {
            leaves("back " + image, 0, x -> one(x.back(image)));
        }
    }

    private static void full() {
        LoafStreet x = rich();
        for (int i = 2; i < 6; i++) {
            x.law(0, 7);
        }
        for (int i = 1; i < 4; i++) {
            x.image();
        }
        for (int i = 1; i < 40; i++) {
            x.feed(0x20202020, 0x20202020, 0x20202020, 0x20202020, 0x20202020);
        }
        leaves("a seventh law", -1, x, y -> y.law(0, 0));
        x = rich();
        for (int i = 1; i < 4; i++) {
            x.image();
        }
        leaves("a fifth image", -1, x, y -> y.image());
        x = rich();
        for (int i = 1; i < 40; i++) {
            x.feed(0x20202020, 0x20202020, 0x20202020, 0x20202020, 0x20202020);
        }
        Due.is("800 bytes", x.count(1), 800);
        leaves("more than 800 bytes", -1, x, y -> y.feed(0x3B3B3B3B, 0, 0, 0, 0));
    }

    private static void asking() {
        leaves("look", 2, x -> x.look(9, 0));
        leaves("its set", 3, x -> x.look(9, 10));
        leaves("chase", 0, x -> x.chase(60, 0));
        leaves("a step by chase", rich().chase(1, 11), x -> x.chase(1, 11));
        leaves("lots", -1, x -> x.lots(0, 1, 0, 1, 0));
        leaves("best law", 9, x -> x.bestLaw(0, 0));
        leaves("edge", rich().edge(0), x -> x.edge(0));
        leaves("run", 4000, x -> x.run(999_999_999, 400, 20));
        leaves("rests", 1, x -> x.rests(-1));
        leaves("gap", 1, x -> one(x.gap() > 0));
        for (int far : FAR) {
            leaves("look " + far, -1, x -> x.look(far, 0));
            leaves("look at " + far, -1, x -> x.look(9, far));
            leaves("chase " + far, -1, x -> x.chase(far, 0));
            leaves("chase for " + far, -1, x -> x.chase(9, far));
            leaves("run by " + far, -1, x -> x.run(far, 1, 10));
            leaves("run of " + far, -1, x -> x.run(1, far, 10));
            leaves("run for " + far, -1, x -> x.run(1, 1, far));
            leaves("best law of " + far, -1, x -> x.bestLaw(far, 0));
            leaves("best law for " + far, -1, x -> x.bestLaw(0, far));
            leaves("count " + far, -1, x -> x.count(far));
            leaves("told " + far, -1, x -> x.told(far));
        }
    }

    private static void notWhole() {
        Call[] calls = {x -> x.part(0, 0), x -> x.sold(0), x -> x.best(0), x -> x.pays(0, 0), x -> x.mean(0), x -> x.gap(),
            x -> x.saves(0, 1), x -> x.would(0), x -> x.look(1, 0), x -> x.lots(0, 1, 0, 1, 0), x -> x.chase(1, 0),
            x -> x.run(1, 1, 10)};
        for (int i = 0; i < calls.length; i++) {
            LoafStreet x = rich();
            x.lot(1, 0, 29);
            leaves("not whole: call " + i, -1, x, calls[i]);
        }
        LoafStreet x = rich();
        x.lot(1, 0, 29);
        leaves("not whole: judge", -2, x, y -> y.judge());
        x = rich();
        x.lot(1, 0, 29);
        leaves("not whole: earns", BAD, x, y -> y.earns(0));
    }

    private static void withoutStreet() {
        Call[] calls = {x -> one(x.cost(0, 1)), x -> one(x.promise(0, true)), x -> one(x.sure(0, 0)), x -> one(x.lot(0, 0, 1)),
            x -> one(x.answer(0)), x -> one(x.back(0)), x -> one(x.force(0)), x -> 1 + x.image(), x -> 1 + x.edge(0),
            x -> 2 + x.street(1), x -> 1 + x.bestLaw(0, 0)};
        for (int i = 0; i < calls.length; i++) {
            leaves("no street: call " + i, 0, new LoafStreet(), calls[i]);
        }
    }
}
