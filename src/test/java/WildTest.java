import java.util.Random;

/** Any arguments in any state: no call throws, and calls that only ask change nothing. */
public final class WildTest {
    private static final String[] TEXTS = {
        "baker a cost 1;",
        "baker a cost 1;baker b cost 2;women 5 ask a;women 3 ask b and a worth 9;each 2 of 2;readers 9;",
        "baker a cost 0;baker b cost 99;baker c cost 9;baker d cost 4;steps 8 from 0 by 1;each 9 of 1;each 9 of 2;"
            + "each 9 of 3;each 9 of 4;readers 9;list d;list a;women 9 ask c and d;women 1 ask a worth 0;door 1;",
        "steps 1 from 99 by 20;baker z cost 0;each 99 of 4;readers 1 worth 0;",
    };

    private final Random lot;
    private final LoafStreet x = new LoafStreet();

    private WildTest(int seed) {
        lot = new Random(seed);
    }

    public static void main(String[] args) {
        for (int seed = 0; seed < 120; seed++) {
            WildTest one = new WildTest(seed);
            Due.tell(one.x, TEXTS[seed % TEXTS.length]);
            for (int i = 0; i < 500; i++) {
                one.call(lot(one.lot, 34));
            }
        }
        Due.end("WildTest");
    }

    private static int lot(Random random, int below) {
        return random.nextInt(below);
    }

    private int n() {
        switch (lot.nextInt(12)) {
            case 0: return Integer.MIN_VALUE + lot.nextInt(40);
            case 1: return Integer.MAX_VALUE - lot.nextInt(40);
            case 2: return lot.nextInt();
            case 3: return lot.nextInt(260) - 10;
            case 4: return 10 + lot.nextInt(30);
            default: return lot.nextInt(10) - 1;
        }
    }

    private void call(int which) {
        if (which < 17) {
            change(which);
            return;
        }
        long before = state();
        look(which);
        Due.is("state behind call " + which, state(), before);
    }

    private void change(int which) {
        switch (which) {
            case 0: x.feed(n(), n(), n(), n(), n()); break;
            case 1: if (lot.nextInt(20) == 0) { x.street(n()); } break;
            case 2: x.cost(n(), n()); break;
            case 3: x.promise(n(), lot.nextBoolean()); break;
            case 4: case 5: case 6: x.sure(n(), n()); break;
            case 7: case 8: x.lot(n(), n(), n()); break;
            case 9: x.answer(n()); break;
            case 10: x.law(n(), n()); break;
            case 11: case 12: x.force(n()); break;
            case 13: x.image(); break;
            case 14: x.back(n()); break;
            default:
                for (int b = 0; b < 4; b++) {
                    x.sure(b, lot.nextInt(8));
                    x.sure(b, lot.nextInt(4));
                }
        }
    }

    private void look(int which) {
        switch (which) {
            case 17: x.fault(); x.told(n()); x.count(n()); break;
            case 18: x.ask(n()); x.part(n(), n()); break;
            case 19: x.sold(n()); break;
            case 20: x.earns(n()); break;
            case 21: x.at(n(), n()); break;
            case 22: x.best(n()); break;
            case 23: x.judge(); break;
            case 24: x.rests(n()); break;
            case 25: x.pays(n(), n()); x.mean(n()); break;
            case 26: x.gap(); break;
            case 27: x.saves(n(), n()); x.would(n()); break;
            case 28: x.look(n(), n()); break;
            case 29: x.lots(n(), n(), n(), n(), n()); break;
            case 30: x.chase(n(), n()); break;
            case 31: x.bestLaw(n(), n()); break;
            case 32: x.edge(n()); break;
            default: x.run(n(), n(), n());
        }
    }

    /** All that can be asked of the state, mixed into one number. */
    private long state() {
        long mixed = x.fault();
        for (int i = 0; i < 9; i++) {
            mixed = mixed * 31 + x.count(i) + 7 * x.told(i) + x.told(100 + i);
        }
        for (int i = 200; i < 248; i++) {
            mixed = mixed * 31 + x.told(i);
        }
        for (int b = 0; b < 4; b++) {
            mixed = mixed * 31 + x.ask(b);
            for (int k = 0; k < 8; k++) {
                mixed = mixed * 31 + x.part(b, k);
            }
        }
        return mixed;
    }
}
