import java.util.Random;

/** Long runs of calls by lot: LoafStreet answers as the model that counts ROW by ROW. */
public final class ModelTest {
    private static final String[] NAMES = {"ann", "bob", "c", "dandelio", "eve"};
    private final Random lot;
    private final LoafStreet x = new LoafStreet();
    private final Model m = new Model();
    private final String run;
    /** Numbers up to all that a text may tell; else small ones, by which more sales are shared. */
    private final boolean wide;

    private ModelTest(int seed, boolean wide) {
        lot = new Random(seed);
        run = "run " + seed + ": ";
        this.wide = wide;
    }

    public static void main(String[] args) {
        for (int seed = 0; seed < 700; seed++) {
            new ModelTest(seed, false).calls(seed % 50 == 0 ? 4 : 3, seed % 50 == 0 ? 8 : 5);
        }
        for (int seed = 30000; seed < 30300; seed++) {
            new ModelTest(seed, true).calls(seed % 50 == 0 ? 4 : 3, seed % 50 == 0 ? 8 : 5);
        }
        for (int seed = 10000; seed < 13000; seed++) {
            new ModelTest(seed, seed % 2 == 0).texts();
        }
        for (int seed = 20000; seed < 20400; seed++) {
            new ModelTest(seed, false).duel();
        }
        Due.end("ModelTest");
    }

    private int upTo(int most) {
        return lot.nextInt(most + 1);
    }

    private int upTo(int most, int mostOfAll) {
        return upTo(wide ? mostOfAll : most);
    }

    private int near(int least, int most) {
        return least - 1 + lot.nextInt(most - least + 3);
    }

    // ---- texts

    private void tell(String text) {
        StringBuilder padded = new StringBuilder(text);
        while (padded.length() % 20 != 0) {
            padded.append(' ');
        }
        for (int i = 0; i < padded.length(); i += 20) {
            int[] w = new int[5];
            for (int j = 0; j < 5; j++) {
                w[j] = Due.word(padded, i + 4 * j);
            }
            Due.is(run + "feed", x.feed(w[0], w[1], w[2], w[3], w[4]), m.feed(w));
        }
        int n = lot.nextInt(40) == 0 ? upTo(padded.length() + 5) : text.length();
        String call = run + "street(" + n + ") of '" + text + "'";
        Due.is(call, x.street(n), m.street(n));
        Due.is(call + " fault", x.fault(), m.fault);
        for (int what = -1; what < 9; what++) {
            Due.is(call + " told " + what, x.told(what), m.told(what));
        }
        for (int what = 99; what < 105; what++) {
            Due.is(call + " told " + what, x.told(what), m.told(what));
        }
        for (int what = 199; what < 250; what++) {
            Due.is(call + " told " + what, x.told(what), m.told(what));
        }
    }

    private void texts() {
        for (int i = 0; i < 6; i++) {
            String text = text(1 + upTo(4), 1 + upTo(7), upTo(16));
            if (lot.nextInt(3) > 0) {
                text = spoil(text);
            }
            tell(text.substring(0, Math.min(800, text.length())));
        }
    }

    private String spoil(String text) {
        String[] scraps = {"baker", "cost", ";", " ", "\n", "0", "100", "00007", "12345", "and ann", "worth 5", "A",
            "readers 1;", "list c;", "women", "each", "of", "x", "\u00e9", ",", "baker eve cost 1;", "door 5;", "toolongname"};
        String scrap = scraps[lot.nextInt(scraps.length)];
        int at = upTo(text.length());
        switch (lot.nextInt(4)) {
            case 0: return text.substring(0, at) + scrap + text.substring(at);
            case 1: return text.substring(0, at) + text.substring(Math.min(text.length(), at + 1 + upTo(5)));
            case 2: return text.substring(0, at);
            default: return text.substring(0, at) + scrap + text.substring(Math.min(text.length(), at + scrap.length()));
        }
    }

    private String text(int bakers, int steps, int sorts) {
        StringBuilder b = new StringBuilder();
        for (int i = 0; i < bakers; i++) {
            b.append("baker ").append(NAMES[i]).append(" cost ").append(upTo(12, 99)).append(gap());
        }
        if (lot.nextInt(8) > 0) {
            b.append("steps ").append(steps).append(" from ").append(upTo(15, 99));
            b.append(" by ").append(1 + upTo(4, 19)).append(gap());
        }
        if (lot.nextBoolean()) {
            b.append("door ").append(upTo(3, 99)).append(gap());
        }
        for (int i = 0; i < bakers; i++) {
            if (lot.nextInt(3) == 0) {
                b.append("list ").append(NAMES[i]).append(gap());
            }
        }
        for (int i = 0; i < sorts; i++) {
            sort(b, bakers);
        }
        return b.toString();
    }

    private void sort(StringBuilder b, int bakers) {
        int number = 1 + upTo(30, 98);
        int kind = lot.nextInt(5);
        if (kind < 3) {
            b.append("women ").append(number).append(" ask ");
            int first = lot.nextInt(bakers);
            b.append(NAMES[first]);
            for (int i = 1; i < bakers && lot.nextInt(3) == 0; i++) {
                b.append(" and ").append(NAMES[(first + i) % bakers]);
            }
        } else if (kind == 3) {
            b.append("each ").append(number).append(" of ").append(1 + upTo(Math.min(3, bakers)));
        } else {
            b.append("readers ").append(number);
        }
        if (lot.nextBoolean()) {
            b.append(" worth ").append(upTo(30, lot.nextBoolean() ? 250 : 999));
        }
        b.append(gap());
    }

    private String gap() {
        String[] gaps = {";", " ;", ";\n", "; "};
        return gaps[lot.nextInt(gaps.length)];
    }

    // ---- calls

    private void calls(int bakers, int steps) {
        tell(text(bakers == 4 ? 4 : 1 + upTo(bakers - 1), bakers == 4 ? 3 + upTo(steps - 3) : 1 + upTo(steps - 1), 2 + upTo(4, 10)));
        askAll();
        for (int i = 0; i < (bakers == 4 ? 60 : 250); i++) {
            if (lot.nextInt(6) == 0) {
                change();
            } else {
                look();
            }
        }
    }

    private void askAll() {
        for (int b = 0; b < m.bakers(); b++) {
            askOne(b);
        }
    }

    private void askOne(int b) {
        int steps = m.told.steps;
        int kind = lot.nextInt(5);
        if (kind == 0) {
            Due.is(run + "answer", x.answer(b), m.answer(b));
        } else if (kind < 3) {
            int k = lot.nextInt(steps);
            Due.is(run + "sure", x.sure(b, k), m.sure(b, k));
        } else {
            int left = 100;
            for (int i = 0; i < 8; i++) {
                int parts = i < steps - 1 ? upTo(2) * upTo(left) / 2 : i == steps - 1 ? left : 0;
                left -= parts;
                Due.is(run + "lot", x.lot(b, i, parts), m.lot(b, i, parts));
            }
        }
    }

    private void change() {
        int b = near(0, m.bakers() - 1);
        switch (lot.nextInt(13)) {
            case 0: int c = near(0, 99); Due.is(run + "cost", x.cost(b, c), m.cost(b, c)); break;
            case 1: boolean is = lot.nextBoolean(); Due.is(run + "promise", x.promise(b, is), m.promise(b, is)); break;
            case 2: int k = near(0, 7); Due.is(run + "sure", x.sure(b, k), m.sure(b, k)); break;
            case 3: int p = near(0, 100); int s = near(0, 7); Due.is(run + "lot", x.lot(b, s, p), m.lot(b, s, p)); break;
            case 4: Due.is(run + "answer", x.answer(b), m.answer(b)); break;
            case 5: int d = near(0, 2); int t = near(0, 7); Due.is(run + "law", x.law(d, t), m.law(d, t)); break;
            case 6: case 7: int l = near(-1, m.laws.size() - 1); Due.is(run + "force", x.force(l), m.force(l)); break;
            case 8: Due.is(run + "image", x.image(), m.image()); break;
            case 9: int i = near(0, m.images.size()); Due.is(run + "back", x.back(i), m.back(i)); break;
            case 10: case 11: askAll(); break;
            default: if (lot.nextInt(5) == 0) { tell(text(1 + upTo(2), 1 + upTo(4), upTo(5))); askAll(); }
        }
    }

    private void look() {
        int b = near(0, m.bakers() - 1);
        int s = near(0, m.told.sorts.size() - 1);
        int k = near(0, m.told.steps - 1);
        String args = "(" + b + ", " + s + ", " + k + ")";
        switch (lot.nextInt(20)) {
            case 0: int any = near(0, 7); Due.is(run + "part" + args + any, x.part(b, any), m.part(b, any)); break;
            case 1: Due.is(run + "sold" + args, x.sold(b), m.sold(b)); break;
            case 2: Due.is(run + "earns" + args, x.earns(b), m.earns(b)); break;
            case 3: Due.is(run + "at" + args, x.at(b, k), m.at(b, k)); break;
            case 4: Due.is(run + "best" + args, x.best(b), m.best(b)); break;
            case 5: Due.is(run + "judge", x.judge(), m.judge()); break;
            case 6: int r = near(0, 2); Due.is(run + "rests " + r, x.rests(r), m.rests(r)); break;
            case 7: int w = near(0, 2); Due.is(run + "pays" + args + w, x.pays(s, w), m.pays(s, w)); break;
            case 8: Due.is(run + "mean" + args, x.mean(s), m.mean(s)); break;
            case 9: Due.is(run + "gap", x.gap(), m.gap()); break;
            case 10: Due.is(run + "saves" + args, x.saves(s, b), m.saves(s, b)); break;
            case 11: Due.is(run + "would" + args, x.would(s), m.would(s)); break;
            case 12: lookAround(s); break;
            case 13: case 14: lots(b, k); break;
            case 15: chase(b); break;
            case 16: int q = near(0, 1); Due.is(run + "bestLaw" + args + q, x.bestLaw(s, q), m.bestLaw(s, q)); break;
            case 17: Due.is(run + "edge" + args, x.edge(b), m.edge(b)); break;
            case 18: mornings(b, s); break;
            default:
                for (int c = -1; c < 10; c++) {
                    Due.is(run + "count " + c, x.count(c), m.count(c));
                }
                Due.is(run + "ask" + args, x.ask(b), m.ask(b));
        }
    }

    private void lookAround(int s) {
        int n = lot.nextInt(4) == 0 ? near(1, 9) : 1 + upTo(8);
        int what = lot.nextInt(3) == 0 ? 0 : 10 + s;
        Due.is(run + "look(" + n + ", " + what + ")", x.look(n, what), m.look(n, what));
    }

    private void lots(int b, int k) {
        int a = near(0, m.bakers() - 1);
        int high = k + upTo(3);
        for (int what = -1; what < 5; what++) {
            String call = run + "lots(" + a + ", " + b + ", " + k + ", " + high + ", " + what + ")";
            Due.is(call, x.lots(a, b, k, high, what), m.lots(a, b, k, high, what));
        }
    }

    /** Women of their own and women in common, and a promise: there LOTS of two are often due. */
    private void duel() {
        StringBuilder b = new StringBuilder();
        int bakers = 2 + upTo(1);
        for (int i = 0; i < bakers; i++) {
            b.append("baker ").append(NAMES[i]).append(" cost ").append(upTo(5)).append(";women ").append(1 + upTo(29));
            b.append(" ask ").append(NAMES[i]).append(lot.nextBoolean() ? ";" : " worth 14;");
        }
        b.append("steps 4 from ").append(3 + upTo(5)).append(" by ").append(1 + upTo(3)).append(";women ");
        b.append(1 + upTo(39)).append(" ask ann and bob;each 3 of 2;");
        tell(b.toString());
        askAll();
        int matching = upTo(1);
        Due.is(run + "promise", x.promise(matching, true), m.promise(matching, true));
        for (int low = 0; low < 4; low++) {
            for (int high = low + 1; high < 4; high++) {
                for (int what = 0; what < 4; what++) {
                    String call = run + "lots of two, " + low + ", " + high + ", " + what;
                    Due.is(call, x.lots(0, 1, low, high, what), m.lots(0, 1, low, high, what));
                    Due.is(call + ", turned", x.lots(1, 0, low, high, what), m.lots(1, 0, low, high, what));
                }
            }
        }
    }

    private void chase(int b) {
        int n = lot.nextInt(3) == 0 ? near(1, 60) : 1 + upTo(20);
        for (int what = -1; what < 4; what++) {
            Due.is(run + "chase(" + n + ", " + what + ")", x.chase(n, what), m.chase(n, what));
        }
        Due.is(run + "chase(" + n + ", 10 + " + b + ")", x.chase(n, 10 + b), m.chase(n, 10 + b));
    }

    private void mornings(int b, int s) {
        int seed = lot.nextInt(10) == 0 ? near(0, 0) : lot.nextInt(1_000_000_000);
        int n = lot.nextInt(4) == 0 ? near(1, 400) : 1 + upTo(60);
        int what = new int[] {10 + b, 20 + b, 30 + s}[lot.nextInt(3)];
        Due.is(run + "run(" + seed + ", " + n + ", " + what + ")", x.run(seed, n, what), m.run(seed, n, what));
    }
}
