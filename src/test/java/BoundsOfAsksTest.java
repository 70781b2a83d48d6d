/** Promises 6 to 18 and the terms of ASKS: the last value that is taken and the first that isn't. */
public final class BoundsOfAsksTest {
    private static final long BAD = -1_000_000_000_000_000_000L;
    private static final int BIG = Integer.MAX_VALUE;
    private static final int SMALL = Integer.MIN_VALUE;
    private static final String FOUR = "baker a cost 0;baker b cost 0;baker c cost 0;baker d cost 0;";

    private BoundsOfAsksTest() {
    }

    public static void main(String[] args) {
        costs();
        promises();
        sures();
        lotsOfSteps();
        lotsOfParts();
        lotsThatItHas();
        answers();
        kinds();
        partsAskedFor();
        hundredParts();
        stepsThatThereAreNot();
        barredSteps();
        answersAndWhole();
        allBakersHaveOne();
        atMostHerWorth();
        withoutAnyDoor();
        partsOfTwelve();
        matchOnlyInTheSet();
        soldAndEarned();
        largest();
        atSteps();
        atAndWhole();
        bestSteps();
        judged();
        judgedAtBest();
        restsByNumber();
        restsAlike();
        restsAndLaws();
        Due.end("BoundsOfAsksTest");
    }

    private static final int[] NO_BAKERS = {-1, 2, 3, 4, -2, 100, BIG, SMALL};

    /** Prices 4, 7, 10; ann at 4 and bob at 7, for sure. */
    private static LoafStreet two() {
        LoafStreet x = Due.told("baker ann cost 2;baker bob cost 3;steps 3 from 4 by 3;women 10 ask ann;"
            + "women 4 ask bob and ann worth 7;");
        x.sure(0, 0);
        x.sure(1, 1);
        return x;
    }

    private static void costs() {
        LoafStreet x = two();
        Due.is("cost 0", x.cost(1, 0), true);
        Due.is("it's 0", x.told(101), 0);
        Due.is("cost 99", x.cost(1, 99), true);
        Due.is("it's 99", x.told(101), 99);
        for (int cost : new int[] {-1, 100, BIG, SMALL}) {
            Due.is("cost " + cost, x.cost(1, cost), false);
            Due.is("it stays by " + cost, x.told(101), 99);
        }
        for (int baker : NO_BAKERS) {
            Due.is("cost of " + baker, x.cost(baker, 5), false);
        }
        Due.is("others stay", x.told(100) * 100 + x.told(101), 299);
        Due.is("no bakers", new LoafStreet().cost(0, 5), false);
    }

    private static void promises() {
        LoafStreet x = Due.told(FOUR);
        for (int baker = 0; baker < 4; baker++) {
            Due.is("promise of " + baker, x.promise(baker, true), true);
            Due.is("bits by " + baker, x.count(5), (2 << baker) - 1);
        }
        for (int baker : new int[] {-1, 4, 5, 31, 32, 33, BIG, SMALL}) {
            Due.is("promise of " + baker, x.promise(baker, false), false);
            Due.is("bits stay by " + baker, x.count(5), 15);
        }
        for (int baker = 0; baker < 4; baker++) {
            Due.is("no more of " + baker, x.promise(baker, false), true);
            Due.is("bits without " + baker, x.count(5), 15 & -(2 << baker));
            Due.is("no more again of " + baker, x.promise(baker, false), true);
        }
        for (int baker : new int[] {-1, 4, 32, BIG, SMALL}) {
            Due.is("promise of " + baker, x.promise(baker, true), false);
            Due.is("none by " + baker, x.count(5), 0);
        }
        LoafStreet y = new LoafStreet();
        Due.is("no bakers", y.promise(0, true), false);
        Due.is("no bits", y.count(5), 0);
    }

    private static void sures() {
        for (int steps = 1; steps <= 8; steps++) {
            LoafStreet x = Due.told("baker a cost 0;steps " + steps + " from 0 by 1;");
            Due.is("sure " + (steps - 1) + " of " + steps, x.sure(0, steps - 1), true);
            for (int step : new int[] {-1, steps, steps + 1, 8, BIG, SMALL}) {
                Due.is("sure " + step + " of " + steps, x.sure(0, step), false);
                Due.is("it stays by " + step, x.part(0, steps - 1), 100);
            }
            Due.is("sure 0 of " + steps, x.sure(0, 0), true);
            Due.is("it's 0", x.part(0, 0), 100);
        }
        LoafStreet x = two();
        for (int baker : NO_BAKERS) {
            Due.is("sure of " + baker, x.sure(baker, 2), false);
        }
        Due.is("asks stay", x.part(0, 0) + x.part(1, 1), 200);
        x.law(0, 0);
        x.force(0);
        Due.is("a barred step is told", x.sure(0, 2), true);
        Due.is("but isn't whole", x.count(6), 0);
        Due.is("no bakers", new LoafStreet().sure(0, 0), false);
    }

    private static void lotsOfSteps() {
        for (int steps : new int[] {1, 3, 8}) {
            for (int step = 0; step < 8; step++) {
                LoafStreet x = Due.told("baker a cost 0;steps " + steps + " from 0 by 1;");
                Due.is("lot for " + step + " of " + steps, x.lot(0, step, 100), true);
                Due.is("lots it is", x.ask(0), 2);
                Due.is("whole by " + step + " of " + steps, x.count(6), step < steps ? 1 : 0);
                Due.is("part by " + step + " of " + steps, x.part(0, step), step < steps ? 100 : -1);
                Due.is("parts gone for " + step, x.lot(0, step, 0), true);
                x.lot(0, 0, 100);
                Due.is("then it's whole", x.count(6), 1);
            }
        }
        LoafStreet x = two();
        for (int step : new int[] {-1, 8, 9, BIG, SMALL}) {
            Due.is("lot for " + step, x.lot(0, step, 50), false);
            Due.is("sure it stays by " + step, x.ask(0), 1);
        }
        for (int baker : NO_BAKERS) {
            Due.is("lot of " + baker, x.lot(baker, 0, 50), false);
        }
        Due.is("asks stay", x.part(0, 0) + x.part(1, 1), 200);
        Due.is("no bakers", new LoafStreet().lot(0, 0, 1), false);
    }

    private static void lotsOfParts() {
        LoafStreet x = two();
        for (int parts : new int[] {-1, 101, BIG, SMALL}) {
            Due.is("parts " + parts, x.lot(0, 0, parts), false);
            Due.is("sure it stays by " + parts, x.ask(0), 1);
        }
        Due.is("parts 0", x.lot(0, 0, 0), true);
        Due.is("lots it is", x.ask(0), 2);
        Due.is("of nothing", x.count(6), 0);
        Due.is("parts 100", x.lot(0, 0, 100), true);
        Due.is("of all", x.part(0, 0), 100);
        Due.is("parts 101", x.lot(0, 0, 101), false);
        Due.is("all stay", x.part(0, 0), 100);
        Due.is("parts 1", x.lot(0, 0, 1), true);
        Due.is("parts 99", x.lot(0, 2, 99), true);
        Due.is("1 and 99", x.part(0, 0) * 100 + x.part(0, 2), 199);
    }

    private static void lotsThatItHas() {
        LoafStreet x = two();
        x.lot(0, 0, 30);
        x.lot(0, 2, 50);
        x.lot(0, 0, 50);
        Due.is("those that it has, one told anew", x.part(0, 0) * 100 + x.part(0, 2), 5050);
        x.sure(0, 1);
        x.lot(0, 1, 50);
        Due.is("behind sure all are 0", x.count(6), 0);
        x.lot(0, 2, 50);
        Due.is("its own two", x.part(0, 1) * 100 + x.part(0, 2), 5050);
        x.answer(0);
        x.lot(0, 0, 100);
        Due.is("behind answer all are 0", x.part(0, 0) * 10 + x.part(0, 1), 1000);
        x.lot(1, 0, 100);
        Due.is("another's lots stay", x.part(0, 0), 100);
        LoafStreet y = two();
        y.lot(0, 0, 40);
        Due.is("40", y.count(6), 0);
        y.image();
        y.lot(0, 2, 60);
        y.back(0);
        y.lot(0, 1, 60);
        Due.is("by an image: those that it had", y.part(0, 0) * 100 + y.part(0, 1), 4060);
    }

    private static void answers() {
        LoafStreet x = two();
        for (int baker : NO_BAKERS) {
            Due.is("answer of " + baker, x.answer(baker), false);
        }
        Due.is("asks stay", x.ask(0) * 10 + x.ask(1), 11);
        Due.is("answer of the first", x.answer(0), true);
        Due.is("answer of the last", x.answer(1), true);
        Due.is("both", x.ask(0) * 10 + x.ask(1), 33);
        Due.is("no bakers", new LoafStreet().answer(0), false);
    }

    private static void kinds() {
        LoafStreet x = Due.told(FOUR);
        x.sure(1, 0);
        x.lot(2, 0, 0);
        x.answer(3);
        for (int baker = 0; baker < 4; baker++) {
            Due.is("ask of " + baker, x.ask(baker), baker);
        }
        for (int baker : new int[] {-1, 4, BIG, SMALL}) {
            Due.is("ask of " + baker, x.ask(baker), -1);
        }
        Due.is("no bakers", new LoafStreet().ask(0), -1);
    }

    private static void partsAskedFor() {
        LoafStreet x = two();
        Due.is("the first step", x.part(0, 0), 100);
        for (int step = 1; step < 8; step++) {
            Due.is("step " + step, x.part(0, step), 0);
        }
        for (int step : new int[] {-1, 8, BIG, SMALL}) {
            Due.is("step " + step, x.part(0, step), -1);
        }
        for (int baker : NO_BAKERS) {
            Due.is("part of " + baker, x.part(baker, 0), -1);
        }
        x.lot(1, 1, 99);
        Due.is("another's ask isn't whole", x.part(0, 0), -1);
        Due.is("no bakers", new LoafStreet().part(0, 0), -1);
    }

    // ---- WHOLE

    private static void hundredParts() {
        LoafStreet x = two();
        int[] parts = {0, 1, 99, 100};
        for (int p : parts) {
            for (int q : parts) {
                for (int r : parts) {
                    x.lot(1, 0, p);
                    x.lot(1, 1, q);
                    x.lot(1, 2, r);
                    Due.is("whole by " + p + " " + q + " " + r, x.count(6), p + q + r == 100 ? 1 : 0);
                }
            }
        }
        x = two();
        x.lot(0, 0, 99);
        whole("99 parts", x, false);
        x.lot(0, 0, 100);
        whole("100 parts", x, true);
        x.lot(0, 1, 1);
        whole("101 parts", x, false);
        x.lot(0, 0, 99);
        whole("99 and 1", x, true);
    }

    /** Every call that wants WHOLE ASKS says so. */
    private static void whole(String name, LoafStreet x, boolean is) {
        Due.is(name + ": count 6", x.count(6), is ? 1 : 0);
        Due.is(name + ": count 7", x.count(7) > 0, is);
        Due.is(name + ": part", x.part(0, 0) != -1, is);
        Due.is(name + ": sold", x.sold(0) != -1, is);
        Due.is(name + ": earns", x.earns(0) != BAD, is);
        Due.is(name + ": at", x.at(0, 0) != BAD, is);
        Due.is(name + ": best", x.best(0) != -1, is);
        Due.is(name + ": judge", x.judge() != -2, is);
        Due.is(name + ": pays", x.pays(0, 0) != -1, is);
        Due.is(name + ": mean", x.mean(0) != -1, is);
        Due.is(name + ": gap", x.gap() != -1, is);
        Due.is(name + ": saves", x.saves(0, 1) != -1, is);
        Due.is(name + ": look", x.look(1, 0) != -1, is);
        Due.is(name + ": run", x.run(1, 1, 10) != -1, is);
        Due.is(name + ": chase", x.chase(1, 0) != -1, is && x.ask(0) != 3 && x.ask(1) != 3);
        Due.is(name + ": rests don't ask", x.rests(-1) != -1, true);
        Due.is(name + ": bestLaw doesn't ask", x.bestLaw(0, 1) != -1, true);
    }

    private static void stepsThatThereAreNot() {
        LoafStreet x = two();
        x.lot(0, 0, 99);
        x.lot(0, 3, 1);
        whole("one part at the first step that there isn't", x, false);
        x.lot(0, 3, 0);
        x.lot(0, 7, 1);
        whole("one part at step 7", x, false);
        x.lot(0, 7, 0);
        x.lot(0, 2, 1);
        whole("one part at the last step that there is", x, true);
        x.lot(0, 0, 100);
        x.lot(0, 2, 0);
        x.lot(0, 3, 100);
        whole("100 and 100 elsewhere", x, false);
    }

    private static void barredSteps() {
        for (int step = 0; step < 3; step++) {
            for (int kind = 0; kind < 2; kind++) {
                for (int told = 0; told < 8; told++) {
                    LoafStreet x = two();
                    x.sure(0, step);
                    x.sure(1, step);
                    x.law(kind, told);
                    Due.is("no law is in force", x.count(6), 1);
                    x.force(0);
                    boolean barred = kind == 0 ? step > told : step < told;
                    Due.is("step " + step + " by law " + kind + " " + told, x.count(6), barred ? 0 : 1);
                    x.force(-1);
                    Due.is("no law is in force again", x.count(6), 1);
                }
            }
        }
        LoafStreet x = two();
        x.lot(0, 0, 99);
        x.lot(0, 2, 1);
        x.law(0, 1);
        x.law(1, 1);
        x.law(2, 0);
        x.force(0);
        Due.is("one part is barred above", x.count(6), 0);
        x.force(1);
        Due.is("99 parts are barred below", x.count(6), 0);
        x.force(2);
        Due.is("a shout bars none", x.count(6), 1);
        x.force(0);
        x.lot(0, 0, 100);
        x.lot(0, 2, 0);
        Due.is("no part at a barred step", x.count(6), 1);
    }

    private static void answersAndWhole() {
        LoafStreet x = two();
        x.answer(0);
        whole("one answer", x, true);
        x.answer(1);
        whole("two answers", x, false);
        x.lot(1, 0, 99);
        whole("an answer to 99 parts", x, false);
        x.lot(1, 0, 100);
        whole("an answer to 100 parts", x, true);
        x.law(1, 1);
        x.force(0);
        Due.is("an answer to a barred step", x.count(6), 0);
        x.sure(1, 1);
        Due.is("an answer to a step that isn't", x.count(6), 1);
        LoafStreet y = Due.told(FOUR);
        y.answer(0);
        y.answer(3);
        y.sure(1, 0);
        y.sure(2, 0);
        Due.is("two of four answer", y.count(6), 0);
        y.sure(3, 0);
        Due.is("one of four answers", y.count(6), 1);
        Due.is("the least of several", y.part(0, 0), 100);
        LoafStreet z = Due.told("baker a cost 9;women 1 ask a worth 10;");
        z.answer(0);
        Due.is("nobody to answer: whole", z.count(6), 1);
        Due.is("the best by itself", z.part(0, 1), 100);
        z.law(0, 0);
        z.force(0);
        Due.is("the best that isn't barred", z.part(0, 0), 100);
        Due.is("it's a loss", z.earns(0), -4 * 1200);
    }

    private static void allBakersHaveOne() {
        LoafStreet x = Due.told(FOUR);
        for (int baker = 0; baker < 4; baker++) {
            Due.is("whole with " + baker, x.count(6), 0);
            x.sure(baker, 0);
        }
        Due.is("whole with all", x.count(6), 1);
        LoafStreet y = Due.told("baker a cost 0;");
        Due.is("one baker without", y.count(6), 0);
        y.sure(0, 0);
        Due.is("one baker with", y.count(6), 1);
    }

    // ---- buying

    private static void atMostHerWorth() {
        for (int worth = 3; worth <= 11; worth++) {
            LoafStreet x = Due.told("baker a cost 0;steps 3 from 4 by 3;women 1 ask a worth " + worth + ";");
            for (int step = 0; step < 3; step++) {
                int price = 4 + 3 * step;
                x.sure(0, step);
                Due.is("price " + price + ", worth " + worth, x.sold(0), price <= worth ? 1200 : 0);
                Due.is("home by " + price + ", worth " + worth, x.pays(0, 2), price <= worth ? 0 : 1200);
            }
        }
    }

    private static void withoutAnyDoor() {
        LoafStreet x = Due.told("baker a cost 0;readers 5;each 7 of 2;women 1 ask a;");
        x.sure(0, 0);
        Due.is("only the women buy", x.sold(0), 1200);
        Due.is("nothing paid by readers", x.pays(0, 0), 0);
        Due.is("nothing bought by readers", x.pays(0, 1), 0);
        Due.is("readers go home", x.pays(0, 2), 6000);
        Due.is("no set of two of one baker: nothing", x.pays(1, 0) + x.pays(1, 1) + x.pays(1, 2), 0);
        Due.is("no women without set", x.count(8), 6);
        LoafStreet y = Due.told("baker a cost 0;baker b cost 0;each 7 of 2;each 7 of 3;");
        y.sure(0, 0);
        y.sure(1, 0);
        Due.is("one set of two of two", y.pays(0, 1), 7 * 12 * 10000);
        Due.is("none of three of two", y.pays(1, 1) + y.pays(1, 2), 0);
        int[] sets = {0, 4, 6, 4, 1};
        for (int of = 1; of <= 4; of++) {
            LoafStreet z = Due.told(FOUR + "each 1 of " + of + ";");
            Due.is("sets of " + of, z.count(8), sets[of]);
            for (int b = 0; b < 4; b++) {
                z.sure(b, 0);
            }
            Due.is("bought by sets of " + of, z.pays(0, 1), sets[of] * 1200000000L);
            Due.is("sold by a of sets of " + of, z.sold(0), sets[of] * 300000000L);
        }
    }

    private static void partsOfTwelve() {
        for (int sellers = 1; sellers <= 4; sellers++) {
            LoafStreet x = Due.told(FOUR + "women 1 ask a and b and c and d;");
            for (int b = 0; b < 4; b++) {
                x.sure(b, b < sellers ? 1 : 2);
            }
            for (int b = 0; b < 4; b++) {
                Due.is(sellers + " sell, " + b, x.sold(b), b < sellers ? 12 / sellers * 100000000L : 0);
            }
            for (int b = 0; b < 4; b++) {
                x.sure(b, b == 3 ? 1 : 2);
            }
            for (int b = 0; b < sellers - 1; b++) {
                x.promise(b, true);
            }
            for (int b = 0; b < 4; b++) {
                Due.is(sellers + " by promise, " + b, x.sold(b), b == 3 || b < sellers - 1 ? 12 / sellers * 100000000L : 0);
            }
        }
    }

    private static void matchOnlyInTheSet() {
        LoafStreet x = Due.told("baker a cost 0;baker b cost 0;baker c cost 0;women 1 ask a and b worth 5;");
        x.sure(0, 0);
        x.sure(1, 3);
        x.sure(2, 0);
        x.promise(2, true);
        Due.is("c isn't in the set", x.sold(2), 0);
        Due.is("a sells all", x.sold(0), 12000000);
        x.promise(1, true);
        Due.is("b matches", x.sold(1), 6000000);
        Due.is("for 5, not 20", x.earns(1), 30000000);
        x.sure(0, 1);
        Due.is("10 is above her worth, whoever matches", x.sold(0) + x.sold(1), 0);
        x.sure(0, 0);
        x.promise(0, true);
        Due.is("who asks it and promises sells once", x.sold(0), 6000000);
    }

    private static void soldAndEarned() {
        LoafStreet x = two();
        for (int baker : NO_BAKERS) {
            Due.is("sold by " + baker, x.sold(baker), -1);
            Due.is("earned by " + baker, x.earns(baker), BAD);
            Due.is("best of " + baker, x.best(baker), -1);
        }
        x.cost(0, 4);
        Due.is("price is cost", x.earns(0), 0);
        x.cost(0, 5);
        Due.is("price is below cost", x.earns(0), -168 * 10000);
        LoafStreet y = new LoafStreet();
        Due.is("no bakers: sold", y.sold(0), -1);
        Due.is("no bakers: earns", y.earns(0), BAD);
        Due.is("no bakers: best", y.best(0), -1);
        Due.is("no bakers: at", y.at(0, 0), BAD);
        Due.is("no bakers: judge", y.judge(), -2);
    }

    private static void largest() {
        LoafStreet x = Due.told(FOUR + "steps 8 from 99 by 20;" + "each 99 of 2;".repeat(12));
        for (int b = 0; b < 4; b++) {
            x.sure(b, 7);
        }
        Due.is("most sold", x.sold(0), 2138400000000L);
        Due.is("most earned", x.earns(0), 511077600000000L);
        Due.is("most by at", x.at(3, 7), 511077600000000L);
        Due.is("most paid", x.pays(11, 0), 170359200000000L);
        Due.is("its mean", x.mean(11), 239000);
        Due.is("women in all", x.count(8), 7128);
        for (int b = 0; b < 4; b++) {
            for (int s = 0; s < 8; s++) {
                x.lot(b, s, s == 0 ? 16 : 12);
            }
        }
        Due.is("most rows", x.count(7), 4096);
        // everyone buys by every row
        Due.is("sold by lots", x.sold(0) + x.sold(1) + x.sold(2) + x.sold(3), 4 * 2138400000000L);
        LoafStreet y = Due.told("baker a cost 99;baker b cost 99;baker c cost 99;baker d cost 99;steps 1 from 0 by 1;"
            + "each 99 of 2;".repeat(12));
        for (int b = 0; b < 4; b++) {
            y.sure(b, 0);
        }
        Due.is("most lost", y.earns(2), -211701600000000L);
    }

    // ---- AT, BEST, JUDGED, RESTS

    private static void atSteps() {
        LoafStreet x = two();
        Due.is("at 0", x.at(1, 0), 24 * 10000);
        Due.is("at 2", x.at(1, 2), 0);
        for (int step : new int[] {-1, 3, 7, 8, BIG, SMALL}) {
            Due.is("at " + step, x.at(1, step), BAD);
        }
        for (int baker : NO_BAKERS) {
            Due.is("at of " + baker, x.at(baker, 0), BAD);
        }
        x.law(0, 0);
        x.law(1, 2);
        x.sure(1, 0);
        x.force(0);
        Due.is("barred above", x.at(0, 2), 960 * 10000);
        x.sure(0, 2);
        x.sure(1, 2);
        x.force(1);
        Due.is("barred below", x.at(0, 0), 336 * 10000);
        Due.is("not barred", x.at(0, 2), 960 * 10000);
        LoafStreet y = Due.told("baker a cost 0;steps 8 from 1 by 1;women 1 ask a;");
        y.sure(0, 0);
        Due.is("at 7 of 8", y.at(0, 7), 9600);
        Due.is("at 8 of 8", y.at(0, 8), BAD);
    }

    private static void atAndWhole() {
        LoafStreet x = two();
        x.lot(1, 1, 99);
        Due.is("the others' aren't whole", x.at(0, 0), BAD);
        Due.is("nor is its own", x.at(1, 0), BAD);
        x.lot(1, 1, 100);
        Due.is("they are", x.at(0, 0), 336 * 10000);
        x.answer(1);
        // bob answers 4 to ann's 4
        Due.is("against an answer", x.at(0, 0), (120 + 24) * 2 * 10000);
    }

    private static void bestSteps() {
        LoafStreet x = Due.told("baker a cost 0;steps 3 from 6 by 6;women 1 ask a worth 6;women 1 ask a worth 12;"
            + "women 1 ask a;");
        // 3 times 6, 2 times 12, 1 times 18
        x.sure(0, 0);
        Due.is("most at 12", x.best(0), 1);
        x = Due.told("baker a cost 0;steps 3 from 6 by 6;women 2 ask a worth 6;women 1 ask a;");
        x.sure(0, 2);
        // 3 times 6, once 12, once 18
        Due.is("18 and 18: the least", x.best(0), 0);
        x.law(1, 1);
        x.law(1, 2);
        x.law(0, 1);
        x.force(0);
        Due.is("6 is barred: 18", x.best(0), 2);
        x.force(1);
        Due.is("only 18", x.best(0), 2);
        x.sure(0, 0);
        x.force(2);
        Due.is("18 is barred", x.best(0), 0);
        x.law(1, 3);
        x.force(3);
        Due.is("all are barred", x.best(0), -1);
        LoafStreet y = Due.told("baker a cost 0;readers 1;");
        y.sure(0, 3);
        Due.is("nothing at all: the least", y.best(0), 0);
        LoafStreet z = Due.told("baker a cost 50;steps 8 from 1 by 1;women 1 ask a;");
        z.sure(0, 0);
        Due.is("a loss anyway: the last", z.best(0), 7);
    }

    private static void judged() {
        LoafStreet x = Due.told("baker a cost 0;steps 3 from 6 by 6;women 2 ask a worth 6;women 1 ask a;");
        x.sure(0, 2);
        Due.is("no more at best: nobody", x.judge(), -1);
        x.lot(0, 0, 50);
        x.lot(0, 2, 50);
        Due.is("by lots of the two best: nobody", x.judge(), -1);
        x.lot(0, 0, 49);
        x.lot(0, 1, 1);
        Due.is("one part of less", x.judge(), 0);
        x.lot(0, 1, 0);
        Due.is("99 aren't whole", x.judge(), -2);
        LoafStreet y = Due.told(FOUR + "women 1 ask a;women 1 ask b;women 1 ask c;women 1 ask d;");
        for (int b = 3; b >= 0; b--) {
            y.sure(b, 2);
        }
        Due.is("the first of all", y.judge(), 3);
        y.sure(0, 3);
        Due.is("the second", y.judge(), 13);
        y.sure(1, 3);
        Due.is("the third", y.judge(), 23);
        y.sure(2, 3);
        Due.is("the last", y.judge(), 33);
        y.sure(3, 3);
        Due.is("nobody", y.judge(), -1);
        y.law(0, 3);
        y.law(0, 2);
        y.force(0);
        Due.is("nobody by a law that bars nothing", y.judge(), -1);
        y.force(1);
        Due.is("barred: not whole", y.judge(), -2);
        for (int b = 0; b < 4; b++) {
            y.sure(b, 2);
        }
        Due.is("the better one is barred", y.judge(), -1);
    }

    private static void judgedAtBest() {
        LoafStreet x = Due.told(FOUR + "steps 8 from 1 by 1;women 1 ask d;");
        for (int b = 0; b < 4; b++) {
            x.sure(b, 0);
        }
        Due.is("the largest there is", x.judge(), 37);
        x.answer(3);
        Due.is("an answer is best", x.judge(), -1);
    }

    private static void restsByNumber() {
        LoafStreet x = Due.told("baker a cost 0;baker b cost 0;steps 8 from 1 by 1;readers 1;");
        Due.is("all 64", x.rests(-1), 64);
        for (int k = 0; k < 64; k++) {
            Due.is("rest " + k, x.rests(k), k);
        }
        for (int k : new int[] {64, 65, -2, BIG, SMALL}) {
            Due.is("rest " + k, x.rests(k), -1);
        }
        LoafStreet y = Due.told(FOUR + "steps 8 from 1 by 1;");
        Due.is("all 4096", y.rests(-1), 4096);
        Due.is("the last", y.rests(4095), 4095);
        Due.is("none behind it", y.rests(4096), -1);
        LoafStreet z = Due.told(FOUR + "steps 1 from 1 by 1;");
        Due.is("only one", z.rests(-1), 1);
        Due.is("its code", z.rests(0), 0);
        Due.is("none behind that", z.rests(1), -1);
        LoafStreet w = Due.told(FOUR + "steps 2 from 1 by 1;women 1 ask d;");
        Due.is("a, b, c are free", w.rests(-1), 8);
        Due.is("the first", w.rests(0), 512);
        Due.is("the last", w.rests(7), 512 + 64 + 8 + 1);
        LoafStreet none = new LoafStreet();
        Due.is("no bakers: how many", none.rests(-1), -1);
        Due.is("no bakers: the first", none.rests(0), -1);
    }

    private static void restsAlike() {
        LoafStreet x = Due.told("baker a cost 0;steps 3 from 6 by 6;women 2 ask a worth 6;women 1 ask a;");
        Due.is("18 and 18", x.rests(-1), 2);
        Due.is("6", x.rests(0), 0);
        Due.is("and 18", x.rests(1), 2);
        x.cost(0, 1);
        Due.is("15 and 17", x.rests(-1) * 10 + x.rests(0), 12);
        // two who undercut one another till nobody can: a rest isn't always there
        LoafStreet y = Due.told("baker a cost 0;baker b cost 0;steps 4 from 4 by 1;women 9 ask a;women 9 ask b;"
            + "women 8 ask a and b;");
        Due.is("none", y.rests(-1), 0);
        Due.is("no first", y.rests(0), -1);
    }

    private static void restsAndLaws() {
        LoafStreet x = Due.told("baker a cost 0;steps 3 from 6 by 6;women 1 ask a;");
        Due.is("18", x.rests(-1) * 10 + x.rests(0), 12);
        x.law(0, 1);
        x.law(1, 3);
        x.law(1, 2);
        x.law(0, 0);
        x.force(0);
        Due.is("18 is barred", x.rests(-1) * 10 + x.rests(0), 11);
        x.force(1);
        Due.is("all barred: none", x.rests(-1), 0);
        Due.is("all barred: no first", x.rests(0), -1);
        x.force(2);
        Due.is("only 18", x.rests(-1) * 10 + x.rests(0), 12);
        x.force(3);
        Due.is("only 6", x.rests(-1) * 10 + x.rests(0), 10);
        x.force(-1);
        Due.is("none in force", x.rests(-1) * 10 + x.rests(0), 12);
    }
}
