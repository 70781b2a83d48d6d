/** Promises 26 to 34: CHASE, LAWS, EDGE, RUN, IMAGES, counts; the last value that is taken and the first that isn't. */
public final class BoundsOfLawsTest {
    private static final int BIG = Integer.MAX_VALUE;
    private static final int SMALL = Integer.MIN_VALUE;
    private static final String FOUR = "baker a cost 0;baker b cost 0;baker c cost 0;baker d cost 0;";

    /** Two with women of their own and women of both; prices 4 to 7: they chase one another without end. */
    private static final String RING = "baker a cost 0;baker b cost 0;steps 4 from 4 by 1;women 9 ask a;women 9 ask b;"
        + "women 8 ask a and b;";

    private BoundsOfLawsTest() {
    }

    public static void main(String[] args) {
        chaseRounds();
        chaseWhat();
        chaseNobody();
        chaseRing();
        chaseRingAtTheBeginning();
        chaseOfSixty();
        chaseOnlyForMore();
        chaseOfLots();
        chaseRefused();
        chaseLeavesAll();
        lawsArguments();
        sixLaws();
        barredByLaws();
        forces();
        bestLawArguments();
        bestLawOfSeveral();
        bestLawWithoutRest();
        bestLawWithoutBought();
        bestLawLeavesAll();
        edgeByTwenty();
        edgeUpTo99();
        edgeAbove();
        edgeByNumberOrFirst();
        edgeArguments();
        runSeeds();
        runMornings();
        runWhat();
        runDraws();
        runWraps();
        runBuys();
        fourImages();
        imagesKeep();
        backs();
        counts();
        countRows();
        countWomen();
        Due.end("BoundsOfLawsTest");
    }

    private static LoafStreet allAt(String text, int... steps) {
        LoafStreet x = Due.told(text);
        for (int baker = 0; baker < steps.length; baker++) {
            Due.is("sure of " + baker, x.sure(baker, steps[baker]), true);
        }
        return x;
    }

    // ---- promise 26

    private static void chaseRounds() {
        LoafStreet x = allAt(RING, 3, 3);
        Due.is("1 round", x.chase(1, 1), 1);
        Due.is("60 rounds", x.chase(60, 1), 3);
        for (int n : new int[] {0, -1, 61, 62, BIG, SMALL}) {
            for (int what : new int[] {0, 1, 2, 10}) {
                Due.is("rounds " + n + " what " + what, x.chase(n, what), -1);
            }
        }
        Due.is("no bakers", new LoafStreet().chase(1, 0), -1);
    }

    private static void chaseWhat() {
        LoafStreet x = allAt(RING, 3, 3);
        for (int what : new int[] {-1, 3, 4, 8, 9, 12, 13, 14, BIG, SMALL, SMALL + 10}) {
            Due.is("what " + what, x.chase(2, what), -1);
        }
        LoafStreet y = allAt(FOUR, 3, 2, 1, 0);
        for (int b = 0; b < 4; b++) {
            Due.is("nobody buys: " + b + " stays", y.chase(60, 10 + b), 3 - b);
        }
        Due.is("a fifth", y.chase(60, 14), -1);
    }

    private static void chaseNobody() {
        LoafStreet x = allAt(FOUR, 3, 3, 3, 3);
        Due.is("nobody did", x.chase(60, 0), 0);
        Due.is("in the first round", x.chase(60, 1), 1);
        Due.is("no ring", x.chase(60, 2), 0);
        Due.is("of one round as well", x.chase(1, 0), 0);
        LoafStreet y = allAt("baker a cost 0;women 1 ask a;", 0);
        Due.is("one moves, then nobody", y.chase(60, 0) * 10 + y.chase(60, 1), 2);
        Due.is("spent with the move", y.chase(1, 0) * 10 + y.chase(1, 1), 21);
        Due.is("two suffice", y.chase(2, 0) * 10 + y.chase(2, 1), 2);
        Due.is("its step", y.chase(1, 10), 3);
    }

    /** From 7 7 they go by 6 5, 4 7, 6 5, and so on. */
    private static void chaseRing() {
        LoafStreet x = allAt(RING, 3, 3);
        int[] ends = {2, 2, 1, 1};
        int[] gone = {1, 2, 3, 3};
        int[] length = {0, 0, 2, 2};
        int[] a = {2, 0, 2, 2};
        int[] b = {1, 3, 1, 1};
        for (int n = 1; n <= 4; n++) {
            Due.is("ends by " + n, x.chase(n, 0), ends[n - 1]);
            Due.is("gone by " + n, x.chase(n, 1), gone[n - 1]);
            Due.is("length by " + n, x.chase(n, 2), length[n - 1]);
            Due.is("a by " + n, x.chase(n, 10), a[n - 1]);
            Due.is("b by " + n, x.chase(n, 11), b[n - 1]);
        }
    }

    private static void chaseRingAtTheBeginning() {
        LoafStreet x = allAt(RING, 2, 1);
        Due.is("spent by 1", x.chase(1, 0) * 100 + x.chase(1, 1) * 10 + x.chase(1, 2), 210);
        Due.is("a ring by 2", x.chase(2, 0) * 100 + x.chase(2, 1) * 10 + x.chase(2, 2), 122);
        x.sure(0, 0);
        x.sure(1, 3);
        Due.is("the other half", x.chase(60, 0) * 100 + x.chase(60, 1) * 10 + x.chase(60, 2), 122);
        Due.is("a", x.chase(60, 10), 0);
        Due.is("b", x.chase(60, 11), 3);
        x.law(0, 0);
        x.force(0);
        x.sure(0, 0);
        x.sure(1, 0);
        Due.is("nobody at once, behind a ring", x.chase(60, 0) * 10 + x.chase(60, 1), 1);
        Due.is("no length any more", x.chase(60, 2), 0);
    }

    /** A long way: with the sixtieth round, and no sooner, the ASKS are as behind an elder one. */
    private static final String LONG = "baker a cost 6;baker b cost 0;baker c cost 3;baker d cost 18;steps 8 from 19 by 1;"
        + "women 87 ask c and d;women 31 ask b and c;women 64 ask b;women 59 ask a and b;women 62 ask c;women 23 ask b and c;"
        + "women 16 ask b;women 33 ask a;women 7 ask a and b and d worth 20;";

    private static void chaseOfSixty() {
        int[] steps = {1, 1, 0, 2};
        int[] codes = new int[61];
        for (int round = 0; round <= 60; round++) {
            for (int b = 0; b < 4; b++) {
                codes[round] += steps[b] << 3 * b;
            }
            if (round == 58 || round == 59 || round == 60) {
                LoafStreet x = longWay(new int[] {1, 1, 0, 2});
                Due.is("ends by " + round, x.chase(round, 0), round < 60 ? 2 : 1);
                Due.is("gone by " + round, x.chase(round, 1), round);
                Due.is("length by " + round, x.chase(round, 2), round < 60 ? 0 : 60 - elder(codes));
                for (int b = 0; b < 4; b++) {
                    Due.is("step of " + b + " by " + round, x.chase(round, 10 + b), steps[b]);
                }
            }
            LoafStreet x = longWay(steps);
            for (int b = 0; b < 4; b++) {
                int best = x.best(b);
                if (x.at(b, best) > x.earns(b)) {
                    x.sure(b, best);
                    steps[b] = best;
                }
            }
        }
        Due.is("an elder round is there", elder(codes) < 60, true);
    }

    private static LoafStreet longWay(int[] steps) {
        LoafStreet x = allAt(LONG, steps);
        x.promise(1, true);
        x.promise(2, true);
        return x;
    }

    private static int elder(int[] codes) {
        int i = 0;
        while (codes[i] != codes[60]) {
            i++;
        }
        return i;
    }

    private static void chaseOnlyForMore() {
        LoafStreet x = allAt("baker a cost 0;steps 3 from 6 by 6;women 2 ask a worth 6;women 1 ask a;", 2);
        Due.is("18 is as good as 6: it stays", x.chase(60, 10), 2);
        Due.is("nobody", x.chase(60, 0) * 10 + x.chase(60, 1), 1);
        x.sure(0, 1);
        Due.is("from 12 to the least of the best", x.chase(60, 10), 0);
        x.law(1, 1);
        x.force(0);
        Due.is("6 is barred: 18", x.chase(60, 10), 2);
    }

    private static void chaseOfLots() {
        LoafStreet x = Due.told("baker a cost 0;steps 3 from 6 by 6;women 2 ask a worth 6;women 1 ask a;");
        x.lot(0, 0, 50);
        x.lot(0, 2, 50);
        Due.is("lots that earn the most stay", x.chase(60, 10), -1);
        Due.is("nobody", x.chase(60, 0) * 10 + x.chase(60, 1), 1);
        x.lot(0, 0, 49);
        x.lot(0, 1, 1);
        Due.is("others don't", x.chase(60, 10), 0);
        Due.is("in two rounds", x.chase(60, 0) * 10 + x.chase(60, 1), 2);
        // a goes from the second step to the first, b from lots to the last: no elder round was like that
        LoafStreet y = allAt("baker a cost 0;baker b cost 0;steps 8 from 8 by 1;women 1 ask a worth 8;women 1 ask b;", 1);
        y.lot(1, 0, 50);
        y.lot(1, 1, 50);
        Due.is("no ring", y.chase(60, 0) * 10 + y.chase(60, 1), 2);
        Due.is("their steps", y.chase(60, 10) * 10 + y.chase(60, 11), 7);
    }

    private static void chaseRefused() {
        LoafStreet x = allAt(RING, 3, 3);
        x.lot(1, 3, 99);
        Due.is("99 parts", x.chase(5, 0), -1);
        x.lot(1, 3, 100);
        Due.is("100 parts", x.chase(5, 1), 3);
        x.answer(1);
        Due.is("an answer", x.chase(5, 0), -1);
        Due.is("an answer: no step either", x.chase(5, 10), -1);
        x.sure(1, 3);
        x.answer(0);
        Due.is("the other's answer", x.chase(5, 0), -1);
        x.sure(0, 3);
        x.law(1, 3);
        x.law(1, 4);
        x.force(0);
        Due.is("one step is free", x.chase(5, 0) * 10 + x.chase(5, 1), 1);
        x.force(1);
        Due.is("all are barred", x.chase(5, 0), -1);
        Due.is("all are barred: no step", x.chase(5, 11), -1);
    }

    private static void chaseLeavesAll() {
        LoafStreet x = allAt(RING, 3, 3);
        x.lot(1, 0, 10);
        x.lot(1, 3, 90);
        long[] before = View.of(x);
        x.chase(60, 0);
        x.chase(1, 10);
        View.alike("behind chase", before, View.of(x));
    }

    // ---- promises 27, 28

    private static void lawsArguments() {
        for (int kind : new int[] {-1, 3, 4, BIG, SMALL}) {
            LoafStreet x = Due.told(FOUR);
            Due.is("kind " + kind, x.law(kind, 0), -1);
            Due.is("no law by kind " + kind, x.count(2), 0);
        }
        for (int kind = 0; kind < 3; kind++) {
            LoafStreet x = Due.told(FOUR);
            for (int step : new int[] {-1, 8, 9, BIG, SMALL}) {
                Due.is("kind " + kind + " step " + step, x.law(kind, step), -1);
                Due.is("no law by step " + step, x.count(2), 0);
            }
            Due.is("kind " + kind + " step 0", x.law(kind, 0), 0);
            Due.is("kind " + kind + " step 7", x.law(kind, 7), 1);
            Due.is("kind " + kind + " step 4, untold", x.law(kind, 4), 2);
            Due.is("none comes in force by that", x.count(3), -1);
        }
    }

    private static void sixLaws() {
        LoafStreet x = allAt("baker a cost 0;steps 8 from 1 by 1;", 3);
        for (int i = 0; i < 6; i++) {
            Due.is("force " + i + " before it's told", x.force(i), false);
            Due.is("law " + i, x.law(0, 7 - i), i);
            Due.is("laws", x.count(2), i + 1);
            Due.is("force " + i, x.force(i), true);
        }
        for (int kind = 0; kind < 3; kind++) {
            Due.is("a seventh of kind " + kind, x.law(kind, 0), -1);
            Due.is("six", x.count(2), 6);
        }
        Due.is("force 6", x.force(6), false);
        Due.is("the last is in force", x.count(3), 5);
        Due.is("steps above 2 are barred by it", x.count(6), 0);
        x.force(4);
        Due.is("step 3 isn't barred by the fifth", x.count(6), 1);
    }

    /** What a LAW bars, seen by RESTS where nobody buys: every free ROW is one. */
    private static void barredByLaws() {
        for (int steps = 1; steps <= 8; steps++) {
            for (int told = 0; told < 8; told++) {
                LoafStreet x = Due.told("baker a cost 0;steps " + steps + " from 1 by 1;");
                x.law(0, told);
                x.law(1, told);
                x.law(2, told);
                x.force(0);
                int upTo = Math.min(steps, told + 1);
                Due.is("up to " + told + " of " + steps, x.rests(-1), upTo);
                Due.is("the last up to " + told + " of " + steps, x.rests(upTo - 1), upTo - 1);
                x.force(1);
                int from = Math.max(0, steps - told);
                Due.is("from " + told + " of " + steps, x.rests(-1), from);
                Due.is("the first from " + told + " of " + steps, x.rests(0), from > 0 ? told : -1);
                x.force(2);
                Due.is("a shout of " + steps, x.rests(-1), steps);
                x.force(-1);
                Due.is("no law of " + steps, x.rests(-1), steps);
            }
        }
    }

    private static void forces() {
        LoafStreet x = allAt("baker a cost 0;women 1 ask a;", 3);
        Due.is("none is told: force 0", x.force(0), false);
        Due.is("none is told: force none", x.force(-1), true);
        x.law(0, 3);
        x.law(0, 2);
        Due.is("force 1", x.force(1), true);
        for (int law : new int[] {-2, 2, 6, 9, BIG, SMALL}) {
            Due.is("force " + law, x.force(law), false);
            Due.is("1 stays by " + law, x.count(3), 1);
            Due.is("and bars by " + law, x.count(6), 0);
        }
        Due.is("force 0", x.force(0), true);
        Due.is("only that", x.count(3) * 10 + x.count(6), 1);
        Due.is("force none", x.force(-1), true);
        Due.is("none", x.count(3), -1);
        Due.is("force none again", x.force(-1), true);
    }

    // ---- promise 29

    private static void bestLawArguments() {
        LoafStreet x = Due.told("baker a cost 0;women 1 ask a;women 1 ask a worth 5;");
        Due.is("no law", x.bestLaw(0, 0), 9);
        Due.is("its mean", x.bestLaw(0, 1), 20000);
        for (int what : new int[] {-1, 2, 3, BIG, SMALL}) {
            Due.is("what " + what, x.bestLaw(0, what), -1);
        }
        for (int sort : new int[] {-1, 2, 3, 11, 12, BIG, SMALL}) {
            Due.is("sort " + sort, x.bestLaw(sort, 0), -1);
            Due.is("mean of sort " + sort, x.bestLaw(sort, 1), -1);
        }
        Due.is("no bakers", new LoafStreet().bestLaw(0, 0), -1);
    }

    private static void bestLawOfSeveral() {
        LoafStreet x = Due.told("baker a cost 0;women 1 ask a;");
        x.law(0, 3);
        x.law(0, 7);
        Due.is("no law ahead of all", x.bestLaw(0, 0), 9);
        x.law(0, 1);
        x.law(0, 1);
        Due.is("the first of two", x.bestLaw(0, 0), 2);
        Due.is("its mean", x.bestLaw(0, 1), 10000);
        x.law(1, 0);
        x.law(0, 0);
        Due.is("the sixth is less", x.bestLaw(0, 0), 5);
        Due.is("its mean", x.bestLaw(0, 1), 5000);
        LoafStreet y = Due.told("baker a cost 0;women 1 ask a;");
        y.law(0, 0);
        Due.is("the only one, number 0", y.bestLaw(0, 0), 0);
        LoafStreet z = Due.told(FOUR + "steps 8 from 1 by 1;women 1 ask a and b and c and d;women 1 ask d;");
        // a, b, c undercut one another down to the least; d asks its own sort the most that isn't barred: 8, by law 4 only 6
        for (int i = 0; i < 6; i++) {
            z.law(i % 2, 7 - i / 2);
        }
        Due.is("of four bakers: for d's own", z.bestLaw(1, 0) * 10000 + z.bestLaw(1, 1), 46000);
        Due.is("for those of all", z.bestLaw(0, 0) * 10000 + z.bestLaw(0, 1), 91000);
        y = Due.told("baker a cost 0;women 1 ask a;");
        y.law(1, 3);
        Due.is("one that doesn't help", y.bestLaw(0, 0), 9);
    }

    private static void bestLawWithoutRest() {
        LoafStreet x = Due.told(RING);
        Due.is("no rest without a law", x.bestLaw(2, 0), -1);
        Due.is("no mean", x.bestLaw(2, 1), -1);
        x.law(1, 4);
        Due.is("nor with all barred", x.bestLaw(2, 0), -1);
        x.law(1, 3);
        Due.is("a law has one", x.bestLaw(2, 0), 1);
        Due.is("at 7", x.bestLaw(2, 1), 7000);
        x.law(0, 0);
        Due.is("another at 4", x.bestLaw(2, 0) * 10000 + x.bestLaw(2, 1), 24000);
    }

    private static void bestLawWithoutBought() {
        LoafStreet x = Due.told("baker a cost 6;steps 3 from 5 by 1;women 1 ask a worth 5;women 1 ask a;");
        // cost 6: at 5 a loss of two, at 6 nothing, at 7 one: it asks 7
        Due.is("too dear for the first", x.bestLaw(0, 0), -1);
        Due.is("no mean", x.bestLaw(0, 1), -1);
        x.law(0, 1);
        Due.is("6 is too dear, too", x.bestLaw(0, 0), -1);
        x.law(0, 0);
        Due.is("5 isn't", x.bestLaw(0, 0) * 10000 + x.bestLaw(0, 1), 15000);
        Due.is("the second sort", x.bestLaw(1, 0) * 10000 + x.bestLaw(1, 1), 15000);
        LoafStreet y = Due.told("baker a cost 0;steps 1 from 0 by 1;women 1 ask a;readers 1;");
        Due.is("bought for nothing", y.bestLaw(0, 0) * 10 + y.bestLaw(0, 1), 90);
        Due.is("without list", y.bestLaw(1, 0), -1);
        y.law(2, 0);
        Due.is("shouted to them", y.bestLaw(1, 0) * 10 + y.bestLaw(1, 1), 0);
        Due.is("the first sort needs none", y.bestLaw(0, 0), 9);
    }

    private static void bestLawLeavesAll() {
        for (int law = -1; law < 3; law++) {
            LoafStreet x = allAt(RING, 3, 3);
            x.law(0, 3);
            x.law(1, 3);
            x.law(2, 0);
            x.force(law);
            long[] before = View.of(x);
            // without a law and by the first nobody rests; only 7 is free by the second; all go to 4 by the shout
            Due.is("whichever is in force: " + law, x.bestLaw(2, 0), 2);
            Due.is("its mean, whichever is in force: " + law, x.bestLaw(2, 1), 4000);
            View.alike("behind bestLaw", before, View.of(x));
        }
    }

    // ---- promise 30

    private static void edgeByTwenty() {
        LoafStreet x = Due.told("baker a cost 0;steps 2 from 40 by 20;women 1 ask a worth 40;women 1 ask a;");
        // 2 (40 - c) and 60 - c are alike at 20
        Due.is("20 above", x.edge(0), 20);
        x.cost(0, 1);
        Due.is("19 above", x.edge(0), 20);
        x.cost(0, 19);
        Due.is("1 above", x.edge(0), 20);
        x.cost(0, 20);
        Due.is("alike now: the next is another", x.edge(0), 21);
        x.cost(0, 21);
        Due.is("none any more", x.edge(0), -1);
        x = Due.told("baker a cost 0;steps 2 from 41 by 20;women 1 ask a worth 41;women 1 ask a;");
        Due.is("21 above", x.edge(0), -1);
        x.cost(0, 1);
        Due.is("20 above again", x.edge(0), 21);
    }

    private static void edgeUpTo99() {
        String ahead = "baker a cost 90;steps 3 from 99 by 20;women ";
        // 39 (119 - c) and 19 (139 - c) are alike at 100, 40 and 20 at 99
        LoafStreet x = Due.told(ahead + "20 ask a worth 119;women 20 ask a;");
        Due.is("99 is taken", x.edge(0), 99);
        x.cost(0, 98);
        Due.is("from 98 too", x.edge(0), 99);
        x.cost(0, 99);
        Due.is("nothing above 99", x.edge(0), -1);
        Due.is("the cost stays", x.told(100), 99);
        LoafStreet y = Due.told(ahead + "20 ask a worth 119;women 19 ask a;");
        Due.is("100 isn't", y.edge(0), -1);
        y.cost(0, 99);
        Due.is("nor from 99", y.edge(0), -1);
    }

    private static void edgeAbove() {
        LoafStreet x = Due.told("baker a cost 20;baker b cost 5;steps 2 from 40 by 20;women 1 ask a worth 40;women 1 ask a;");
        long[] before = View.of(x);
        Due.is("not that now", x.edge(0), 21);
        Due.is("one whose cost decides nothing", x.edge(1), -1);
        View.alike("behind edge", before, View.of(x));
    }

    private static void edgeByNumberOrFirst() {
        // a may ask 40 or 60 of its two women; alike at 20 both rest: as many more
        LoafStreet x = Due.told("baker a cost 19;steps 2 from 40 by 20;women 1 ask a worth 40;women 1 ask a;");
        Due.is("one rest, 40", x.rests(-1) * 10 + x.rests(0), 10);
        Due.is("the first stays, there are two", x.edge(0), 20);
        // 33 (40 - c) is 29 (45 - c) at 3.75: from 3 to 4 another one, never two
        LoafStreet y = Due.told("baker a cost 3;steps 2 from 40 by 5;women 4 ask a worth 40;women 29 ask a;");
        Due.is("one rest, 40", y.rests(-1) * 10 + y.rests(0), 10);
        Due.is("as many, the first is another", y.edge(0), 4);
        y.cost(0, 4);
        Due.is("one rest, 45", y.rests(-1) * 10 + y.rests(0), 11);
        y.law(0, 0);
        y.force(0);
        y.cost(0, 3);
        Due.is("45 is barred: nothing changes", y.edge(0), -1);
        y.law(1, 2);
        y.force(1);
        Due.is("all are barred: nothing changes", y.edge(0), -1);
    }

    private static void edgeArguments() {
        LoafStreet x = Due.told("baker a cost 19;steps 2 from 40 by 20;women 1 ask a worth 40;women 1 ask a;");
        for (int baker : new int[] {-1, 1, 2, 3, 4, BIG, SMALL}) {
            Due.is("edge of " + baker, x.edge(baker), -1);
        }
        Due.is("no bakers", new LoafStreet().edge(0), -1);
        LoafStreet y = Due.told("baker p cost 0;baker q cost 0;baker r cost 0;baker a cost 19;steps 2 from 40 by 20;"
            + "women 1 ask a worth 40;women 1 ask a;");
        Due.is("of the fourth", y.edge(3), 20);
    }

    // ---- promise 31

    private static void runSeeds() {
        LoafStreet x = allAt(RING, 0, 3);
        Due.is("seed 0", x.run(0, 1, 10), 1);
        Due.is("seed 999999999", x.run(999_999_999, 1, 10), 1);
        for (int seed : new int[] {-1, 1_000_000_000, BIG, SMALL}) {
            for (int what : new int[] {10, 20, 30}) {
                Due.is("seed " + seed + " what " + what, x.run(seed, 1, what), -1);
            }
        }
        Due.is("no bakers", new LoafStreet().run(0, 1, 10), -1);
        x.lot(0, 0, 99);
        Due.is("not whole", x.run(0, 1, 10), -1);
        x.answer(0);
        Due.is("an answer is", x.run(0, 1, 20), 6);
    }

    private static void runMornings() {
        LoafStreet x = allAt(RING, 0, 3);
        Due.is("1 morning", x.run(5, 1, 20), 4);
        Due.is("400 mornings", x.run(5, 400, 20), 1600);
        for (int n : new int[] {0, -1, 401, 402, BIG, SMALL}) {
            Due.is("mornings " + n, x.run(5, n, 20), -1);
        }
        long[] before = View.of(x);
        x.run(5, 400, 30);
        View.alike("behind run", before, View.of(x));
    }

    private static void runWhat() {
        LoafStreet x = allAt(RING, 0, 3);
        long[] due = {1, 0, 4, 7, 9 * 48, 9 * 84, 8 * 48};
        int[] what = {10, 11, 20, 21, 30, 31, 32};
        for (int i = 0; i < what.length; i++) {
            Due.is("what " + what[i], x.run(1, 1, what[i]), due[i]);
        }
        for (int w : new int[] {-1, 0, 1, 2, 9, 12, 13, 14, 19, 22, 23, 24, 29, 33, 41, 42, BIG, SMALL, SMALL + 10}) {
            Due.is("what " + w, x.run(1, 1, w), -1);
        }
        LoafStreet y = allAt(FOUR + "steps 1 from 3 by 1;" + "women 1 ask d;".repeat(12), 0, 0, 0, 0);
        Due.is("the fourth is one of the cheapest", y.run(1, 2, 13), 2);
        Due.is("no fifth", y.run(1, 2, 14), -1);
        Due.is("the fourth's prices", y.run(1, 2, 23), 6);
        Due.is("no fifth's prices", y.run(1, 2, 24), -1);
        Due.is("the twelfth sort", y.run(1, 2, 41), 72);
        Due.is("no thirteenth", y.run(1, 2, 42), -1);
    }

    /** Seed 0: the first v is 7, by z = 1442695040888963407. */
    private static void runDraws() {
        LoafStreet x = Due.told("baker a cost 0;steps 8 from 1 by 1;");
        x.lot(0, 0, 7);
        x.lot(0, 7, 93);
        Due.is("7 parts aren't above 7", x.run(0, 1, 20), 8);
        x.lot(0, 0, 8);
        x.lot(0, 7, 92);
        Due.is("8 parts are", x.run(0, 1, 20), 1);
        x.lot(0, 0, 0);
        x.lot(0, 1, 4);
        x.lot(0, 3, 3);
        x.lot(0, 5, 1);
        x.lot(0, 7, 92);
        Due.is("together above 7 with step 5", x.run(0, 1, 20), 6);
        x.lot(0, 1, 100);
        x.lot(0, 3, 0);
        x.lot(0, 5, 0);
        x.lot(0, 7, 0);
        Due.is("all at one step", x.run(0, 400, 20), 800);
    }

    private static void runWraps() {
        LoafStreet x = Due.told("baker a cost 0;baker b cost 0;steps 8 from 0 by 1;");
        for (int b = 0; b < 2; b++) {
            for (int s = 0; s < 8; s++) {
                x.lot(b, s, s == 7 ? 16 : 12);
            }
        }
        for (int seed : new int[] {0, 1, 123456789, 999_999_999}) {
            long z = seed;
            long[] due = new long[4];
            for (int morning = 1; morning <= 20; morning++) {
                int[] price = new int[2];
                for (int b = 0; b < 2; b++) {
                    z = z * 6364136223846793005L + 1442695040888963407L;
                    int v = (int) ((z >>> 33) % 100);
                    price[b] = Math.min(v / 12, 7);
                    due[2 + b] += price[b];
                }
                due[0] += price[0] <= price[1] ? 1 : 0;
                due[1] += price[1] <= price[0] ? 1 : 0;
                Due.is("cheapest a, " + seed + " " + morning, x.run(seed, morning, 10), due[0]);
                Due.is("cheapest b, " + seed + " " + morning, x.run(seed, morning, 11), due[1]);
                Due.is("prices of a, " + seed + " " + morning, x.run(seed, morning, 20), due[2]);
                Due.is("prices of b, " + seed + " " + morning, x.run(seed, morning, 21), due[3]);
            }
        }
    }

    private static void runBuys() {
        LoafStreet x = allAt("baker a cost 0;baker b cost 0;baker c cost 0;steps 3 from 5 by 1;women 2 ask a worth 5;"
            + "women 2 ask b worth 5;each 1 of 2;readers 3;each 1 of 4;readers 3 worth 5;list b;list c;", 0, 1, 2);
        long[] due = {120, 0, (5 + 5 + 6) * 12, 3 * 72, 0, 0};
        for (int sort = 0; sort < due.length; sort++) {
            Due.is("paid by sort " + sort, x.run(1, 1, 30 + sort), due[sort]);
            Due.is("by three mornings of sort " + sort, x.run(1, 3, 30 + sort), 3 * due[sort]);
        }
        x.law(2, 0);
        x.force(0);
        long[] shouted = {120, 120, 180, 180, 0, 180};
        for (int sort = 0; sort < due.length; sort++) {
            Due.is("shouted to sort " + sort, x.run(1, 1, 30 + sort), shouted[sort]);
        }
        Due.is("home", allAt("baker a cost 0;women 1 ask a worth 4;", 0).run(1, 400, 30), 0);
        LoafStreet y = allAt("baker a cost 0;readers 9;women 1 ask a;each 1 of 2;", 0);
        Due.is("readers without any door pay nothing", y.run(1, 400, 30), 0);
        Due.is("nor those without a set", y.run(1, 400, 32), 0);
        Due.is("women do", y.run(1, 400, 31), 400 * 60);
    }

    // ---- promises 32 to 34

    private static void fourImages() {
        LoafStreet none = new LoafStreet();
        Due.is("no bakers", none.image(), -1);
        Due.is("none is there", none.count(4), 0);
        Due.is("none to go back to", none.back(0), false);
        LoafStreet x = Due.told(FOUR);
        for (int i = 0; i < 4; i++) {
            Due.is("back " + i + " before", x.back(i), false);
            Due.is("image " + i, x.image(), i);
            Due.is("images", x.count(4), i + 1);
            Due.is("back " + i, x.back(i), true);
            x.cost(0, i + 1);
        }
        Due.is("a fifth", x.image(), -1);
        Due.is("four", x.count(4), 4);
        for (int image : new int[] {-1, 4, 5, BIG, SMALL}) {
            Due.is("back " + image, x.back(image), false);
            Due.is("cost stays by " + image, x.told(100), 4);
        }
        for (int i = 3; i >= 0; i--) {
            Due.is("back " + i, x.back(i), true);
            Due.is("its cost", x.told(100), i);
            Due.is("four still", x.count(4), 4);
        }
    }

    private static void imagesKeep() {
        LoafStreet x = Due.told(FOUR);
        x.sure(0, 3);
        x.lot(1, 0, 40);
        x.lot(1, 1, 60);
        x.answer(2);
        x.promise(3, true);
        x.cost(3, 99);
        x.law(0, 3);
        x.force(0);
        x.image();
        long[] before = View.of(x);
        x.answer(0);
        x.sure(1, 1);
        x.lot(2, 2, 5);
        x.sure(3, 0);
        x.promise(3, false);
        x.promise(0, true);
        x.cost(3, 0);
        x.cost(0, 1);
        x.force(-1);
        Due.is("back", x.back(0), true);
        View.alike("by the image", before, View.of(x));
        Due.is("ask none again", x.ask(3), 0);
    }

    private static void backs() {
        LoafStreet x = allAt("baker a cost 0;women 1 ask a;", 3);
        x.image();
        x.law(0, 2);
        x.force(0);
        x.feed(0, 0, 0, 0, 0);
        Due.is("rests by the law", x.rests(0), 2);
        Due.is("back", x.back(0), true);
        Due.is("rests without it", x.rests(0), 3);
        Due.is("the law is told still", x.count(2), 1);
        Due.is("the tape stays", x.count(1), 20);
        Due.is("streets stay", x.count(0), 1);
        x.force(0);
        x.image();
        x.force(-1);
        x.law(1, 3);
        x.back(1);
        Due.is("its law is in force", x.count(3), 0);
        Due.is("both are told", x.count(2), 2);
    }

    private static void counts() {
        LoafStreet x = new LoafStreet();
        int[] due = {0, 0, 0, -1, 0, 0, 0, 0, 0};
        for (int what = 0; what < 9; what++) {
            Due.is("at first count " + what, x.count(what), due[what]);
        }
        for (int what : new int[] {-1, 9, 10, 100, BIG, SMALL}) {
            Due.is("count " + what, x.count(what), -1);
        }
        for (int i = 1; i <= 5; i++) {
            Due.tell(x, "baker a cost 1;");
            Due.is("streets", x.count(0), i);
            Due.tell(x, "baker a cost 1");
            Due.is("not one with a fault", x.count(0), i);
            x.street(1);
            Due.is("nor a refused one", x.count(0), i);
        }
    }

    private static void countRows() {
        LoafStreet x = Due.told("baker a cost 0;baker b cost 0;steps 8 from 1 by 1;");
        x.sure(0, 0);
        Due.is("not whole: 0", x.count(7), 0);
        x.sure(1, 0);
        Due.is("all sure: 1", x.count(7), 1);
        for (int b = 0; b < 2; b++) {
            x.lot(b, 0, 93);
            for (int s = 1; s < 8; s++) {
                x.lot(b, s, 1);
            }
            Due.is("eight each", x.count(7), b == 0 ? 8 : 64);
        }
        x.lot(1, 7, 0);
        Due.is("99: 0", x.count(7), 0);
        x.lot(1, 0, 94);
        Due.is("seven of one", x.count(7), 56);
        x.answer(1);
        Due.is("an answer is one", x.count(7), 8);
    }

    private static void countWomen() {
        Due.is("no sorts", Due.told(FOUR).count(8), 0);
        Due.is("1", Due.told(FOUR + "women 1 ask a and b and c and d;").count(8), 1);
        Due.is("99 readers", Due.told(FOUR + "readers 99;").count(8), 99);
        Due.is("each of 2", Due.told(FOUR + "each 99 of 2;").count(8), 594);
        Due.is("each of 4 of 3", Due.told("baker a cost 0;baker b cost 0;baker c cost 0;each 99 of 4;").count(8), 0);
        LoafStreet x = Due.told(FOUR + "each 2 of 3;women 3 ask a;");
        x.law(2, 0);
        x.force(0);
        Due.is("shouted: as many", x.count(8), 11);
    }
}
