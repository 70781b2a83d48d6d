/** Promises 19 to 25: what SORTS pay, doors, LOOK, LOTS of two; the last value that is taken and the first that isn't. */
public final class BoundsOfBuyersTest {
    private static final int BIG = Integer.MAX_VALUE;
    private static final int SMALL = Integer.MIN_VALUE;
    private static final String THREE = "baker a cost 0;baker b cost 0;baker c cost 0;";

    private BoundsOfBuyersTest() {
    }

    public static void main(String[] args) {
        paysWhat();
        paysOfSorts();
        meanIsCut();
        meanOfNothing();
        gaps();
        valueAboveNothing();
        savesOfDoors();
        savesOfSorts();
        wouldAboveDoor();
        wouldTheLeast();
        wouldOfNone();
        lookRounds();
        lookWhat();
        lookEnds();
        lookEachWithAllBefore();
        lookLeavesAll();
        lookAsksAnew();
        shouted();
        lotsArguments();
        lotsBarred();
        lotsAndWhole();
        lotsWithoutRest();
        lotsWithRest();
        lotsWithOneRest();
        lotsWithOthers();
        Due.end("BoundsOfBuyersTest");
    }

    private static LoafStreet allAt(String text, int... steps) {
        LoafStreet x = Due.told(text);
        for (int baker = 0; baker < steps.length; baker++) {
            Due.is("sure of " + baker, x.sure(baker, steps[baker]), true);
        }
        return x;
    }

    // ---- promises 19 to 21

    private static void paysWhat() {
        LoafStreet x = allAt("baker a cost 0;steps 2 from 3 by 1;women 2 ask a;women 5 ask a worth 2;", 0);
        Due.is("paid", x.pays(0, 0), 2 * 12 * 3 * 100);
        Due.is("bought", x.pays(0, 1), 2 * 12 * 100);
        Due.is("home", x.pays(0, 2), 0);
        Due.is("paid nothing", x.pays(1, 0), 0);
        Due.is("bought nothing", x.pays(1, 1), 0);
        Due.is("all home", x.pays(1, 2), 5 * 12 * 100);
        for (int what : new int[] {-1, 3, 4, -2, BIG, SMALL}) {
            Due.is("what " + what, x.pays(0, what), -1);
        }
        LoafStreet none = new LoafStreet();
        Due.is("no bakers: pays", none.pays(0, 0), -1);
        Due.is("no bakers: mean", none.mean(0), -1);
        Due.is("no bakers: gap", none.gap(), -1);
    }

    private static void paysOfSorts() {
        StringBuilder text = new StringBuilder("baker a cost 0;");
        for (int s = 1; s <= 12; s++) {
            LoafStreet x = allAt(text.toString(), 0);
            Due.is("pays of " + (s - 1) + " of " + (s - 1), x.pays(s - 1, 0), -1);
            Due.is("mean of " + (s - 1) + " of " + (s - 1), x.mean(s - 1), -1);
            text.append("women ").append(s).append(" ask a;");
        }
        LoafStreet x = allAt(text.toString(), 0);
        for (int s = 0; s < 12; s++) {
            Due.is("pays of " + s, x.pays(s, 0), (s + 1) * 6000);
            Due.is("mean of " + s, x.mean(s), 5000);
        }
        for (int s : new int[] {-1, 12, 13, BIG, SMALL}) {
            Due.is("pays of " + s, x.pays(s, 0), -1);
            Due.is("mean of " + s, x.mean(s), -1);
        }
    }

    private static void meanIsCut() {
        LoafStreet x = Due.told("baker a cost 0;steps 3 from 0 by 1;women 7 ask a worth 1;");
        x.lot(0, 0, 2);
        x.lot(0, 1, 1);
        x.lot(0, 2, 97);
        Due.is("a third of one, cut", x.mean(0), 333);
        x.lot(0, 0, 1);
        x.lot(0, 1, 2);
        Due.is("two thirds, cut too", x.mean(0), 666);
        x.lot(0, 0, 3);
        x.lot(0, 1, 0);
        Due.is("nothing is paid, but bought", x.mean(0), 0);
        x.lot(0, 0, 0);
        x.lot(0, 1, 1);
        x.lot(0, 2, 99);
        Due.is("bought by one part of a hundred", x.mean(0), 1000);
    }

    private static void meanOfNothing() {
        LoafStreet x = allAt("baker a cost 0;women 7 ask a worth 5;readers 1;each 1 of 2;", 0);
        Due.is("5 of 5", x.mean(0), 5000);
        x.sure(0, 1);
        Due.is("nothing is bought", x.mean(0), -1);
        Due.is("readers without list", x.mean(1), -1);
        Due.is("no sets", x.mean(2), -1);
    }

    private static void gaps() {
        LoafStreet one = allAt("baker a cost 0;steps 8 from 99 by 20;", 7);
        Due.is("one baker", one.gap(), 0);
        LoafStreet x = allAt(THREE + "baker d cost 0;steps 8 from 99 by 20;", 7, 3, 5, 0);
        Due.is("the widest", x.gap(), 140 * 100000000L);
        x.sure(3, 3);
        Due.is("from 3 to 7", x.gap(), 80 * 100000000L);
        x.sure(0, 5);
        x.sure(1, 5);
        x.sure(3, 5);
        Due.is("all alike", x.gap(), 0);
        x.lot(3, 4, 1);
        x.lot(3, 5, 99);
        Due.is("one part of a hundred", x.gap(), 20 * 1000000L);
        x.lot(3, 6, 1);
        x.lot(3, 5, 98);
        Due.is("on both sides", x.gap(), 2 * 20 * 1000000L);
        x.lot(3, 5, 97);
        Due.is("99 aren't whole", x.gap(), -1);
    }

    // ---- promises 22, 23

    private static void valueAboveNothing() {
        // prices 5, 6, 7 of a, b, c
        for (int worth = 4; worth <= 9; worth++) {
            LoafStreet x = allAt(THREE + "steps 3 from 5 by 1;women 9 ask c worth " + worth + ";", 0, 1, 2);
            int own = Math.max(0, worth - 7);
            Due.is("a by worth " + worth, x.saves(0, 0), (Math.max(0, worth - 5) - own) * 1000000L);
            Due.is("b by worth " + worth, x.saves(0, 1), (Math.max(0, worth - 6) - own) * 1000000L);
        }
    }

    private static void savesOfDoors() {
        LoafStreet x = allAt(THREE + "steps 3 from 5 by 1;women 9 ask b;women 1 ask a and b and c;", 0, 1, 2);
        Due.is("a cheaper door", x.saves(0, 0), 1000000);
        Due.is("a dearer door", x.saves(0, 2), 0);
        Due.is("a door in its set", x.saves(0, 1), -1);
        for (int door : new int[] {-1, 3, 4, 31, 32, 33, BIG, SMALL}) {
            Due.is("door " + door, x.saves(0, door), -1);
        }
        for (int door = 0; door < 3; door++) {
            Due.is("all are in its set: " + door, x.saves(1, door), -1);
        }
        x.lot(2, 0, 99);
        Due.is("not whole", x.saves(0, 0), -1);
        Due.is("nor would she", x.would(0), -1);
        LoafStreet none = new LoafStreet();
        Due.is("no bakers: saves", none.saves(0, 0), -1);
        Due.is("no bakers: would", none.would(0), -1);
    }

    private static void savesOfSorts() {
        LoafStreet x = allAt(THREE + "steps 3 from 5 by 1;each 1 of 1;women 9 ask b;readers 1;", 0, 1, 2);
        Due.is("of women", x.saves(1, 0), 1000000);
        Due.is("they would", x.would(1), 0);
        for (int sort : new int[] {-1, 0, 2, 3, 11, 12, BIG, SMALL}) {
            Due.is("saves of " + sort, x.saves(sort, 0), -1);
            Due.is("would of " + sort, x.would(sort), -1);
        }
    }

    private static void wouldAboveDoor() {
        for (int door = 0; door <= 4; door++) {
            LoafStreet x = allAt("baker a cost 0;baker b cost 0;steps 3 from 5 by 1;door " + door + ";women 9 ask a;", 2, 0);
            Due.is("saves", x.saves(0, 1), 20000);
            Due.is("2 above door " + door, x.would(0), door < 2 ? 1 : -1);
            x.lot(1, 0, 99);
            x.lot(1, 1, 1);
            Due.is("saves a little less", x.saves(0, 1), 19900);
            Due.is("1.99 above door " + door, x.would(0), door < 2 ? 1 : -1);
            x.sure(1, 1);
            x.lot(0, 2, 99);
            x.lot(0, 1, 1);
            Due.is("0.99 above door " + door, x.would(0), door < 1 ? 1 : -1);
        }
        LoafStreet x = allAt("baker a cost 0;baker b cost 0;steps 2 from 0 by 20;door 19;women 9 ask a;", 1, 0);
        Due.is("20 above 19", x.would(0), 1);
        x = allAt("baker a cost 0;baker b cost 0;steps 2 from 0 by 20;door 20;women 9 ask a;", 1, 0);
        Due.is("20 isn't above 20", x.would(0), -1);
        // 100 to as many as there are BAKERS: with three a million
        x = allAt(THREE + "steps 2 from 0 by 20;door 20;women 9 ask a;", 1, 0, 0);
        Due.is("saves", x.saves(0, 1), 20000000);
        Due.is("nor with three", x.would(0), -1);
        x = allAt(THREE + "steps 2 from 0 by 20;door 19;women 9 ask a;", 1, 0, 0);
        Due.is("but above 19", x.would(0), 1);
        x = allAt(THREE + "baker d cost 0;steps 8 from 99 by 20;door 99;women 9 ask a;", 7, 0, 0, 0);
        Due.is("the widest is above the dearest door", x.would(0), 1);
        Due.is("by 140", x.saves(0, 3), 14000000000L);
    }

    private static void wouldTheLeast() {
        LoafStreet x = allAt(THREE + "baker d cost 0;women 9 ask c;", 0, 0, 3, 0);
        Due.is("of three the least", x.would(0), 0);
        x.sure(0, 1);
        Due.is("of two the least", x.would(0), 1);
        x.sure(1, 1);
        Due.is("the one that saves most", x.would(0), 3);
        x.sure(3, 2);
        Due.is("the least of a and b", x.would(0), 0);
        x = allAt(THREE + "baker d cost 0;women 9 ask a;", 3, 1, 1, 0);
        Due.is("the last", x.would(0), 3);
    }

    private static void wouldOfNone() {
        LoafStreet x = allAt("baker a cost 0;baker b cost 0;women 9 ask a and b;women 1 ask a;", 3, 0);
        Due.is("no door more", x.would(0), -1);
        Due.is("one door more", x.would(1), 1);
        x.sure(1, 3);
        Due.is("nothing isn't above nothing", x.would(1), -1);
        LoafStreet y = allAt("baker a cost 0;women 1 ask a;", 3);
        Due.is("the only baker", y.would(0), -1);
        Due.is("whose door is in the set", y.saves(0, 0), -1);
    }

    // ---- promise 24

    private static void lookRounds() {
        LoafStreet x = allAt(THREE + "women 1 ask a;", 3, 1, 0);
        Due.is("a round", x.look(1, 0), 1);
        Due.is("nine rounds", x.look(9, 0), 2);
        for (int n : new int[] {0, -1, 10, 11, BIG, SMALL}) {
            Due.is("rounds " + n, x.look(n, 0), -1);
            Due.is("its set by rounds " + n, x.look(n, 10), -1);
        }
        x.lot(0, 3, 99);
        Due.is("not whole", x.look(1, 0), -1);
        Due.is("not whole: no set", x.look(1, 10), -1);
        LoafStreet none = new LoafStreet();
        Due.is("no bakers", none.look(1, 0), -1);
        Due.is("no sort", none.look(1, 10), -1);
    }

    private static void lookWhat() {
        LoafStreet x = allAt(THREE + "each 1 of 1;women 1 ask a;readers 1;women 2 ask b;", 3, 1, 0);
        Due.is("first women", x.look(9, 11), 5);
        Due.is("other women", x.look(9, 13), 6);
        for (int what : new int[] {-1, 1, 2, 8, 9, 10, 12, 14, 21, 22, BIG, SMALL, SMALL + 10}) {
            Due.is("what " + what, x.look(9, what), -1);
        }
        StringBuilder text = new StringBuilder(THREE);
        for (int s = 0; s < 12; s++) {
            text.append("women 1 ask ").append(s == 11 ? "c" : "a").append(';');
        }
        LoafStreet y = allAt(text.toString(), 3, 1, 0);
        Due.is("of 12 sorts the last", y.look(9, 21), 4);
        Due.is("the one ahead", y.look(9, 20), 5);
        Due.is("none behind", y.look(9, 22), -1);
    }

    private static void lookEnds() {
        // each of four asks 1 or 10, by lot: every door saves something
        LoafStreet x = Due.told(THREE + "baker d cost 0;steps 2 from 1 by 9;women 1 ask a;");
        for (int b = 0; b < 4; b++) {
            x.lot(b, 0, 50);
            x.lot(b, 1, 50);
        }
        int[] rounds = {1, 2, 3, 4, 4, 4, 4, 4, 4};
        int[] sets = {3, 7, 15, 15, 15, 15, 15, 15, 15};
        for (int n = 1; n <= 9; n++) {
            Due.is("rounds of " + n, x.look(n, 0), rounds[n - 1]);
            Due.is("set by " + n, x.look(n, 10), sets[n - 1]);
        }
        LoafStreet y = allAt(THREE + "women 1 ask a;", 0, 0, 0);
        Due.is("nobody at once", y.look(9, 0), 1);
        Due.is("the set as told", y.look(9, 10), 1);
        LoafStreet z = allAt(THREE, 0, 0, 0);
        Due.is("no sorts: nobody", z.look(9, 0), 1);
        Due.is("of one round", z.look(1, 0), 1);
    }

    private static void lookEachWithAllBefore() {
        // b answers: alone with its woman 10; once a's two come too, 1
        LoafStreet x = Due.told("baker a cost 0;baker b cost 0;steps 2 from 1 by 1;women 9 ask a;women 1 ask b;");
        x.lot(0, 0, 50);
        x.lot(0, 1, 50);
        x.answer(1);
        Due.is("b answers 2 to its own", x.part(1, 1), 100);
        Due.is("2 saves a's women nothing", x.would(0), -1);
        Due.is("b's woman takes a's door", x.look(1, 11), 3);
        Due.is("a's women came before her", x.look(1, 10), 1);
        // then b, who shares at 1, undercuts at 1: half of one at 1 and all against 2
        Due.is("and go in the next round", x.look(2, 10), 3);
        Due.is("then nobody", x.look(9, 0), 3);
    }

    private static void lookLeavesAll() {
        LoafStreet x = allAt(THREE + "women 1 ask a;women 5 ask a and b;", 3, 1, 0);
        long[] before = View.of(x);
        Due.is("a set then", x.look(9, 10), 5);
        Due.is("another", x.look(9, 11), 7);
        Due.is("rounds", x.look(9, 0), 2);
        View.alike("behind look", before, View.of(x));
        Due.is("saves as before", x.saves(0, 2), 15000000);
    }

    private static void lookAsksAnew() {
        LoafStreet x = Due.told("baker a cost 0;baker b cost 0;steps 3 from 4 by 4;door 2;women 9 ask a;women 10 ask b;"
            + "women 3 ask b;");
        x.sure(0, 1);
        x.answer(1);
        Due.is("b answers 12", x.part(1, 2), 100);
        Due.is("the third has it anew", x.look(1, 12), 2);
        Due.is("behind it the answer is as before", x.part(1, 2), 100);
        Due.is("and what it earns", x.earns(1), 13 * 12 * 12 * 10000);
    }

    private static void shouted() {
        LoafStreet x = allAt(THREE + "women 1 ask a;", 3, 1, 0);
        x.law(2, 0);
        x.law(0, 7);
        x.law(1, 0);
        Due.is("told, not in force", x.saves(0, 1), 10000000);
        for (int law = 1; law <= 2; law++) {
            x.force(law);
            Due.is("saves by law " + law, x.saves(0, 1), 10000000);
            Due.is("would by law " + law, x.would(0), 2);
            Due.is("look by law " + law, x.look(9, 10), 5);
        }
        x.force(0);
        Due.is("shouted: saves", x.saves(0, 1), -1);
        Due.is("shouted: would", x.would(0), -1);
        Due.is("shouted: look", x.look(9, 0), -1);
        Due.is("shouted: its set", x.look(9, 10), -1);
        x.force(-1);
        Due.is("no longer", x.look(9, 0), 2);
    }

    // ---- promise 25

    private static final String DUEL = "baker a cost 0;baker b cost 2;baker c cost 0;steps 4 from 4 by 4;women 18 ask a;"
        + "women 11 ask b worth 18;women 9 ask c worth 11;women 30 ask a and b;";

    /** At 12 and 16: a low in 52 of 105, b low in 2 of 5. */
    private static LoafStreet duel() {
        LoafStreet x = allAt(DUEL, 0, 0, 0);
        x.promise(0, true);
        return x;
    }

    private static void lotsArguments() {
        LoafStreet x = duel();
        long[] due = {52, 105, 2, 5};
        for (int what = 0; what < 4; what++) {
            Due.is("what " + what, x.lots(0, 1, 2, 3, what), due[what]);
            Due.is("turned, what " + what, x.lots(1, 0, 2, 3, what), due[(what + 2) % 4]);
        }
        for (int what : new int[] {-1, 4, 5, BIG, SMALL}) {
            Due.is("what " + what, x.lots(0, 1, 2, 3, what), -1);
        }
        for (int baker : new int[] {-1, 3, 4, BIG, SMALL}) {
            Due.is("a " + baker, x.lots(baker, 1, 2, 3, 0), -1);
            Due.is("b " + baker, x.lots(0, baker, 2, 3, 0), -1);
        }
        for (int baker = 0; baker < 3; baker++) {
            Due.is("alike " + baker, x.lots(baker, baker, 2, 3, 0), -1);
        }
        for (int low : new int[] {-1, 3, 4, 7, BIG, SMALL}) {
            Due.is("low " + low, x.lots(0, 1, low, 3, 0), -1);
        }
        for (int high : new int[] {-1, 0, 1, 2, 4, 5, 7, 8, BIG, SMALL}) {
            Due.is("high " + high, x.lots(0, 1, 2, high, 0), -1);
        }
        Due.is("no bakers", new LoafStreet().lots(0, 1, 0, 1, 0), -1);
    }

    private static void lotsBarred() {
        for (int told = 0; told < 8; told++) {
            LoafStreet x = duel();
            x.law(0, told);
            x.force(0);
            Due.is("above " + told, x.lots(0, 1, 2, 3, 0), told >= 3 ? 52 : -1);
            x = duel();
            for (int b = 0; b < 3; b++) {
                x.sure(b, 3);
            }
            x.law(1, told);
            x.force(0);
            Due.is("below " + told, x.lots(0, 1, 2, 3, 0), told <= 2 ? 52 : -1);
        }
    }

    private static void lotsAndWhole() {
        for (int baker = 0; baker < 3; baker++) {
            LoafStreet x = duel();
            x.lot(baker, 0, 99);
            Due.is("99 parts of " + baker, x.lots(0, 1, 2, 3, 0), -1);
            x.lot(baker, 3, 1);
            Due.is("100 parts of " + baker, x.lots(0, 1, 2, 3, 0), 52);
            x.answer(baker);
            Due.is("an answer of " + baker, x.lots(0, 1, 2, 3, 1), 105);
        }
    }

    private static void lotsWithoutRest() {
        // lowest terms, Q above 0, P below Q
        LoafStreet x = Due.told("baker a cost 0;baker b cost 0;steps 2 from 1 by 1;women 2 ask b;women 2 ask a worth 1;"
            + "women 8 ask a and b;");
        x.sure(0, 0);
        x.sure(1, 0);
        for (int pair = 0; pair < 2; pair++) {
            for (int match = 0; match < 4; match++) {
                x.promise(0, (match & 1) != 0);
                x.promise(1, (match & 2) != 0);
                long p = x.lots(pair, 1 - pair, 0, 1, 0);
                long q = x.lots(pair, 1 - pair, 0, 1, 1);
                Due.is("both or none " + match, p == -1, q == -1);
                Due.is("lowest terms " + match, p == -1 || p > 0 && p < q && divisor(p, q) == 1, true);
            }
        }
        LoafStreet y = duel();
        long[] before = View.of(y);
        y.lots(0, 1, 2, 3, 0);
        View.alike("behind lots", before, View.of(y));
    }

    private static long divisor(long a, long b) {
        return b == 0 ? a : divisor(b, a % b);
    }

    private static void lotsWithRest() {
        // nobody buys: all four couples are rests
        LoafStreet x = allAt("baker a cost 0;baker b cost 0;readers 1;", 0, 0);
        for (int what = 0; what < 4; what++) {
            Due.is("all alike, what " + what, x.lots(0, 1, 0, 1, what), -1);
        }
        // each has women of its own: low low, high high
        x = allAt("baker a cost 0;baker b cost 0;women 1 ask a worth 5;women 1 ask b worth 5;", 0, 0);
        Due.is("low low", x.lots(0, 1, 0, 1, 0), -1);
        x = allAt("baker a cost 0;baker b cost 0;women 1 ask a;women 1 ask b;", 0, 0);
        Due.is("high high", x.lots(0, 1, 0, 1, 0), -1);
        x = allAt("baker a cost 0;baker b cost 0;women 1 ask a;women 1 ask b worth 5;", 0, 0);
        Due.is("high low", x.lots(0, 1, 0, 1, 0), -1);
        Due.is("low high", x.lots(1, 0, 0, 1, 0), -1);
        // rests of these four need not be rests of all
        x = allAt("baker a cost 0;baker b cost 0;women 1 ask a;women 1 ask b;", 0, 0);
        Due.is("a rest of the four lower ones", x.lots(0, 1, 0, 2, 1), -1);
    }

    /** Just one of the four couples is a rest, and one of the two is as well off by its other STEP. */
    private static void lotsWithOneRest() {
        oneRest(0, true, 1, "baker a cost 2;baker b cost 2;steps 2 from 13 by 8;women 15 ask a and b;");
        oneRest(0, false, 2, "baker a cost 2;baker b cost 1;steps 2 from 18 by 1;women 1 ask a;women 5 ask a and b worth 36;");
        oneRest(1, true, 2, "baker a cost 2;baker b cost 1;steps 2 from 4 by 2;women 3 ask a and b worth 5;"
            + "women 3 ask a and b;women 2 ask b;");
        oneRest(1, false, 1, "baker a cost 0;baker b cost 1;steps 2 from 15 by 7;women 6 ask b;women 3 ask a;"
            + "women 6 ask a and b;women 1 ask b worth 12;");
        oneRest(2, true, 2, "baker a cost 2;baker b cost 0;steps 2 from 10 by 2;women 2 ask a and b worth 12;"
            + "women 4 ask a worth 17;women 1 ask b worth 28;");
        oneRest(2, false, 1, "baker a cost 1;baker b cost 2;steps 2 from 14 by 8;women 2 ask a and b worth 18;women 2 ask a;"
            + "women 3 ask a and b;");
        oneRest(3, true, 1, "baker a cost 1;baker b cost 2;steps 2 from 4 by 2;women 12 ask a and b;women 3 ask a;");
        oneRest(3, false, 2, "baker a cost 0;baker b cost 0;steps 2 from 9 by 5;women 3 ask a worth 25;"
            + "women 2 ask a and b worth 10;women 6 ask a and b;women 6 ask b;");
    }

    /** A couple: 2 for a's high STEP, and 1 for b's. */
    private static void oneRest(int couple, boolean alikeToA, int promises, String text) {
        LoafStreet x = Due.told(text);
        x.promise(0, (promises & 1) != 0);
        x.promise(1, (promises & 2) != 0);
        long[] a = new long[4];
        long[] b = new long[4];
        for (int i = 0; i < 4; i++) {
            x.sure(0, i >> 1);
            x.sure(1, i & 1);
            a[i] = x.earns(0);
            b[i] = x.earns(1);
        }
        for (int i = 0; i < 4; i++) {
            Due.is(text + " rests at " + i, a[i] >= a[i ^ 2] && b[i] >= b[i ^ 1], i == couple);
        }
        Due.is(text + " a alike", a[couple] == a[couple ^ 2], alikeToA);
        Due.is(text + " b alike", b[couple] == b[couple ^ 1], !alikeToA);
        for (int what = 0; what < 4; what++) {
            Due.is(text + " has a rest, what " + what, x.lots(0, 1, 0, 1, what), -1);
            Due.is(text + " has a rest, turned, what " + what, x.lots(1, 0, 0, 1, what), -1);
        }
    }

    private static void lotsWithOthers() {
        LoafStreet x = allAt(DUEL + "women 40 ask a and b and c;", 0, 0, 0);
        x.promise(0, true);
        Due.is("c at 4: a matches it, whatever it asks", x.lots(0, 1, 2, 3, 0) * 1000 + x.lots(0, 1, 2, 3, 1), 52105);
        x.sure(2, 3);
        // c at 16, three times: b earns ll 1380, lh 462, hl 1380, hh 1652; a earns ll 1908, lh 3168, hl 2124, hh 2224
        Due.is("c at 16: a's", x.lots(0, 1, 2, 3, 0) * 1000 + x.lots(0, 1, 2, 3, 1), 8035);
        Due.is("c at 16: b's", x.lots(0, 1, 2, 3, 2) * 1000 + x.lots(0, 1, 2, 3, 3), 118145);
        LoafStreet y = allAt(DUEL, 0, 0, 3);
        y.promise(0, true);
        Due.is("c's women are its own", y.lots(0, 1, 2, 3, 0), 52);
        y.lot(2, 0, 33);
        y.lot(2, 1, 67);
        Due.is("by lots too", y.lots(0, 1, 2, 3, 0) * 1000 + y.lots(0, 1, 2, 3, 1), 52105);
        Due.is("b's", y.lots(0, 1, 2, 3, 2) * 1000 + y.lots(0, 1, 2, 3, 3), 2005);
    }
}
