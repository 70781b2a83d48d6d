/** Promises 1 to 5 and the terms of a STREET: the last value that is taken and the first that isn't. */
public final class BoundsOfTextTest {
    private static final String ONE = "baker a cost 1;";
    private static final int BIG = Integer.MAX_VALUE;
    private static final int SMALL = Integer.MIN_VALUE;

    private BoundsOfTextTest() {
    }

    public static void main(String[] args) {
        noStreetAtFirst();
        tapeOf800();
        highestByteFirst();
        bytesBehindThose();
        firstBytesOfTheTape();
        emptyText();
        moreThanThereAre();
        tapeIsEmptyThen();
        faultLeavesTheStreet();
        takenAllIsGone();
        fewerStepsThen();
        latestFault();
        toldAtFirst();
        toldOfBakers();
        toldOfSorts();
        toldOfOthers();
        numbers();
        digits();
        names();
        words();
        namesToldOrNot();
        namesBehindAnd();
        fourBakers();
        twelveSorts();
        statements();
        atLeastOneBaker();
        blanks();
        bytesThatBeginNone();
        tokensAsLongAsTheyGo();
        moreMustCome();
        lastHolds();
        prices();
        listed();
        worthUntold();
        Due.end("BoundsOfTextTest");
    }

    private static void taken(String text, int bakers) {
        LoafStreet x = new LoafStreet();
        Due.is("street of '" + text + "'", Due.tell(x, text), bakers);
        Due.is("fault of '" + text + "'", x.fault(), -1);
    }

    private static void fault(String text, int place) {
        LoafStreet x = new LoafStreet();
        Due.is("street of '" + text + "'", Due.tell(x, text), -1);
        Due.is("fault of '" + text + "'", x.fault(), place);
        Due.is("bakers by '" + text + "'", x.told(0), 0);
    }

    // ---- promises 1 to 4

    private static void noStreetAtFirst() {
        LoafStreet x = new LoafStreet();
        Due.is("no bakers", x.told(0), 0);
        Due.is("no sorts", x.told(1), 0);
        Due.is("no baker 0", x.told(100), -1);
        Due.is("no sort 0", x.told(200), -1);
        Due.is("nobody asks", x.ask(0), -1);
        Due.is("no bakers: no rests", x.rests(-1), -1);
        Due.is("no bakers: not whole", x.count(6), 0);
        Due.is("no bakers: no rows", x.count(7), 0);
        Due.is("no women", x.count(8), 0);
        Due.is("none taken", x.count(0), 0);
    }

    private static LoafStreet full() {
        LoafStreet x = new LoafStreet();
        Due.feed(x, ONE);
        for (int i = 2; i <= 39; i++) {
            x.feed(0x20202020, 0x0A0A0A0A, 0x20202020, 0x20202020, 0x20202020);
        }
        Due.is("780 bytes", x.count(1), 780);
        Due.is("the last twenty of 800", x.feed(0x20202020, 0x20202020, 0x20202020, 0x20202020, 0x20202020), 800);
        return x;
    }

    private static void tapeOf800() {
        LoafStreet x = full();
        Due.is("more than 800", x.feed(0x3F3F3F3F, 0x3F3F3F3F, 0x3F3F3F3F, 0x3F3F3F3F, 0x3F3F3F3F), -1);
        Due.is("800 as before", x.count(1), 800);
        Due.is("and once more", x.feed(0, 0, 0, 0, 0), -1);
        Due.is("800 still", x.count(1), 800);
        Due.is("801 aren't there", x.street(801), -2);
        Due.is("all 800 are a street: the refused bytes aren't there", x.street(800), 1);
        Due.is("empty then: twenty again", x.feed(0, 0, 0, 0, 0), 20);
        String long800 = ONE + " ".repeat(800 - 2 * ONE.length()) + "baker b cost 1;";
        taken(long800, 2);
        fault(ONE + " ".repeat(799 - ONE.length()) + "?", 799);
        fault(ONE + " ".repeat(800 - ONE.length() - 5) + "women", 800);
    }

    private static void highestByteFirst() {
        LoafStreet x = new LoafStreet();
        // b a k e | r . a . | c o s t | . 0 ; . | . . . .
        Due.is("twenty bytes", x.feed(0x62616B65, 0x72206120, 0x636F7374, 0x20303B20, 0x20202020), 20);
        Due.is("highest byte first", x.street(15), 1);
        x.feed(0x656B6162, 0x20612072, 0x74736F63, 0x203B3020, 0x20202020);
        Due.is("not the lowest", x.street(15), -1);
        x.feed(0x72206120, 0x62616B65, 0x636F7374, 0x20303B20, 0x20202020);
        Due.is("nor another number ahead", x.street(15), -1);
        x.feed(0x62616B65, 0x72206120, 0x636F7374, 0x20303B20, 0xE1202020);
        Due.is("a byte above 127 isn't a letter", x.street(17), -1);
        Due.is("its place", x.fault(), 16);
    }

    private static void bytesBehindThose() {
        LoafStreet x = new LoafStreet();
        Due.is("a first half", x.feed(0x20202020, 0x20202020, 0x20202020, 0x20202020, 0x20206261), 20);
        Due.is("a second half", x.feed(0x6B657220, 0x6120636F, 0x73742039, 0x393B2020, 0x20202020), 40);
        Due.is("together one text", x.street(40), 1);
        Due.is("its cost", x.told(100), 99);
    }

    private static void firstBytesOfTheTape() {
        String text = ONE + "? ";
        for (int n = 0; n <= 20; n++) {
            LoafStreet x = new LoafStreet();
            Due.feed(x, text);
            Due.is("first " + n + " bytes", x.street(n), n == 15 ? 1 : -1);
            if (n < 15) {
                int[] places = {0, 0, 0, 0, 0, 5, 6, 7, 8, 8, 8, 8, 12, 13, 14};
                Due.is("fault by " + n, x.fault(), places[n]);
            } else {
                Due.is("fault by " + n, x.fault(), n == 15 ? -1 : 15);
            }
        }
    }

    private static void emptyText() {
        LoafStreet x = new LoafStreet();
        Due.is("no bytes of none", x.street(0), -1);
        Due.is("more must come at 0", x.fault(), 0);
        x.feed(0, 0, 0, 0, 0);
        Due.is("no bytes of twenty", x.street(0), -1);
        Due.is("its fault", x.fault(), 0);
        Due.is("the tape is empty", x.count(1), 0);
        Due.is("nothing is taken", x.count(0), 0);
    }

    private static void moreThanThereAre() {
        LoafStreet x = new LoafStreet();
        Due.is("1 of none", x.street(1), -2);
        Due.is("-1 of none", x.street(-1), -2);
        Due.feed(x, ONE);
        for (int n : new int[] {-1, 21, 800, SMALL, BIG}) {
            Due.is("street " + n + " of 20", x.street(n), -2);
            Due.is("the tape stays by " + n, x.count(1), 20);
            Due.is("no fault by " + n, x.fault(), -1);
            Due.is("no street by " + n, x.count(0), 0);
        }
        Due.is("20 of 20", x.street(20), 1);
    }

    private static void tapeIsEmptyThen() {
        LoafStreet x = new LoafStreet();
        Due.feed(x, ONE + ONE);
        Due.is("40 bytes", x.count(1), 40);
        Due.is("the first 15", x.street(15), 1);
        Due.is("empty, the others too", x.count(1), 0);
        Due.is("nothing more to take", x.street(1), -2);
        Due.feed(x, ONE + ONE);
        Due.is("the second a is a fault", x.street(30), -1);
        Due.is("empty behind a fault", x.count(1), 0);
        Due.is("the next feed is the first", x.feed(0, 0, 0, 0, 0), 20);
    }

    private static LoafStreet rich() {
        LoafStreet x = Due.told("baker a cost 2;baker b cost 3;list b;door 4;steps 3 from 4 by 3;women 9 ask a;"
            + "each 4 of 2 worth 7;readers 8;");
        x.sure(0, 1);
        x.lot(1, 0, 30);
        x.lot(1, 2, 70);
        x.promise(1, true);
        x.cost(0, 1);
        x.law(0, 2);
        x.law(1, 0);
        x.image();
        x.force(1);
        return x;
    }

    private static void faultLeavesTheStreet() {
        String[] texts = {"", "baker", "baker z cost 1;list y;", "steps 5 from 1 by 1;door 9;baker z cost 9;readers 1;?"};
        int[] places = {0, 5, 20, 52};
        for (int i = 0; i < texts.length; i++) {
            LoafStreet x = rich();
            Due.is("a first fault", Due.tell(x, "??") * 10 + x.fault(), -10);
            long[] before = View.of(x);
            Due.is("a fault", Due.tell(x, texts[i]), -1);
            Due.is("its place", x.fault(), places[i]);
            Due.is("zero again", Due.tell(x, "!") * 10 + x.fault(), -10);
            View.alike("behind '" + texts[i] + "'", before, View.of(x));
            Due.is("its image", x.back(0), true);
            Due.is("by it no law is in force", x.count(3), -1);
        }
    }

    private static void takenAllIsGone() {
        LoafStreet x = rich();
        Due.is("some rests", x.rests(-1) < 16, true);
        Due.is("taken", Due.tell(x, "baker a cost 7;baker b cost 8;"), 2);
        Due.is("two streets", x.count(0), 2);
        Due.is("its own rests: all of nobody's", x.rests(-1), 16);
        Due.is("asks are gone", x.ask(0) * 10 + x.ask(1), 0);
        Due.is("not whole", x.count(6), 0);
        Due.is("promises are gone", x.count(5), 0);
        Due.is("laws are gone", x.count(2), 0);
        Due.is("none is in force", x.count(3), -1);
        Due.is("no law 0", x.force(0), false);
        Due.is("images are gone", x.count(4), 0);
        Due.is("no image 0", x.back(0), false);
        Due.is("costs as told", x.told(100) * 10 + x.told(101), 78);
        Due.is("no sorts", x.told(1), 0);
        Due.is("its own statements", x.told(7), 2);
        Due.is("the list is gone", x.told(6), 0);
        Due.is("the door is gone", x.told(5), 0);
        Due.is("4 from 5 by 5", x.told(2) * 100 + x.told(3) * 10 + x.told(4), 455);
        Due.is("the first law again", x.law(0, 0), 0);
        Due.is("the first image again", x.image(), 0);
        x.lot(1, 2, 70);
        x.sure(0, 0);
        Due.is("elder lots are gone", x.count(6), 0);
        for (int i = 0; i < 3; i++) {
            Due.is("24 statements again and again", Due.tell(x, ONE + "door 1;".repeat(11) + "readers 1;".repeat(12)), 1);
            Due.is("its 12 sorts", x.told(1), 12);
            Due.is("its 24 statements", x.told(7), 24);
        }
    }

    /** What the mornings of a longer row of STEPS leave behind is nothing to a STREET with a shorter one. */
    private static void fewerStepsThen() {
        LoafStreet x = new LoafStreet();
        for (int i = 0; i < 2; i++) {
            Due.tell(x, "baker a cost 0;baker b cost 0;steps 8 from 1 by 1;");
            x.sure(0, 7);
            x.sure(1, 7);
            Due.is("price of 8", x.run(1, 1, 21), 8);
            Due.tell(x, "baker a cost 0;baker b cost 0;steps 2 from 3 by 1;each 1 of 2;");
            if (i == 0) {
                for (int b = 0; b < 2; b++) {
                    x.lot(b, 0, 50);
                    x.lot(b, 1, 50);
                }
                Due.is("by lots each sells the half", x.sold(0) * 10 + x.sold(1), 6 * 11 * 10000);
            } else {
                // at 4 each has 6 for 4, and 12 for 3 if it undercuts the other
                Due.is("one rest", x.rests(-1), 1);
                Due.is("both at 3", x.rests(0), 0);
            }
        }
    }

    private static void latestFault() {
        LoafStreet x = new LoafStreet();
        Due.is("none yet", x.fault(), -1);
        x.street(5);
        Due.is("-2 is no fault", x.fault(), -1);
        Due.tell(x, "baker x?");
        Due.is("a place", x.fault(), 7);
        x.street(-1);
        Due.is("-2 leaves it", x.fault(), 7);
        Due.tell(x, "baker ?");
        Due.is("the latest", x.fault(), 6);
        Due.tell(x, ONE);
        Due.is("it had none", x.fault(), -1);
        x.street(1);
        Due.is("-2 leaves that too", x.fault(), -1);
    }

    // ---- promise 5

    private static void toldAtFirst() {
        LoafStreet x = new LoafStreet();
        int[] due = {0, 0, 4, 5, 5, 0, 0, 0};
        for (int what = 0; what < due.length; what++) {
            Due.is("at first told " + what, x.told(what), due[what]);
        }
        Due.is("told -1", x.told(-1), -1);
        Due.is("told 8", x.told(8), -1);
    }

    private static void toldOfBakers() {
        String text = "";
        for (int bakers = 1; bakers <= 4; bakers++) {
            text = text + "baker " + (char) ('w' + bakers - 1) + " cost " + 11 * bakers + ";";
            LoafStreet x = Due.told(text);
            Due.is(bakers + " bakers: told 99", x.told(99), -1);
            for (int b = 0; b < 5; b++) {
                Due.is(bakers + " bakers: told " + (100 + b), x.told(100 + b), b < bakers ? 11 * (b + 1) : -1);
            }
            Due.is(bakers + " bakers: told 199", x.told(199), -1);
        }
    }

    private static void toldOfSorts() {
        StringBuilder text = new StringBuilder("baker a cost 0;baker b cost 0;");
        for (int s = 0; s < 12; s++) {
            Due.is("no sort " + s, Due.told(text.toString()).told(200 + 4 * s), -1);
            text.append(s % 3 == 0 ? "women " : s % 3 == 1 ? "each " : "readers ").append(s + 1);
            text.append(s % 3 == 0 ? " ask b" : s % 3 == 1 ? " of 4" : "").append(s < 11 ? " worth " + s * 90 : "").append(';');
        }
        LoafStreet x = Due.told(text.toString());
        Due.is("12 sorts", x.told(1), 12);
        for (int s = 0; s < 12; s++) {
            Due.is("kind of " + s, x.told(200 + 4 * s), s % 3);
            Due.is("number of " + s, x.told(201 + 4 * s), s + 1);
            Due.is("named of " + s, x.told(202 + 4 * s), s % 3 == 0 ? 2 : s % 3 == 1 ? 4 : 0);
            Due.is("worth of " + s, x.told(203 + 4 * s), s < 11 ? s * 90 : 999);
        }
        for (int what = 248; what < 256; what++) {
            Due.is("told " + what, x.told(what), -1);
        }
    }

    private static void toldOfOthers() {
        LoafStreet x = rich();
        for (int what : new int[] {-2, -1, 8, 9, 50, 99, 102, 103, 104, 199, 212, 213, 214, 215, 248, 1000, BIG, BIG - 1,
            SMALL, SMALL + 1, -100, -200}) {
            Due.is("told " + what, x.told(what), -1);
        }
        Due.is("told 211 is the last", x.told(211), 999);
        Due.is("told 101 is the last", x.told(101), 3);
        Due.is("told 7", x.told(7), 8);
    }

    // ---- terms: numbers, names, limits

    private static void numbers() {
        number("baker a cost ", ";", 0, 99, 100);
        number(ONE + "steps 8 from ", " by 1;", 0, 99, 3);
        number(ONE + "door ", ";", 0, 99, 5);
        number(ONE + "steps ", " from 1 by 1;", 1, 8, 2);
        number(ONE + "steps 1 from 1 by ", ";", 1, 20, 4);
        number(ONE + "women ", " ask a;", 1, 99, 201);
        number(ONE + "each ", " of 1;", 1, 99, 201);
        number(ONE + "readers ", ";", 1, 99, 201);
        number(ONE + "each 1 of ", ";", 1, 4, 202);
        number(ONE + "women 1 ask a worth ", ";", 0, 999, 203);
        number(ONE + "each 1 of 1 worth ", ";", 0, 999, 203);
        number(ONE + "readers 1 worth ", ";", 0, 999, 203);
    }

    private static void number(String ahead, String behind, int least, int most, int what) {
        for (int number : new int[] {least, least + 1, most - 1, most}) {
            LoafStreet x = Due.told(ahead + number + behind);
            Due.is(ahead + number + behind, x.told(what), number);
            String four = String.format("%04d", number);
            Due.is(ahead + four + behind, Due.told(ahead + four + behind).told(what), number);
            fault(ahead + "0" + four + behind, ahead.length());
        }
        if (least > 0) {
            fault(ahead + (least - 1) + behind, ahead.length());
            fault(ahead + "0000" + behind, ahead.length());
        }
        fault(ahead + (most + 1) + behind, ahead.length());
        fault(ahead + "9999" + behind, ahead.length());
        fault(ahead + "4294967297" + behind, ahead.length());
        fault(ahead + "18446744073709551617" + behind, ahead.length());
        fault(ahead + "one" + behind, ahead.length());
        fault(ahead + "-1" + behind, ahead.length());
        fault(ahead + behind, ahead.length() + (behind.startsWith(" ") ? 1 : 0));
    }

    private static void digits() {
        taken("baker a cost 1;", 1);
        taken("baker a cost 01;", 1);
        taken("baker a cost 001;", 1);
        taken("baker a cost 0001;", 1);
        fault("baker a cost 00001;", 13);
        fault("baker a cost 00000;", 13);
        fault("baker a cost 1 2;", 15);
        fault("baker a cost 12a;", 15);
    }

    private static void names() {
        String letters = "";
        for (int n = 1; n <= 8; n++) {
            letters = letters + "qrstuvwx".charAt(n - 1);
            taken("baker " + letters + " cost 1;list " + letters + ";women 1 ask " + letters + ";", 1);
        }
        fault("baker qrstuvwxy cost 1;", 6);
        fault("baker  cost 1;", 7);
        fault("baker ; cost 1;", 6);
        fault("baker 1 cost 1;", 6);
        fault("baker qrstuvwx cost 1;list qrstuvwxy;", 27);
        fault("baker qrstuvwx cost 1;list qrstuvw;", 27);
        fault("baker qrstuvwx cost 1;women 1 ask qrstuvwxq;", 34);
        fault("baker a cost 1;list qqqqqqqqqqqqqqqqqqqqqqqqqqqqqqqa;", 20);
        taken("baker aaaaaaaa cost 1;baker zzzzzzzz cost 1;baker aaaaaaaz cost 1;baker zaaaaaaa cost 1;", 4);
        for (char c = 'a'; c <= 'z'; c++) {
            String cc = "" + c + c;
            taken("baker " + c + " cost 1;baker " + cc + " cost 1;baker " + cc + c + " cost 1;baker " + cc + cc + " cost 1;", 4);
        }
    }

    private static void words() {
        String[] words = {"baker", "cost", "steps", "from", "by", "list", "door", "women", "ask", "and", "worth", "each", "of",
            "readers"};
        for (String word : words) {
            fault("baker " + word + " cost 1;", 6);
            fault(ONE + "list " + word + ";", 20);
            fault(ONE + "women 1 ask " + word + ";", 27);
            fault(ONE + "women 1 ask a and " + word + ";", 33);
            taken("baker " + word + "s cost 1;list " + word + "s;", 1);
            taken("baker " + word.substring(1) + " cost 1;list " + word.substring(1) + ";", 1);
            taken("baker " + word.substring(0, word.length() - 1) + " cost 1;", 1);
            fault(word.substring(1) + " 1;", 0);
            fault(word + "s 1;", 0);
        }
        for (String statement : new String[] {"baker b cost 1;", "steps 1 from 1 by 1;", "list a;", "door 1;",
            "women 1 ask a worth 1;", "each 1 of 1;", "readers 1;"}) {
            taken(ONE + statement, statement.startsWith("baker") ? 2 : 1);
            for (String word : words) {
                int place = statement.indexOf(word);
                for (int i = 0; place >= 0 && i < word.length(); i++) {
                    StringBuilder text = new StringBuilder(ONE + statement);
                    text.setCharAt(ONE.length() + place + i, 'q');
                    fault(text.toString(), ONE.length() + place);
                }
            }
        }
        LoafStreet x = Due.told(ONE + "baker b cost 1;women 1 ask a and b;");
        Due.is("and", x.told(202), 3);
        fault(ONE + "baker b cost 1;women 1 ask a qnd b;", 44);
        fault(ONE + "baker b cost 1;women 1 ask a anq b;", 44);
    }

    private static void namesToldOrNot() {
        fault("baker a cost 1;baker a cost 1;", 21);
        taken("baker a cost 1;baker b cost 1;", 2);
        fault("baker a cost 1;baker b cost 1;baker c cost 1;baker a cost 1;", 51);
        fault("list a;baker a cost 1;", 5);
        taken("baker a cost 1;list a;", 1);
        fault("women 1 ask a;baker a cost 1;", 12);
        fault(ONE + "list b;", 20);
        fault(ONE + "women 1 ask b;", 27);
        fault(ONE + "women 1 ask a and b;baker b cost 1;", 33);
        // a street that was there before tells no names
        LoafStreet x = Due.told(ONE);
        Due.is("a of the elder street", Due.tell(x, "list a;baker b cost 1;"), -1);
        Due.is("its place", x.fault(), 5);
        Due.is("a anew", Due.tell(x, ONE), 1);
        // nor does one with a fault
        Due.is("b, and a fault", Due.tell(x, "baker b cost 1;?"), -1);
        Due.is("b isn't told", Due.tell(x, "baker a cost 1;list b;"), -1);
        Due.is("b's place", x.fault(), 20);
    }

    private static void namesBehindAnd() {
        String two = "baker a cost 1;baker b cost 1;";
        taken(two + "women 1 ask a and b;", 2);
        fault(two + "women 1 ask a and a;", 48);
        fault(two + "women 1 ask b and a and b;", 54);
        taken(two + "women 1 ask a and b;women 1 ask b and a;", 2);
        taken(two + "list a;list a;list b;", 2);
        fault(two + "list a and b;", 37);
        String four = two + "baker c cost 1;baker d cost 1;";
        LoafStreet x = Due.told(four + "women 1 ask d and b and a and c;women 1 ask d;women 2 ask c and a;");
        Due.is("all four", x.told(202), 15);
        Due.is("d alone", x.told(206), 8);
        Due.is("c and a", x.told(210), 5);
        fault(four + "women 1 ask d and b and a and c and a;", 96);
        fault(four + "women 1 ask d and b and a and c and e;", 96);
    }

    private static void fourBakers() {
        String four = "baker a cost 1;baker b cost 1;baker c cost 1;baker d cost 1;";
        taken(four, 4);
        fault(four + "baker e cost 1;", 66);
        fault(four + "baker e", 66);
        fault(four + "baker  a cost 1;", 67);
        fault(four + "baker cost 1;", 66);
        fault(four + "baker 1", 66);
        fault(four + "baker", 65);
        fault(four + "baker  ", 67);
        taken(four + "door 1;", 4);
    }

    private static void twelveSorts() {
        for (String sort : new String[] {"women 1 ask a;", "each 1 of 4;", "readers 1;", "readers 1 worth 0;"}) {
            String eleven = ONE + sort.repeat(11);
            taken(eleven, 1);
            for (String last : new String[] {"women 1 ask a;", "each 1 of 4;", "readers 1;"}) {
                LoafStreet x = Due.told(eleven + last);
                Due.is("12 sorts", x.told(1), 12);
                String twelve = eleven + last;
                for (String more : new String[] {"women 1 ask a;", "each 1 of 4;", "readers 1;", "women", "each", "readers ?"}) {
                    fault(twelve + more, twelve.length());
                    fault(twelve + "\n " + more, twelve.length() + 2);
                }
                taken(twelve + "baker b cost 1;list b;door 1;steps 1 from 1 by 1;", 2);
            }
        }
        String mixed = ONE + "women 1 ask a;each 1 of 4;readers 1;".repeat(4);
        taken(mixed, 1);
        fault(mixed + "door 1;readers 1;", mixed.length() + 7);
    }

    private static void statements() {
        for (int n = 1; n <= 23; n++) {
            LoafStreet x = Due.told(ONE + "door 1;".repeat(n));
            Due.is("statements", x.told(7), n + 1);
        }
        String full = ONE + "door 1;".repeat(23);
        taken(full + "  \n", 1);
        for (String more : new String[] {"door 1;", "baker b cost 1;", "list a;", "steps 1 from 1 by 1;", "women 1 ask a;", "door",
            "x", ";", "1", "?"}) {
            fault(full + more, full.length());
            fault(full + " \n" + more, full.length() + 2);
        }
        String sorts = ONE + "door 1;".repeat(11) + "readers 1;".repeat(12);
        taken(sorts, 1);
        fault(sorts + "readers 1;", sorts.length());
        fault("door 1;".repeat(24) + ONE, 168);
        taken("door 1;".repeat(23) + ONE, 1);
        fault("door 1;".repeat(23) + "door 1", 167);
    }

    private static void atLeastOneBaker() {
        fault("", 0);
        fault(" ", 1);
        fault("door 1;", 7);
        fault("door 1; \n", 9);
        fault("each 1 of 1;readers 1;steps 1 from 1 by 1;", 42);
        fault("door 1;".repeat(24), 168);
        fault("door 1;".repeat(24) + " ", 169);
        taken("door 1;" + ONE, 1);
    }

    private static void blanks() {
        taken("\n\n  baker\n\na  cost\n1 ;\n \n", 1);
        taken("baker a cost 1 ; ", 1);
        fault(" baker a cost 1 ", 16);
        fault("bak er a cost 1;", 0);
        fault("baker a co st 1;", 8);
        fault("baker a cost 1\n;;", 16);
    }

    private static void bytesThatBeginNone() {
        for (int b = 0; b < 256; b++) {
            char sign = (char) b;
            boolean blank = b == 32 || b == 10;
            boolean letter = b >= 'a' && b <= 'z';
            boolean digit = b >= '0' && b <= '9';
            if (blank) {
                taken(ONE + sign, 1);
                taken("baker" + sign + "a cost 1;", 1);
                taken("baker a cost 1" + sign + ";", 1);
                taken(sign + ONE, 1);
            } else {
                fault(ONE + sign, 15);
                fault("baker" + sign + "a cost 1;", letter ? 0 : 5);
                fault(sign + ONE, 0);
                if (digit) {
                    taken("baker a cost 1" + sign + ";", 1);
                } else if (b == ';') {
                    fault("baker a cost 1;;", 15);
                } else {
                    fault("baker a cost 1" + sign + ";", 14);
                }
            }
        }
    }

    private static void tokensAsLongAsTheyGo() {
        taken("baker a cost1;door2;steps3from4by5;women6ask a worth7;each8of1worth9;readers10worth11;list a;", 1);
        fault("bakera cost 1;", 0);
        fault("baker acost 1;", 12);
        fault("baker a cost 1;womenask a;", 15);
        fault("baker a cost 1;women 1 aska;", 23);
        fault("baker a cost 1;women 1 ask aand a;", 27);
        fault("baker a cost 1;each 1 of 1worthy 1;", 26);
        fault("baker a cost 1 0;", 15);
        taken("baker a cost 10;", 1);
    }

    /** Broken off behind any token the text's length is the FAULT, with blanks behind it too. */
    private static void moreMustCome() {
        String[] tokens = {"baker", "b", "cost", "1", ";", "steps", "1", "from", "1", "by", "1", ";", "list", "a", ";", "door", "1",
            ";", "women", "1", "ask", "a", "and", "b", "worth", "1", ";", "each", "1", "of", "1", "worth", "1", ";", "readers",
            "1", "worth", "1", ";"};
        StringBuilder text = new StringBuilder(ONE);
        for (String token : tokens) {
            text.append(token);
            if (token.equals(";")) {
                taken(text.toString(), text.indexOf("b cost") > 0 ? 2 : 1);
                taken(text + " \n", 2);
            } else {
                fault(text.toString(), text.length());
                fault(text + "\n  ", text.length() + 3);
                text.append(' ');
            }
        }
    }

    private static void lastHolds() {
        LoafStreet x = Due.told("steps 8 from 99 by 20;door 99;baker a cost 1;steps 1 from 0 by 1;door 0;");
        Due.is("the last steps", x.told(2) * 100 + x.told(3) * 10 + x.told(4), 101);
        Due.is("the last door", x.told(5), 0);
        x = Due.told("steps 1 from 0 by 1;door 0;baker a cost 1;steps 8 from 99 by 20;door 99;");
        Due.is("the last steps", x.told(2) * 10000 + x.told(3) * 100 + x.told(4), 89920);
        Due.is("the last door", x.told(5), 99);
        x = Due.told("door 9;baker a cost 1;");
        Due.is("steps untold", x.told(2) * 100 + x.told(3) * 10 + x.told(4), 455);
        x = Due.told("steps 2 from 1 by 1;baker a cost 1;");
        Due.is("door untold", x.told(5), 0);
    }

    private static void prices() {
        LoafStreet x = Due.told("baker a cost 0;steps 8 from 99 by 20;women 1 ask a;");
        for (int step = 0; step < 8; step++) {
            x.sure(0, step);
            Due.is("price of step " + step, x.pays(0, 0), (99 + 20 * step) * 1200L);
        }
        Due.is("no step 8", x.sure(0, 8), false);
        x = Due.told("baker a cost 0;steps 1 from 0 by 1;women 1 ask a worth 0;");
        x.sure(0, 0);
        Due.is("price 0, worth 0: paid", x.pays(0, 0), 0);
        Due.is("price 0, worth 0: bought", x.pays(0, 1), 1200);
        Due.is("no step 1", x.sure(0, 1), false);
        x = Due.told("baker a cost 0;women 1 ask a;");
        x.sure(0, 3);
        Due.is("untold: the fourth is 20", x.pays(0, 0), 20 * 1200);
        Due.is("untold: no fifth", x.sure(0, 4), false);
    }

    private static void listed() {
        Due.is("none listed", Due.told(ONE).told(6), 0);
        LoafStreet x = Due.told("baker a cost 1;baker b cost 1;baker c cost 1;baker d cost 1;list d;list a;list d;");
        Due.is("d and a", x.told(6), 9);
        x = Due.told("baker a cost 1;list a;baker b cost 1;list b;baker c cost 1;list c;baker d cost 1;list d;");
        Due.is("all", x.told(6), 15);
    }

    private static void worthUntold() {
        LoafStreet x = Due.told("baker a cost 0;baker b cost 0;steps 8 from 99 by 20;women 1 ask a;women 1 ask a worth 238;"
            + "women 1 ask a worth 239;");
        x.sure(0, 7);
        x.sure(1, 0);
        Due.is("999 untold", x.told(203), 999);
        Due.is("none goes home", x.pays(0, 2), 0);
        Due.is("239 is above 238", x.pays(1, 2), 120000);
        Due.is("239 isn't above 239", x.pays(2, 2), 0);
    }
}
