/** Promises 1 to 4: a new object, the text, the house that it tells. */
public final class TextTest {
    private static final int BAD = SilentRent.BAD, STATE = SilentRent.STATE, FULL = SilentRent.FULL, NONE = SilentRent.NONE, NO = SilentRent.NO;
    private static final Due due = new Due("TextTest");
    private static final Twins twins = new Twins(due);

    public static void main(String[] args) {
        aNewObject();
        objectsShareNothing();
        the512thCall();
        bytes();
        fullText();
        clearing();
        itemsAreCounted();
        textOf200Bytes();
        blanks();
        items();
        roomsTold();
        tenantsTold();
        hearingTold();
        chairsTold();
        tokens();
        faultsOfTokens();
        firstFault();
        faultsOfBytesAndNumbers();
        endsTooEarly();
        faultChangesNothing();
        readAnew();
        nothingIsLeftOfAnOlderText();
        due.end();
    }

    private static void aNewObject() {
        due.of(1, "As told; no ROOMS, nobody.");
        SilentRent x = new SilentRent();
        for (int what = 0; what <= 5; what++) {
            due.is("count(" + what + ")", x.count(what), 0);
        }
        for (int what = 0; what <= 4; what++) {
            due.is("now(" + what + ")", x.now(what), 0);
        }
        due.is("room(0, 0)", x.room(0, 0), BAD);
        due.is("tenant(0, 0)", x.tenant(0, 0), BAD);
        due.is("chair(0)", x.chair(0), BAD);
        due.is("moves(0, -1)", x.moves(0, -1), BAD);
        due.is("talks(0, 1, 0)", x.talks(0, 1, 0), BAD);
        due.is("lends(0, 1, 1)", x.lends(0, 1, 1), BAD);
        due.is("undo()", x.undo(), STATE);
        due.is("housed(-1)", x.housed(-1), 0);
        due.is("housed(-2)", x.housed(-2), 0);
        due.is("housed(0)", x.housed(0), BAD);
        due.is("crowd()", x.crowd(), NONE);
        due.is("spare(0)", x.spare(0), NO);
        due.is("rest(0)", x.rest(0), 0);
        due.is("rest(1)", x.rest(1), 0);
        due.is("payments()", x.payments(), 0);
        due.is("settled(0)", x.settled(0), NO);
        due.is("told(0)", x.told(0), BAD);
        due.is("rounds(0)", x.rounds(0), BAD);
        due.is("watch(0)", x.watch(0), 0);
        due.is("watch(1)", x.watch(1), BAD);
        due.is("odds(10, 0)", x.odds(10, 0), 1);
        due.is("odds(10, 1)", x.odds(10, 1), 1);
        due.is("book(0, 0)", x.book(0, 0), BAD);
        due.is("burn()", x.burn(), 0);
        due.is("fits(-1)", x.fits(-1), 1);
        due.is("fits(0)", x.fits(0), BAD);
        due.is("may(0)", x.may(0), BAD);
        due.is("mark(0, 0)", x.mark(0, 0), NO);
        due.is("back(0)", x.back(0), STATE);
        due.is("back(1)", x.back(1), STATE);
        due.is("trace()", x.trace(), 0);
        due.is("clear()", x.clear(), 0);
        due.is("house()", x.house(), 0);
        due.is("keep(0)", x.keep(0), 0);
        due.is("evening()", x.evening(), 0);
        due.is("now(0)", x.now(0), 1);
        due.is("undo() again", x.undo(), 0);
    }

    private static void objectsShareNothing() {
        due.of(1, "As told; no ROOMS, nobody.");
        SilentRent other = new SilentRent();
        Stories.BUSY.tell(other);
        twins.alike("a new object beside a busy one", Stories.NOTHING, x -> Stories.BUSY.tell(other));
        SilentRent first = new SilentRent();
        Stories.TOLD.tell(first);
        Stories.BUSY.tell(new SilentRent());
        due.is("the first one's day", first.now(0), 0);
        due.is("the first one's debts", first.now(1), 0);
        due.is("the first one's bytes", first.count(5), 0);
    }

    private static void the512thCall() {
        due.of(1, "An object is used for at most 512 calls after it has been made; what later calls answer is free.");
        SilentRent x = new SilentRent();
        Due.typed(x, " ".repeat(200));
        x.clear();
        Due.typed(x, "r24;t12 0 0 1;");
        due.is("call 216", x.house(), 2);
        due.is("call 217", x.moves(0, 0), NONE);
        for (int day = 1; day <= 99; day++) {
            due.is("call " + (217 + day), x.evening(), 12 * day);
        }
        for (int call = 317; call <= 511; call++) {
            due.is("call " + call, x.mark(0, 0), 1188);
        }
        due.is("call 512", x.trace(), 195);
    }

    private static void bytes() {
        due.of(2, "A byte (0 .. 255) comes to THE TEXT: how many it has.");
        SilentRent x = new SilentRent();
        due.is("type(0)", x.type(0), 1);
        due.is("type(255)", x.type(255), 2);
        due.is("type(127)", x.type(127), 3);
        due.is("type(128)", x.type(128), 4);
        due.is("count(5)", x.count(5), 4);
        due.of(2, "BAD; FULL.");
        int[] wrong = {-1, 256, -256, 256 + 'r', 'r' - 256, 65536 + 'r', Integer.MIN_VALUE, Integer.MIN_VALUE + 'r', Integer.MAX_VALUE};
        for (int c : wrong) {
            twins.refused("type(" + c + ")", Stories.BUSY, y -> y.type(c), BAD);
        }
    }

    private static void fullText() {
        due.of(2, "BAD; FULL.");
        SilentRent x = new SilentRent();
        for (int i = 1; i <= 200; i++) {
            due.is("byte " + i, x.type(32), i);
        }
        due.is("byte 201", x.type(32), FULL);
        due.is("count(5)", x.count(5), 200);
        twins.refused("a byte more than fit", Stories.FULL_TEXT, y -> y.type('c'), FULL);
        twins.refused("BAD ahead of FULL", Stories.FULL_TEXT, y -> y.type(256), BAD);
        twins.refused("BAD ahead of FULL", Stories.FULL_TEXT, y -> y.type(-1), BAD);
        due.is("clear()", x.clear(), 200);
        due.is("there is room again", x.type(255), 1);
        SilentRent z = new SilentRent();
        Stories.FULL_TEXT.tell(z);
        due.is("house()", z.house(), 3);
        due.is("there is room again", z.type(0), 1);
    }

    private static void clearing() {
        due.of(3, "THE TEXT is empty: how many bytes it had.");
        SilentRent x = new SilentRent();
        due.is("clear() of nothing", x.clear(), 0);
        due.is("type('r')", x.type('r'), 1);
        due.is("clear() of one", x.clear(), 1);
        due.is("clear() again", x.clear(), 0);
        due.is("count(5)", x.count(5), 0);
        Due.typed(x, "r9;");
        due.is("what was cleared is not read", x.house(), 1);
        due.is("room(0, 0)", x.room(0, 0), 9);
        Due.typed(x, " ".repeat(200));
        due.is("clear() of all that fit", x.clear(), 200);
        due.is("house() of a cleared text", x.house(), 0);
        twins.alike("clear() changes nothing else", Stories.TOLD, y -> {
            Stories.TOLD.tell(y);
            Due.typed(y, "r9;c");
            y.clear();
        });
    }

    private static int read(String text) {
        SilentRent x = new SilentRent();
        Due.typed(x, text);
        return x.house();
    }

    private static void reads(String text, int items) {
        due.is("house() of '" + text + "'", read(text), items);
    }

    private static void fault(String text, int place) {
        due.is("house() of '" + text + "'", read(text), -10 - place);
    }

    private static void itemsAreCounted() {
        due.of(4, "THE TEXT tells all, and is empty then: how many ITEMS.");
        reads("", 0);
        reads(" ", 0);
        reads("r0;", 1);
        reads("r0;t0 0 0 1;c0;", 3);
        reads("t0 0 0 1;t0 0 0 1;" + "h0 1;".repeat(36), 38);
        SilentRent x = Due.told("r5;");
        due.is("the text is empty then", x.count(5), 0);
        due.is("clear()", x.clear(), 0);
        due.is("type(32)", x.type(32), 1);
        due.is("blanks alone tell nothing", x.house(), 0);
        due.is("no rooms then", x.count(0), 0);
        due.is("room(0, 0)", x.room(0, 0), BAD);
    }

    private static void textOf200Bytes() {
        due.of(4, "They are a text (200 bytes at most), read byte by byte, blanks (32) between TOKENS;");
        reads(" ".repeat(200), 0);
        reads(" ".repeat(197) + "r7;", 1);
        reads("r7" + " ".repeat(197) + ";", 1);
        reads("r" + " ".repeat(197) + "7;", 1);
        reads("r7;" + " ".repeat(197), 1);
        fault(" ".repeat(198) + "r7", 200);
        fault(" ".repeat(199) + "r", 200);
        fault(" ".repeat(199) + ";", 199);
        fault("r7" + " ".repeat(198), 200);
        SilentRent x = new SilentRent();
        Due.typed(x, " ".repeat(198) + "r7");
        due.is("the byte that would end it does not fit", x.type(';'), FULL);
        due.is("it is not read", x.house(), -210);
        SilentRent y = Due.told("t0 0 0 1;t0 0 0 1;" + "h0 1;".repeat(35) + " h1 0; ");
        due.is("a text of 200 bytes, hears", y.tenant(1, 9), 1);
    }

    private static void blanks() {
        due.of(4, "They are a text (200 bytes at most), read byte by byte, blanks (32) between TOKENS;");
        reads("r24;", 1);
        reads("  r  24  ;  ", 1);
        reads("t12 12 9 9;t0  0  0  1 ;h0 1;h 0 1 ; h1 0;", 5);
        for (int c : new int[] {0, 9, 10, 13, 31, 33, 127, 128, 160, 255}) {
            fault("r24;" + (char) c, 4);
            fault("r" + (char) c + "24;", 1);
            fault("r2" + (char) c + "4;", 2);
        }
        due.is("a blank parts letters from letters", read("r r1;"), -12);
        due.is("a blank parts a number from a number", read("r2 4;"), -13);
        fault("t0 00 1;", 3);
    }

    private static void items() {
        due.of(4, "ITEMS, each letters and what is told, ended by ; : r P (a room) ; t S M W A (a tenant) ;");
        SilentRent x = Due.told("r7;t1 2 3 4;");
        due.is("price", x.room(0, 0), 7);
        for (int what = 0; what < 4; what++) {
            due.is("tenant(0, " + what + ")", x.tenant(0, what), what + 1);
        }
        fault("r7", 2);
        fault("r7 r8;", 3);
        fault("r7 t1 2 3 4;", 3);
        fault("r7;;", 3);
        fault(";r7;", 0);
        fault("7;", 0);
        fault("7r;", 0);
        fault("r;", 1);
        fault("r7 7;", 3);
        fault("t1 2 3;", 6);
        fault("t1 2 3 4 5;", 9);
        fault("t;", 1);
        fault("h;", 1);
        fault("c;", 1);
        fault("c1 1;", 3);
        // No number stands for letters, though c has the number 99.
        fault("99 1;", 0);
        fault("c1;99 1;", 3);
        fault("99;", 0);
    }

    /** One number of an item: the least and the most that it may be, just outside, and numbers that wrap around to it. */
    private static void number(String ahead, int least, int most, String behind) {
        int items = read(ahead + least + behind);
        due.is(ahead + least + behind + ", told", items > 0 ? 1 : 0, 1);
        due.is(ahead + most + behind + ", told", read(ahead + most + behind), items);
        int place = ahead.length();
        fault(ahead + (most + 1) + behind, place);
        if (least > 0) {
            fault(ahead + (least - 1) + behind, place);
        }
        fault(ahead + "-" + most + behind, place);
        fault(ahead + "+" + most + behind, place);
        fault(ahead + (256 + least) + behind, place);
        fault(ahead + (65536 + least) + behind, place);
        fault(ahead + (4294967296L + least) + behind, place);
        fault(ahead + "1844674407370955161" + (6 + least) + behind, place);
    }

    private static void roomsTold() {
        due.of(4, "ROOMS 0 .. (6 of them at most): PRICE (0 .. 24 hours of silence a day).");
        number("r", 0, 24, ";");
        number("r1; r ", 0, 24, " ;");
        SilentRent x = Due.told("r0;r24;r1;r23;r9;r10;");
        int[] price = {0, 24, 1, 23, 9, 10};
        due.is("six", x.count(0), 6);
        for (int r = 0; r < 6; r++) {
            due.is("price " + r, x.room(r, 0), price[r]);
        }
        due.is("room(6, 0)", x.room(6, 0), BAD);
        fault("r0;r24;r1;r23;r9;r10;r0;", 21);
        reads("", 0);
    }

    private static void tenantsTold() {
        due.of(4, "TENANTS 0 .. (6 of them at most): SLEEP (0 .. 12 hours), MUST say (0 .. 12 hours), WITS (0 .. 9), "
            + "ASKS (1 .. 9: for how much a silent hour is his; and for which he buys one).");
        number("t", 0, 12, " 0 0 1;");
        number("t0 ", 0, 12, " 0 1;");
        number("t12 12 ", 0, 9, " 1;");
        number("t0 0 0 ", 1, 9, ";");
        SilentRent x = Due.told("t0 0 0 1;t12 12 9 9;t0 12 0 9;t12 0 9 1;t11 1 8 2;t1 11 1 8;");
        int[][] tenant = {{0, 0, 0, 1}, {12, 12, 9, 9}, {0, 12, 0, 9}, {12, 0, 9, 1}, {11, 1, 8, 2}, {1, 11, 1, 8}};
        due.is("six", x.count(1), 6);
        for (int t = 0; t < 6; t++) {
            for (int what = 0; what < 4; what++) {
                due.is("tenant(" + t + ", " + what + ")", x.tenant(t, what), tenant[t][what]);
            }
        }
        due.is("tenant(6, 0)", x.tenant(6, 0), BAD);
        fault("t0 0 0 1;".repeat(7), 54);
    }

    private static void hearingTold() {
        due.of(4, "h A B (tenants told ahead: A hears B; told again: well) ;");
        String two = "t0 0 0 1;t0 0 0 1;";
        String three = two + "t0 0 0 1;";
        String six = three + three;
        number(two + "h0 ", 1, 1, ";");
        number(three + "h1 ", 2, 2, ";");
        reads(three + "h0 2;h2 0;", 5);
        fault(three + "h3 2;", 28);
        fault("h0 1;", 1);
        fault("h1 0;" + two, 1);
        fault("t0 0 0 1;h0 1;", 12);
        fault("t0 0 0 1;h1 0;", 10);
        fault("t0 0 0 1;h0 1;t0 0 0 1;", 12);
        reads(six + "h5 4;h4 5;h0 5;h5 0;", 10);
        fault(six + "h6 0;", 55);
        fault(six + "h5 6;", 57);
        SilentRent x = Due.told(two + "h1 0;t0 0 0 1;h1 2;h1 0;h0 2;h1 0;");
        due.is("0 hears", x.tenant(0, 9), 4);
        due.is("1 hears, told again", x.tenant(1, 9), 5);
        due.is("2 hears nobody", x.tenant(2, 9), 0);
        due.of(4, "HEARS: one TENANT hears another one (unlike).");
        fault("t0 0 0 1;h0 0;", 12);
        for (int t = 0; t < 6; t++) {
            fault(six + "h" + t + " " + t + ";", 57);
        }
    }

    private static void chairsTold() {
        due.of(4, "CHAIRS 0 .. (5 of them at most): TENANTS whose lips are seen from it (bits, 0 .. 63).");
        due.of(4, "c L (a chair).");
        number("c", 0, 63, ";");
        String six = "t0 0 0 1;".repeat(6);
        SilentRent x = Due.told(six + "c0;c63;c1;c32;c62;");
        int[] lips = {0, 63, 1, 32, 62};
        due.is("five", x.count(2), 5);
        for (int c = 0; c < 5; c++) {
            due.is("chair(" + c + ")", x.chair(c), lips[c]);
        }
        due.is("chair(5)", x.chair(5), BAD);
        fault("c0;c63;c1;c32;c62;c0;", 18);
        reads("c1;", 1);
    }

    private static void tokens() {
        due.of(4, "TOKENS are letters a .. z side by side, NUMBERS and ; .");
        reads("c3;t0 0 0 1;r5;", 3);
        // Just outside of a .. z and of 0 .. 9, on both sides of ; and capitals.
        for (char c : new char[] {'`', '{', '/', ':', '<', 'A', 'R', 'Z', '@', '['}) {
            fault("r1; " + c + "1;", 4);
            fault("r" + c + "1;", 1);
            fault("r1" + c + ";", 2);
        }
        fault("a1;", 0);
        fault("z1;", 0);
        fault("ra1;", 0);
        fault("rz1;", 0);
        fault("zr1;", 0);
        fault("az1;", 0);
        fault("r1a;", 2);
        fault("r1z;", 2);
        reads("r0;r9;", 2);
    }

    private static void faultsOfTokens() {
        due.of(4, "FAULT: the place of the first byte of the first TOKEN that can't stand there");
        due.of(4, "(letters that begin no ITEM, a seventh room or tenant, a sixth chair, B that is A, a NUMBER beyond what it may be, too);");
        fault("x", 0);
        fault("  x1;", 2);
        fault("rr1;", 0);
        fault("rt 1;", 0);
        fault(" tt0 0 0 1;", 1);
        fault("rrrrrrrrrr", 0);
        fault("r0;r0;r0;r0;r0;r0;r", 18);
        fault("r0;r0;r0;r0;r0;r0;  r 99;", 20);
        fault("t0 0 0 1;".repeat(6) + " t0 0 0 1;", 55);
        fault("t0 0 0 1;".repeat(6) + "t", 54);
        fault("c0;c0;c0;c0;c0; c0;", 16);
        fault("c0;c0;c0;c0;c0;c64;", 15);
        fault("t0 0 0 1;t0 0 0 1;h1  1 ;", 22);
        fault("r  25 ;", 3);
        fault("t 0 0  10 1;", 7);
        reads("r0;r0;r0;r0;r0;r0;" + "t0 0 0 1;".repeat(6) + "c0;c0;c0;c0;c0;", 17);
    }

    private static void firstFault() {
        due.of(4, "FAULT: the place of the first byte of the first TOKEN that can't stand there");
        fault("x;r25;", 0);
        fault("r25;x;", 1);
        fault("r25 !", 1);
        fault("r1;q !", 3);
        fault("r1;! q", 3);
        fault("x 100;", 0);
        fault("t13 13 10 0;", 1);
        fault("t0 13 10 0;", 3);
        fault("t0 0 10 0;", 5);
        fault("t0 0 0 0", 7);
        fault("h0 0;", 1);
        fault("t0 0 0 1;h0 99;", 12);
        fault("r25", 1);
    }

    private static void faultsOfBytesAndNumbers() {
        due.of(4, "of a byte that begins none, a NUMBER above 99 or with a 0 ahead of others, that TOKEN's;");
        fault("!", 0);
        fault("r!", 1);
        fault("r 1" + (char) 200 + ";", 3);
        fault("r 1 " + (char) 255 + ";", 4);
        fault((char) 0 + "r1;", 0);
        fault("r-1;", 1);
        fault("r 1.5;", 3);
        fault("r 99;", 2);
        fault("r 100;", 2);
        fault("r 240;", 2);
        fault("r 999;", 2);
        fault("r 00;", 2);
        fault("r 01;", 2);
        fault("r 024;", 2);
        fault("r 000;", 2);
        reads("r 0;", 1);
        reads("r 10;", 1);
        reads("r 20;", 1);
        fault("r 1 00;", 4);
        fault("100;", 0);
        fault("00", 0);
        fault("t 00 0 0 1;", 2);
        fault("t0 0 0 01;", 7);
        fault("c 063;", 2);
        fault("t0 0 0 1;t0 0 0 1;h00 1;", 19);
        fault("t0 0 0 1;t0 0 0 1;h0 01;", 21);
        fault("r" + "1".repeat(150) + ";", 1);
        fault("r" + "0".repeat(150) + "1;", 1);
    }

    private static void endsTooEarly() {
        due.of(4, "the text's length, if it ends too early.");
        String item = "t10 2 3 4;";
        for (int i = 1; i < item.length(); i++) {
            fault(item.substring(0, i), i);
            fault("r1;" + item.substring(0, i), 3 + i);
            fault(item.substring(0, i) + "   ", i + 3);
        }
        fault("r", 1);
        fault("r ", 2);
        fault("r 1", 3);
        fault("r 1  ", 5);
        fault("c", 1);
        fault("c63", 3);
        fault("t0 0 0 1;t0 0 0 1;h", 19);
        fault("t0 0 0 1;t0 0 0 1;h0", 20);
        fault("t0 0 0 1;t0 0 0 1;h0 1", 22);
        SilentRent x = new SilentRent();
        Due.typed(x, "r 1");
        due.is("too early", x.house(), -13);
        due.is("the byte that was missing", x.type(';'), 4);
        due.is("then it is told", x.house(), 1);
        due.is("room(0, 0)", x.room(0, 0), 1);
    }

    private static void faultChangesNothing() {
        due.of(4, "-10 less FAULT: nothing changes.");
        String[] texts = {"x", "r9;t1 1 1 1;c9;h0 0;", "r1;r1;r1;r1;r1;r1;r1;", "t0 0 0 1;t0 0 0 1;h1 0;c63;c63;c63;c63;r24;r", "!"};
        int[] places = {0, 18, 18, 44, 0};
        for (int i = 0; i < texts.length; i++) {
            String text = texts[i];
            Twins.Story ahead = x -> {
                Stories.BUSY.tell(x);
                x.clear();
                Due.typed(x, text);
            };
            twins.refused("house() of '" + text + "'", ahead, SilentRent::house, -10 - places[i]);
        }
        twins.refused("house() of nothing but a fault", x -> x.type(255), SilentRent::house, -10);
    }

    private static void readAnew() {
        due.of(4, "(Read anew: as told, nobody LIVES in a ROOM, DEBTS, DAY 0, THE BOOK empty, nothing to be UNDONE, IMAGES are gone.)");
        readAnew("r1;r2;t1 1 1 1;t2 2 2 2;h0 1;c3;", 6);
        readAnew(Stories.FULL_HOUSE, 24);
        twins.alike("read anew as nothing", Stories.NOTHING, y -> {
            Stories.AT_ITS_LIMITS.tell(y);
            y.house();
        });
    }

    private static void readAnew(String text, int items) {
        for (Twins.Story ahead : new Twins.Story[] {Stories.BUSY, Stories.AT_ITS_LIMITS}) {
            SilentRent x = new SilentRent();
            ahead.tell(x);
            long trace = x.trace();
            x.clear();
            Due.typed(x, text);
            due.is("house()", x.house(), items);
            due.is("the trace goes on", x.trace(), trace);
            // Marks that bring the trace of the one told at once to the same number.
            twins.alike("as if told at once", y -> {
                Due.typed(y, text);
                y.house();
                for (long left = trace; left > 0; left -= left >= 10101 ? 10101 : 1011) {
                    y.mark(left >= 10101 ? 4 : 3, 0);
                }
            }, y -> {
                ahead.tell(y);
                y.clear();
                Due.typed(y, text);
                y.house();
            });
        }
    }

    /** The rows of an older text, also of one with a fault, don't shine through. */
    private static void nothingIsLeftOfAnOlderText() {
        due.of(4, "(Read anew: as told, nobody LIVES in a ROOM, DEBTS, DAY 0, THE BOOK empty, nothing to be UNDONE, IMAGES are gone.)");
        String text = "t0 0 0 1;".repeat(6) + "c1;c2;r3;r4;";
        Twins.Story atOnce = y -> {
            Due.typed(y, text);
            y.house();
        };
        twins.alike("after a fuller text", atOnce, y -> {
            Due.typed(y, Stories.FULL_HOUSE);
            y.house();
            atOnce.tell(y);
        });
        twins.alike("after a fuller text and one without anything", atOnce, y -> {
            Due.typed(y, Stories.FULL_HOUSE);
            y.house();
            y.house();
            atOnce.tell(y);
        });
        twins.alike("after some days, and a text of one tenant", atOnce, y -> {
            Due.typed(y, "r5;t0 0 0 1;t12 0 9 1;");
            y.house();
            y.moves(1, 0);
            y.talks(0, 9, 1);
            y.evening();
            y.talks(0, 9, 1);
            y.keep(0);
            Due.typed(y, "t0 0 0 1;");
            y.house();
            y.talks(0, 1, 0);
            atOnce.tell(y);
        });
        // What was read last ahead of a fault begins no item of the next text.
        for (String older : new String[] {"r", "t", "h", "c", "c5;r"}) {
            for (String newer : new String[] {"5;", "100 5;", "00 5;", ";", "! 5;", "rr 5;", "99 5;"}) {
                SilentRent x = new SilentRent();
                Due.typed(x, older);
                due.is("house() of '" + older + "'", x.house(), -10 - older.length());
                x.clear();
                Due.typed(x, newer);
                due.is("house() of '" + newer + "' behind that", x.house(), -10);
            }
        }
        twins.alike("after a fuller text with a fault", atOnce, y -> {
            Due.typed(y, Stories.FULL_HOUSE + "x");
            y.house();
            y.clear();
            atOnce.tell(y);
        });
    }
}
