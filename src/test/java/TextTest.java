/** Promises 1 to 7: a new object, the text, what it tells. */
public final class TextTest {
    private static final Due due = new Due("TextTest");

    public static void main(String[] args) {
        aNewObject();
        bytes();
        clearing();
        items();
        faults();
        faultChangesNothing();
        readAnew();
        rooms();
        tenants();
        chairs();
        due.end();
    }

    private static void aNewObject() {
        SilentRent x = new SilentRent();
        for (int what = 0; what <= 5; what++) {
            due.is("new: count(" + what + ")", x.count(what), 0);
        }
        for (int what = 0; what <= 4; what++) {
            due.is("new: now(" + what + ")", x.now(what), 0);
        }
        due.is("new: room(0, 0)", x.room(0, 0), SilentRent.BAD);
        due.is("new: tenant(0, 0)", x.tenant(0, 0), SilentRent.BAD);
        due.is("new: chair(0)", x.chair(0), SilentRent.BAD);
        due.is("new: undo()", x.undo(), SilentRent.STATE);
        due.is("new: back(0)", x.back(0), SilentRent.STATE);
        due.is("new: trace()", x.trace(), 0);
        due.is("new: house()", x.house(), 0);
    }

    private static void bytes() {
        SilentRent x = new SilentRent();
        due.is("type(-1)", x.type(-1), SilentRent.BAD);
        due.is("type(256)", x.type(256), SilentRent.BAD);
        due.is("type(0)", x.type(0), 1);
        due.is("type(255)", x.type(255), 2);
        for (int i = 3; i <= 200; i++) {
            due.is("byte " + i, x.type(32), i);
        }
        due.is("byte 201", x.type(32), SilentRent.FULL);
        due.is("byte 201, BAD first", x.type(256), SilentRent.BAD);
        due.is("count(5) of a full text", x.count(5), 200);
    }

    private static void clearing() {
        SilentRent x = new SilentRent();
        due.is("clear() of nothing", x.clear(), 0);
        Due.typed(x, "r24;");
        due.is("clear()", x.clear(), 4);
        due.is("clear() again", x.clear(), 0);
        due.is("house() of a cleared text", x.house(), 0);
        due.is("count(0)", x.count(0), 0);
    }

    private static int read(String text) {
        SilentRent x = new SilentRent();
        Due.typed(x, text);
        return x.house();
    }

    private static void items() {
        due.is("no item", read(""), 0);
        due.is("blanks", read("   "), 0);
        due.is("a room", read("r0;"), 1);
        due.is("blanks between tokens", read("  r  24  ;  "), 1);
        due.is("numbers side by side with letters", read("t12 12 9 9;t0 0 0 1;h0 1;h 0 1 ;h1 0;c63;c0;"), 7);
        due.is("six rooms", read("r0;r1;r2;r3;r4;r5;"), 6);
        due.is("six tenants", read("t0 0 0 1;t0 0 0 1;t0 0 0 1;t0 0 0 1;t0 0 0 1;t0 0 0 1;"), 6);
        due.is("five chairs", read("c0;c1;c2;c3;c63;"), 5);
        due.is("chairs ahead of tenants", read("c3;t0 0 0 1;r5;"), 3);
    }

    private static void fault(String text, int place) {
        due.is("house() of '" + text + "'", read(text), -10 - place);
    }

    private static void faults() {
        fault("x", 0);
        fault("rt 1;", 0);
        fault(" tt0 0 0 1;", 1);
        fault("ra1;", 0);
        fault("rz1;", 0);
        fault("r1a;", 2);
        fault("R1;", 0);
        fault("r`1;", 1);
        fault("r{1;", 1);
        fault("r/1;", 1);
        fault("r:1;", 1);
        fault("r\t1;", 1);
        fault("r 1\n;", 3);
        fault("r-1;", 1);
        fault("5;", 0);
        fault(";", 0);
        fault("r1;;", 3);
        fault("r;", 1);
        fault("rr", 0);
        fault("r r1;", 2);
        fault("r25;", 1);
        fault("r 99;", 2);
        fault("r 100;", 2);
        fault("r 4294967297;", 2);
        fault("r 00;", 2);
        fault("r 01;", 2);
        fault("r 1 2;", 4);
        fault("r1x;", 2);
        fault("r1;r0;r0;r0;r0;r0;r", 18);
        fault("r1;r0;r0;r0;r0;r0; r99", 19);
        fault("t0 0 0 1;t0 0 0 1;t0 0 0 1;t0 0 0 1;t0 0 0 1;t0 0 0 1;t0 0 0 1;", 54);
        fault("c0;c0;c0;c0;c0; c0;", 16);
        fault("t13 0 0 1;", 1);
        fault("t0 13 0 1;", 3);
        fault("t0 0 10 1;", 5);
        fault("t0 0 0 0;", 7);
        fault("t0 0 0 10;", 7);
        fault("t0 0 0;", 6);
        fault("t0 0 0 1 1;", 9);
        fault("c64;", 1);
        fault("h0 1;", 1);
        fault("t0 0 0 1;h1 0;", 10);
        fault("t0 0 0 1;h0 1;t0 0 0 1;", 12);
        fault("t0 0 0 1;t0 0 0 1;h1 1;", 21);
        fault("t0 0 0 1;t0 0 0 1;h1 2;", 21);
        fault("t0 0 0 1;t0 0 0 1;h2 1;", 19);
        fault("r", 1);
        fault("r ", 2);
        fault("r 1", 3);
        fault("r 1  ", 5);
        fault("r1;t1 2", 7);
        fault("r1;t1 2 A", 8);
        fault("r1;q !", 3);
        fault("r 1" + (char) 200 + ";", 3);
    }

    private static void faultChangesNothing() {
        SilentRent x = Due.told("r3;t0 1 2 3;t4 5 6 7;h0 1;c3;");
        x.moves(0, 0);
        x.book(0, 1);
        x.keep(0);
        Due.typed(x, "r9;t1 1 1 1;c9;h0 0;");
        due.is("a fault", x.house(), -28);
        due.is("the text stays", x.count(5), 20);
        due.is("the rooms stay", x.count(0), 1);
        due.is("the price stays", x.room(0, 0), 3);
        due.is("the tenants stay", x.count(1), 2);
        due.is("sleep stays", x.tenant(1, 0), 4);
        due.is("hearing stays", x.tenant(0, 9), 2);
        due.is("the chair stays", x.chair(0), 3);
        due.is("who lives there stays", x.room(0, 1), 0);
        due.is("the book stays", x.count(3), 1);
        due.is("the image stays", x.back(0), 0);
        due.is("what may be undone stays", x.undo(), 0);
    }

    private static void readAnew() {
        SilentRent x = Due.told("r3;t0 0 2 3;t4 5 6 7;h0 1;h1 0;c3;");
        x.moves(0, 0);
        x.talks(0, 24, 0);
        x.talks(1, 2, 1);
        x.evening();
        x.talks(0, 24, 0);
        x.book(0, 1);
        x.keep(0);
        x.keep(1);
        x.mark(5, 0);
        due.is("all debts ahead of the new house", x.now(1), 3);
        Due.typed(x, "r1;r2;t1 1 1 1;t2 2 2 2;");
        due.is("house()", x.house(), 4);
        due.is("the text is empty", x.count(5), 0);
        due.is("count(0)", x.count(0), 2);
        due.is("count(2)", x.count(2), 0);
        due.is("the book is empty", x.count(3), 0);
        due.is("nothing may be undone", x.count(4), 0);
        due.is("undo()", x.undo(), SilentRent.STATE);
        due.is("image 0 is gone", x.back(0), SilentRent.STATE);
        due.is("image 1 is gone", x.back(1), SilentRent.STATE);
        due.is("the day", x.now(0), 0);
        due.is("debts", x.now(1), 0);
        due.is("nobody lives in a room", x.now(2), 0);
        for (int t = 0; t < 2; t++) {
            due.is("home", x.tenant(t, 4), SilentRent.NONE);
            due.is("talked", x.tenant(t, 5), 0);
            due.is("pays", x.tenant(t, 6), 0);
            due.is("hears nobody", x.tenant(t, 9), 0);
        }
        due.is("the trace goes on", x.trace(), 100001);
        due.is("an empty text", x.house(), 0);
        due.is("no rooms", x.count(0), 0);
        due.is("no tenants", x.count(1), 0);
    }

    private static void rooms() {
        SilentRent x = Due.told("r24;r12;r0;t0 0 0 1;t12 0 0 1;t12 12 0 1;");
        due.is("room(0, 0)", x.room(0, 0), 24);
        due.is("room(0, 2)", x.room(0, 2), 1);
        due.is("room(1, 2)", x.room(1, 2), 3);
        due.is("room(2, 2)", x.room(2, 2), 7);
        due.is("room(2, 1)", x.room(2, 1), SilentRent.NONE);
        x.moves(1, 2);
        due.is("room(2, 1) with 1 in it", x.room(2, 1), 1);
        due.is("room(1, 1)", x.room(1, 1), SilentRent.NONE);
        due.is("room(3, 0)", x.room(3, 0), SilentRent.BAD);
        due.is("room(-1, 0)", x.room(-1, 0), SilentRent.BAD);
        due.is("room(-9, 1)", x.room(-9, 1), SilentRent.BAD);
        due.is("room(0, 3)", x.room(0, 3), SilentRent.BAD);
        due.is("room(0, -1)", x.room(0, -1), SilentRent.BAD);
    }

    private static void tenants() {
        SilentRent x = Due.told("r7;t5 4 3 2;t12 11 9 8;t1 2 3 4;h1 0;h1 2;h0 1;h1 0;");
        int[] first = {5, 4, 3, 2, SilentRent.NONE, 0, 0, 0, 19, 2};
        int[] second = {12, 11, 9, 8, SilentRent.NONE, 0, 0, 0, 12, 5};
        for (int what = 0; what < 10; what++) {
            due.is("tenant(0, " + what + ")", x.tenant(0, what), first[what]);
            due.is("tenant(1, " + what + ")", x.tenant(1, what), second[what]);
        }
        x.moves(0, 0);
        x.talks(0, 10, 1);
        due.is("tenant(0, 4)", x.tenant(0, 4), 0);
        due.is("tenant(0, 5)", x.tenant(0, 5), 10);
        due.is("tenant(0, 6)", x.tenant(0, 6), 0);
        due.is("tenant(0, 8)", x.tenant(0, 8), 19);
        due.is("tenant(1, 5)", x.tenant(1, 5), 0);
        due.is("tenant(1, 6)", x.tenant(1, 6), 10);
        due.is("tenant(1, 8)", x.tenant(1, 8), 2);
        x.talks(0, 5, 1);
        due.is("tenant(1, 6) more than free", x.tenant(1, 6), 15);
        due.is("tenant(1, 8) is 0 at least", x.tenant(1, 8), 0);
        due.is("tenant(3, 0)", x.tenant(3, 0), SilentRent.BAD);
        due.is("tenant(-1, 0)", x.tenant(-1, 0), SilentRent.BAD);
        due.is("tenant(0, 10)", x.tenant(0, 10), SilentRent.BAD);
        due.is("tenant(0, -1)", x.tenant(0, -1), SilentRent.BAD);
    }

    private static void chairs() {
        SilentRent x = Due.told("c63;c5;t0 0 0 1;c4;t0 0 0 1;");
        due.is("chair(0), tenants there are", x.chair(0), 3);
        due.is("chair(1)", x.chair(1), 1);
        due.is("chair(2)", x.chair(2), 0);
        due.is("chair(3)", x.chair(3), SilentRent.BAD);
        due.is("chair(-1)", x.chair(-1), SilentRent.BAD);
    }
}
