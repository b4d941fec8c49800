import java.util.NoSuchElementException;

/** The edges of rename: promise 13, sentence by sentence. */
final class RenameEdgeTest {
    private static final String TEXT = "fn main(a){print a;return a+1;}";
    private static final int[] FAR = {Integer.MIN_VALUE, Integer.MIN_VALUE + 1, Integer.MAX_VALUE - 1, Integer.MAX_VALUE};

    public static void main(String[] args) {
        lettersOfALong();
        gapsInALong();
        sevenLettersAndOtherBits();
        keywords();
        theSameName();
        references();
        faultsBefore();
        notBound();
        tooLong();
        wouldHaveFaults();
        wouldBeBoundOtherwise();
        mainWouldBeAnother();
        order();
        afterARefusal();
        Check.finish();
    }

    private static ProgramDesk used(String text) {
        ProgramDesk desk = Check.desk(text);
        desk.run(7);
        return desk;
    }

    private static void due(String text, int at, String name, int count, String then) {
        ProgramDesk desk = Check.desk(text);
        String what = "rename " + at + " of " + text + " to " + name;
        Check.is(what, desk.rename(at, Check.pack(name)), count);
        Check.is(what + ", the text", Check.text(desk), then);
        Check.is(what + ", all that is read", Check.state(desk), Check.state(Check.desk(then)));
    }

    private static void refused(String text, int at, String name, Class<? extends RuntimeException> due) {
        ProgramDesk desk = Check.desk(text);
        Check.refusesAndKeeps("rename " + at + " of " + text + " to " + name, due, desk, () -> desk.rename(at, Check.pack(name)));
    }

    private static void lettersOfALong() {
        Check.sentence("given as a long (five bits for each letter, 1 .. 26, the first in the lowest bits, and no other bits set).");
        for (int place = 0; place < 6; place++) {
            for (int letter = 1; letter < 32; letter++) {
                long name = Check.pack("qqqqqq") & ~(31L << 5 * place) | (long) letter << 5 * place;
                ProgramDesk desk = Check.desk("fn f(a){}");
                if (letter <= 26) {
                    StringBuilder due = new StringBuilder("qqqqqq");
                    due.setCharAt(place, (char) (96 + letter));
                    Check.is("letter " + letter + " at " + place, desk.rename(5, name), 1);
                    Check.is("the text", Check.text(desk), "fn f(" + due + "){}");
                } else {
                    Check.refusesAndKeeps("letter " + letter + " at " + place, IllegalArgumentException.class, desk, () -> desk.rename(5, name));
                }
            }
        }
        due("fn f(b){}", 5, "a", 1, "fn f(a){}");
        due("fn f(b){}", 5, "z", 1, "fn f(z){}");
        due("fn f(b){}", 5, "az", 1, "fn f(az){}");
        due("fn f(b){}", 5, "abcdef", 1, "fn f(abcdef){}");
        due("fn f(b){}", 5, "zzzzzz", 1, "fn f(zzzzzz){}");
    }

    private static void gapsInALong() {
        Check.sentence("IllegalArgumentException when the long is no NAME");
        ProgramDesk desk = used(TEXT);
        Check.refusesAndKeeps("no letter", IllegalArgumentException.class, desk, () -> desk.rename(8, 0L));
        for (int place = 0; place < 5; place++) {
            long name = Check.pack("qqqqqq") & ~(31L << 5 * place);
            Check.refusesAndKeeps("letter 0 at " + place, IllegalArgumentException.class, desk, () -> desk.rename(8, name));
            long alone = 1L << 5 * (place + 1);
            Check.refusesAndKeeps("letters 0 up to " + place, IllegalArgumentException.class, desk, () -> desk.rename(8, alone));
        }
    }

    private static void sevenLettersAndOtherBits() {
        Check.sentence("and no other bits set). Answers how many tokens were changed");
        ProgramDesk desk = used(TEXT);
        Check.refusesAndKeeps("seven letters", IllegalArgumentException.class, desk, () -> desk.rename(8, Check.pack("abcdefg")));
        Check.refusesAndKeeps("seven times z", IllegalArgumentException.class, desk, () -> desk.rename(8, Check.pack("zzzzzzz")));
        Check.refusesAndKeeps("twelve letters", IllegalArgumentException.class, desk, () -> desk.rename(8, Check.pack("abcdefabcdef")));
        for (int bit = 30; bit < 64; bit++) {
            long other = 1L << bit;
            Check.refusesAndKeeps("bit " + bit, IllegalArgumentException.class, desk, () -> desk.rename(8, Check.pack("abcdef") | other));
            Check.refusesAndKeeps("bit " + bit + " behind b", IllegalArgumentException.class, desk, () -> desk.rename(8, 2L | other));
        }
        for (long name : new long[] {-1, -2, Long.MIN_VALUE, Long.MAX_VALUE, Integer.MIN_VALUE, Integer.MAX_VALUE}) {
            Check.refusesAndKeeps("the long " + name, IllegalArgumentException.class, desk, () -> desk.rename(8, name));
        }
    }

    private static void keywords() {
        Check.sentence("IllegalArgumentException when the long is no NAME");
        for (String word : new String[] {"fn", "let", "if", "while", "print", "return"}) {
            refused("fn f(a){}", 5, word, IllegalArgumentException.class);
            String shorter = word.substring(0, word.length() - 1);
            due("fn f(a){}", 5, shorter, 1, "fn f(" + shorter + "){}");
        }
        due("fn f(a){}", 5, "fnn", 1, "fn f(fnn){}");
        due("fn f(a){}", 5, "prints", 1, "fn f(prints){}");
        due("fn f(a){}", 5, "main", 1, "fn f(main){}");
    }

    private static void theSameName() {
        Check.sentence("Answers how many tokens were changed (also to the name that it bears).");
        due("fn f(a){a=a;}", 5, "a", 3, "fn f(a){a=a;}");
        due("fn f(a){a=a;}", 3, "f", 1, "fn f(a){a=a;}");
        due("fn main(abcdef){}", 3, "main", 1, "fn main(abcdef){}");
        String full = Check.filled("fn f(a){print f(a);}", 240);
        due(full, 3, "f", 2, full);
    }

    private static void references() {
        Check.sentence("Changes the name that the token at a place bears, in all its references, to another one");
        due("fn f(a){}", 5, "b", 1, "fn f(b){}");
        for (int at : new int[] {5, 6, 9, 10, 12, 13}) {
            due("fn f(aa){aa=aa;}", at, "b", 3, "fn f(b){b=b;}");
        }
        due("fn f(a){a=a;}", 8, "bcdefg", 3, "fn f(bcdefg){bcdefg=bcdefg;}");
        due("fn f(a){print g(a);}fn g(a){print g(a);}", 14, "h", 3, "fn f(a){print h(a);}fn h(a){print h(a);}");
        due("fn f(a){let a=a;{let a=a;a=a;}a=a;}", 12, "b", 4, "fn f(a){let b=a;{let a=b;a=a;}b=b;}");
    }

    private static void faultsBefore() {
        Check.sentence("IllegalStateException when there are faults; NoSuchElementException");
        refused("fn f(a){", 5, "b", IllegalStateException.class);
        refused("fn f(a,a){}", 5, "b", IllegalStateException.class);
        refused("fn f(a){print b;}", 5, "b", IllegalStateException.class);
        refused("fn f(a){print g();}", 5, "b", IllegalStateException.class);
        refused("fn f(a){print f();}", 5, "b", IllegalStateException.class);
        refused("fn f(a){}fn f(){}", 5, "b", IllegalStateException.class);
    }

    private static void notBound() {
        Check.sentence("NoSuchElementException when no token at this place is bound; IllegalStateException");
        ProgramDesk desk = used(TEXT + " ");
        int[] places = {-1, 0, 2, 7, 9, 11, 16, 18, 30, 31, 32, 240};
        for (int at : places) {
            Check.refusesAndKeeps("at " + at, NoSuchElementException.class, desk, () -> desk.rename(at, 2L));
        }
        for (int at : FAR) {
            Check.refusesAndKeeps("at " + at, NoSuchElementException.class, desk, () -> desk.rename(at, 2L));
        }
        ProgramDesk empty = new ProgramDesk();
        Check.refusesAndKeeps("of no text", NoSuchElementException.class, empty, () -> empty.rename(0, 2L));
    }

    private static void tooLong() {
        Check.sentence("IllegalStateException when the text would have more than 240 characters");
        due(Check.filled("fn f(a){}", 239), 5, "bb", 1, Check.filled("fn f(bb){}", 240));
        refused(Check.filled("fn f(a){}", 240), 5, "bb", IllegalStateException.class);
        due(Check.filled("fn f(a){}", 240), 5, "b", 1, Check.filled("fn f(b){}", 240));
        due(Check.filled("fn f(aa){}", 240), 5, "b", 1, Check.filled("fn f(b){}", 239));
        due(Check.filled("fn f(a){a=a;}", 225), 8, "abcdef", 3, Check.filled("fn f(abcdef){abcdef=abcdef;}", 240));
        refused(Check.filled("fn f(a){a=a;}", 226), 8, "abcdef", IllegalStateException.class);
        due(Check.filled("fn f(a){a=a;}", 228), 8, "abcde", 3, Check.filled("fn f(abcde){abcde=abcde;}", 240));
        refused(Check.filled("fn f(a){a=a;}", 229), 8, "abcde", IllegalStateException.class);
        due(Check.repeat(" ", 230) + "fn f(a){}", 235, "bb", 1, Check.repeat(" ", 230) + "fn f(bb){}");
        refused(Check.repeat(" ", 231) + "fn f(a){}", 236, "bb", IllegalStateException.class);
    }

    private static void wouldHaveFaults() {
        Check.sentence("UnsupportedOperationException when it would have faults then");
        refused("fn f(a,b){}", 5, "b", UnsupportedOperationException.class);
        refused("fn f(a,b){}", 7, "a", UnsupportedOperationException.class);
        refused("fn f(){let a=1;let b=2;}", 11, "b", UnsupportedOperationException.class);
        refused("fn f(){let a=1;let b=2;}", 19, "a", UnsupportedOperationException.class);
        refused("fn f(){}fn g(){}", 3, "g", UnsupportedOperationException.class);
        refused("fn f(){}fn g(){}", 11, "f", UnsupportedOperationException.class);
        refused("fn f(){}fn g(a){print f();}", 3, "g", UnsupportedOperationException.class);
        due("fn f(a){let b=2;}", 12, "a", 1, "fn f(a){let a=2;}");
        due("fn f(){let a=1;{let b=2;}}", 20, "a", 1, "fn f(){let a=1;{let a=2;}}");
        due("fn f(){}fn g(a){}", 13, "f", 1, "fn f(){}fn g(f){}");
    }

    private static void wouldBeBoundOtherwise() {
        Check.sentence("or one of its tokens would be bound to another one than now");
        refused("fn f(a){let b=1;print a;}", 12, "a", UnsupportedOperationException.class);
        refused("fn f(a){let b=1;a=2;}", 12, "a", UnsupportedOperationException.class);
        refused("fn f(a){let b=1;print a;}", 5, "b", UnsupportedOperationException.class);
        refused("fn f(a){let b=1;{a=b;}}", 5, "b", UnsupportedOperationException.class);
        refused("fn f(a){let b=1;print b+a;}", 5, "b", UnsupportedOperationException.class);
        due("fn f(a){let b=a;print b;}", 5, "b", 2, "fn f(b){let b=b;print b;}");
        due("fn f(a){let b=a;print b;}", 12, "a", 2, "fn f(a){let a=a;print a;}");
        due("fn f(a){{let b=1;print b;}print a;}", 5, "b", 2, "fn f(b){{let b=1;print b;}print b;}");
        due("fn f(a){print a;let b=1;}", 5, "b", 2, "fn f(b){print b;let b=1;}");
        refused("fn f(a){print a;let b=1;a=b;}", 5, "b", UnsupportedOperationException.class);
    }

    private static void mainWouldBeAnother() {
        Check.sentence("or main would be another function, or be there or not otherwise than now.");
        refused("fn main(){}", 3, "f", UnsupportedOperationException.class);
        refused("fn main(){}fn f(){print main();}", 24, "g", UnsupportedOperationException.class);
        refused("fn f(){}", 3, "main", UnsupportedOperationException.class);
        refused("fn f(){}fn g(){}", 11, "main", UnsupportedOperationException.class);
        refused("fn f(){}fn main(){}", 3, "main", UnsupportedOperationException.class);
        due("fn main(){}fn f(){}", 14, "g", 1, "fn main(){}fn g(){}");
        due("fn f(){}fn main(){}", 3, "g", 1, "fn g(){}fn main(){}");
        due("fn main(main){print main;}", 8, "f", 2, "fn main(f){print f;}");
        due("fn main(f){print f;}", 8, "main", 2, "fn main(main){print main;}");
    }

    private static void order() {
        Check.sentence("Tested in this order: IllegalArgumentException when the long is no NAME; IllegalStateException when there are faults; NoSuchElementException when no token at this place is bound;");
        refused("fn f(a){?}", 5, "let", IllegalArgumentException.class);
        refused("fn f(a){?}", -1, "let", IllegalArgumentException.class);
        refused("fn f(a){}", -1, "let", IllegalArgumentException.class);
        refused(Check.filled("fn f(a){}", 240), 5, "let", IllegalArgumentException.class);
        refused("fn main(a){}", 3, "abcdefg", IllegalArgumentException.class);
        refused("fn f(a){?}", -1, "b", IllegalStateException.class);
        refused("fn f(a){print b;}", 14, "b", IllegalStateException.class);
        refused("fn main(a){?}", 3, "b", IllegalStateException.class);
        refused(Check.filled("fn f(a){}", 240), 4, "abcdef", NoSuchElementException.class);
        refused("fn main(a){}", 0, "main", NoSuchElementException.class);
        // Too long, and something else would be wrong too: one character fewer shows it.
        refused(Check.filled("fn f(a,bb){}", 240), 5, "bb", IllegalStateException.class);
        refused(Check.filled("fn f(a,bb){}", 239), 5, "bb", UnsupportedOperationException.class);
        refused(Check.filled("fn f(a){let bb=1;print a;}", 239), 5, "bb", IllegalStateException.class);
        refused(Check.filled("fn f(a){let bb=1;print a;}", 238), 5, "bb", UnsupportedOperationException.class);
        refused(Check.filled("fn f(){}", 238), 3, "main", IllegalStateException.class);
        refused(Check.filled("fn f(){}", 237), 3, "main", UnsupportedOperationException.class);
        refused(Check.filled("fn main(){}", 239), 3, "abcdef", IllegalStateException.class);
        refused(Check.filled("fn main(){}", 238), 3, "abcdef", UnsupportedOperationException.class);
    }

    private static void afterARefusal() {
        Check.sentence("A method that throws changes nothing.");
        ProgramDesk desk = used("fn main(a,b){let c=a+b;print c;return a;}");
        Check.refusesAndKeeps("a clash", UnsupportedOperationException.class, desk, () -> desk.rename(8, 2L));
        Check.refusesAndKeeps("no name", IllegalArgumentException.class, desk, () -> desk.rename(8, 0L));
        Check.refusesAndKeeps("no token", NoSuchElementException.class, desk, () -> desk.rename(7, 4L));
        Check.is("a good one afterwards", desk.rename(8, Check.pack("dd")), 3);
        Check.refusesAndKeeps("another clash", UnsupportedOperationException.class, desk, () -> desk.rename(8, 2L));
        desk.type(';');
        Check.refusesAndKeeps("a fault", IllegalStateException.class, desk, () -> desk.rename(8, 4L));
        desk.remove(desk.length() - 1, 1);
        Check.is("the text", Check.text(desk), "fn main(dd,b){let c=dd+b;print c;return dd;}");
        Check.is("a run", desk.run(9), 0);
        Check.is("what it gave", desk.output(-2), 9);
    }
}
