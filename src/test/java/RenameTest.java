import java.util.NoSuchElementException;

/** Promise 13: rename. */
final class RenameTest {
    public static void main(String[] args) {
        changes();
        namesThatAreNone();
        tooLong();
        wouldMeanSomethingElse();
        mainStays();
        orderOfRefusals();
        theRunIsKept();
        Check.finish();
    }

    private static void due(String text, int at, String name, int count, String then) {
        ProgramDesk desk = Check.desk(text);
        String what = "rename " + at + " of " + text + " to " + name;
        Check.is(what, desk.rename(at, Check.pack(name)), count);
        Check.is(what + ", the text", Check.text(desk), then);
        Check.is(what + ", the faults", desk.faults(), 0);
    }

    private static void refused(String text, int at, String name, Class<? extends RuntimeException> due) {
        ProgramDesk desk = Check.desk(text);
        Check.refusesAndKeeps("rename " + at + " of " + text + " to " + name, due, desk, () -> desk.rename(at, Check.pack(name)));
    }

    private static void changes() {
        due("fn f(a){a=a+1;print a;}", 5, "b", 4, "fn f(b){b=b+1;print b;}");
        due("fn f(a){a=a+1;print a;}", 20, "longer", 4, "fn f(longer){longer=longer+1;print longer;}");
        due("fn f(longer){print longer ;}", 20, "a", 2, "fn f(a){print a ;}");
        due("fn f(a){print a;}", 5, "a", 2, "fn f(a){print a;}");
        due("fn f(a){let a=a;print a;}", 12, "b", 2, "fn f(a){let b=a;print b;}");
        due("fn f(a){let a=a;print a;}", 5, "b", 2, "fn f(b){let a=b;print a;}");
        due("fn f(a){print f(a);}fn g(){print f(1);}", 33, "h", 3, "fn h(a){print h(a);}fn g(){print h(1);}");
        due("fn f(a){print f(a);}", 5, "f", 2, "fn f(f){print f(f);}");
        due("fn f(a){}", 5, "main", 1, "fn f(main){}");
        due("fn f(){let a=1;}fn g(a){print a;}", 21, "b", 2, "fn f(){let a=1;}fn g(b){print b;}");
        due("  fn  f ( a ) { }  ", 10, "zzzzzz", 1, "  fn  f ( zzzzzz ) { }  ");
        due("fn main(n){}", 4, "main", 1, "fn main(n){}");
    }

    private static void namesThatAreNone() {
        ProgramDesk desk = Check.desk("fn f(a){}");
        long[] names = {0, -1, Long.MIN_VALUE, Long.MAX_VALUE, 27, 31, 32, 1 + 27 * 32, 1L << 30, 1L << 32, 1 + (1L << 32),
            1 + (1L << 10), Check.pack("abcdefg"), 1 + (1L << 63), 1 + 27L * (1 << 25)};
        for (long name : names) {
            Check.refusesAndKeeps("rename to the long " + name, IllegalArgumentException.class, desk, () -> desk.rename(5, name));
        }
        for (String keyword : new String[] {"fn", "let", "if", "while", "print", "return"}) {
            refused("fn f(a){}", 5, keyword, IllegalArgumentException.class);
        }
    }

    private static void tooLong() {
        String text = "fn f(a){print a;}" + Check.repeat(" ", 213);
        Check.is("length before", text.length(), 230);
        due(text, 5, "abcdef", 2, "fn f(abcdef){print abcdef;}" + Check.repeat(" ", 213));
        refused(text + " ", 5, "abcdef", IllegalStateException.class);
        refused("fn f(a,b){print a;}" + Check.repeat(" ", 221), 5, "bb", IllegalStateException.class);
        due(Check.repeat(" ", 223) + "fn f(a){print a;}", 228, "b", 2, Check.repeat(" ", 223) + "fn f(b){print b;}");
        String full = "fn f(abcdef){print abcdef;}" + Check.repeat(" ", 213);
        due(full, 5, "a", 2, text);
    }

    private static void wouldMeanSomethingElse() {
        refused("fn f(a,b){}", 5, "b", UnsupportedOperationException.class);
        refused("fn f(){let a=1;let b=2;}", 19, "a", UnsupportedOperationException.class);
        refused("fn f(a){let b=a;print a;}", 12, "a", UnsupportedOperationException.class);
        due("fn f(a){let b=a;print b;}", 12, "a", 2, "fn f(a){let a=a;print a;}");
        refused("fn f(a){let b=a;print b+a;}", 5, "b", UnsupportedOperationException.class);
        due("fn f(a){let b=a;print b;}", 5, "b", 2, "fn f(b){let b=b;print b;}");
        refused("fn f(a){{let b=1;a=b;}}", 5, "b", UnsupportedOperationException.class);
        refused("fn f(){}fn g(){}", 3, "g", UnsupportedOperationException.class);
        refused("fn f(){}fn g(){}", 11, "f", UnsupportedOperationException.class);
        refused("fn f(){let a=1;{let b=a;a=b;}}", 11, "b", UnsupportedOperationException.class);
    }

    private static void mainStays() {
        refused("fn main(){}", 3, "f", UnsupportedOperationException.class);
        refused("fn f(){}", 3, "main", UnsupportedOperationException.class);
        refused("fn main(){}fn f(){}", 14, "main", UnsupportedOperationException.class);
        due("fn main(){let main=1;}", 15, "f", 1, "fn main(){let f=1;}");
        due("fn f(){}fn g(){}", 3, "h", 1, "fn h(){}fn g(){}");
    }

    private static void orderOfRefusals() {
        refused("fn f(", 9, "let", IllegalArgumentException.class);
        refused("fn f(", 9, "a", IllegalStateException.class);
        refused("fn f(a){print b;}", 5, "c", IllegalStateException.class);
        refused("fn f(a){}", 0, "a", NoSuchElementException.class);
        refused("fn f(a){}", -1, "a", NoSuchElementException.class);
        refused("fn f(a){}", 9, "a", NoSuchElementException.class);
        refused("fn f(a){}", 2, "a", NoSuchElementException.class);
        refused("fn f(a){}" + Check.repeat(" ", 231), 8, "abc", NoSuchElementException.class);
    }

    private static void theRunIsKept() {
        ProgramDesk desk = Check.desk("fn main(a){print a;return a+1;}");
        desk.run(7);
        desk.rename(8, Check.pack("bc"));
        Check.is("printed before the change", Check.printed(desk), "7");
        Check.is("given before the change", desk.output(-2), 8);
        Check.is("it still runs", desk.run(9), 0);
        Check.is("and gives", desk.output(-2), 10);
        Check.is("a second change", desk.rename(8, Check.pack("d")), 3);
        desk.type(' ');
        Check.is("and what is typed then", Check.text(desk), "fn main(d){print d;return d+1;} ");
    }
}
