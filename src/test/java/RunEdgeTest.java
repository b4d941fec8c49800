import java.util.NoSuchElementException;

/** The edges of running: promises 15 and 16, sentence by sentence. */
final class RunEdgeTest {
    private static final int LEAST = Integer.MIN_VALUE;
    private static final int GREATEST = Integer.MAX_VALUE;

    public static void main(String[] args) {
        parametersOfMain();
        valuesThatWrap();
        less();
        leftToRight();
        variablesOfACall();
        valuesThatWait();
        ifAndWhile();
        returns();
        lets();
        whatCounts();
        eightCallsOpen();
        threeHundredCounted();
        bothAtOnce();
        faultsOrNoMain();
        indicesOfOutput();
        printedCounts();
        whatMainGave();
        latestRun();
        Check.finish();
    }

    /** The outcome, what was printed (the first 32) and what was given. */
    private static void due(String text, int x, int outcome, String printed, int given) {
        due(Check.desk(text), text, x, outcome, printed, given);
    }

    private static void due(ProgramDesk desk, String text, int x, int outcome, String printed, int given) {
        String what = "run " + x + " of " + text;
        Check.is(what, desk.run(x), outcome);
        Check.is(what + ", printed", Check.printed(desk), printed);
        Check.is(what + ", given", desk.output(-2), given);
    }

    private static void parametersOfMain() {
        Check.sentence("the function main is called, with a number x as its first parameter, and 0 as the others.");
        for (int x : new int[] {LEAST, -1, 0, 1, GREATEST}) {
            due("fn main(){return 5;}", x, 0, "", 5);
            due("fn main(a){return a;}", x, 0, "", x);
            due("fn main(a,b){print b;return a;}", x, 0, "0", x);
            due("fn main(a,b,c){print b;print c;return a;}", x, 0, "0 0", x);
        }
        String again = "fn main(a,b){print b;b=a+1;let c=b;return c;}";
        ProgramDesk desk = Check.desk(again);
        due(desk, again, 4, 0, "0", 5);
        due(desk, again, 6, 0, "0", 7);
        due("fn f(a){return a;}fn main(a){return f(2)+a;}fn g(a){}", 3, 0, "", 5);
    }

    private static void valuesThatWrap() {
        Check.sentence("Values are ints, + - * wrap");
        String text = "fn main(x){print x+1;print x-1;print x*2;print x*x;print 0-x;}";
        due(text, GREATEST, 0, "-2147483648 2147483646 -2 1 -2147483647", 0);
        due(text, GREATEST - 1, 0, "2147483647 2147483645 -4 4 -2147483646", 0);
        due(text, LEAST, 0, "-2147483647 2147483647 0 0 -2147483648", 0);
        due(text, LEAST + 1, 0, "-2147483646 -2147483648 2 1 2147483647", 0);
        due("fn main(x){print x*x;}", 46340, 0, "2147395600", 0);
        due("fn main(x){print x*x;}", 46341, 0, "-2147479015", 0);
        due("fn main(x){print x*(0-1);return x+x;}", LEAST, 0, "-2147483648", 0);
        due("fn main(){print 0;print 9999;print 0009;print 9999*9999;}", 0, 0, "0 9999 9 99980001", 0);
    }

    private static void less() {
        Check.sentence("a < b is 1 or 0.");
        due("fn main(x){print x<0;print 0<x;print x<x;}", -1, 0, "1 0 0", 0);
        due("fn main(x){print x<0;print 0<x;print x<x;}", 0, 0, "0 0 0", 0);
        due("fn main(x){print x<0;print 0<x;print x<x;}", 1, 0, "0 1 0", 0);
        // The difference of these would wrap.
        due("fn main(x){print x<x-1;print x-1<x;}", LEAST, 0, "1 0", 0);
        due("fn main(x){print x<1;print 1<x;}", LEAST, 0, "1 0", 0);
        due("fn main(x){print x<0-2;print 0-2<x;}", GREATEST, 0, "0 1", 0);
    }

    private static void leftToRight() {
        Check.sentence("Expressions of a call, and the two sides of + - * <, are worked out from the left to the right.");
        String p = "fn p(a){print a;return a;}";
        due(p + "fn main(){print p(1)+p(2);}", 0, 0, "1 2 3", 0);
        due(p + "fn main(){print p(1)-p(2);}", 0, 0, "1 2 -1", 0);
        due(p + "fn main(){print p(3)*p(2);}", 0, 0, "3 2 6", 0);
        due(p + "fn main(){print p(1)<p(2);}", 0, 0, "1 2 1", 0);
        due(p + "fn main(){print p(1)+p(2)*p(3);}", 0, 0, "1 2 3 7", 0);
        due(p + "fn main(){print p(9)-p(5)-p(3);}", 0, 0, "9 5 3 1", 0);
        due(p + "fn q(a,b,c){return a*100+b*10+c;}fn main(){print q(p(1),p(2),p(3));}", 0, 0, "1 2 3 123", 0);
        due(p + "fn main(){print 0*p(1);print 1<2+p(2);}", 0, 0, "1 0 2 1", 0);
    }

    private static void variablesOfACall() {
        Check.sentence("Each call has variables of its own (if main has no parameter, x is not used).");
        due("fn f(a){a=a+1;let b=a;return b;}fn main(a){let b=9;print f(a);print a;print b;}", 4, 0, "5 4 9", 0);
        due("fn main(n){let a=n;if 0<n{print main(n-1);}return a;}", 3, 0, "0 1 2", 3);
        due("fn main(){return 0;}", 9, 0, "", 0);
        // Eight calls, each of which looks at all its variables again when the others have ended.
        due("fn main(a,b,c){let d=a*3;let e=c-1;if a<8{let f=main(a+1,a*5,e)+d;print b*100+f;print d-c;}print e*10+a;return e;}",
            1, 0, "-72 3013 27 -63 2511 23 -54 2009 19 -45 1507 15 -36 1005 11 -27 503 7 -18 1 3 -9", -1);
    }

    /** Calls that begin while the values of others wait. */
    private static void valuesThatWait() {
        Check.sentence("Expressions of a call, and the two sides of + - * <, are worked out from the left to the right.");
        StringBuilder names = new StringBuilder("a");
        StringBuilder ones = new StringBuilder("1");
        for (char c = 'b'; c <= 'z'; c++) {
            names.append(',').append(c);
            ones.append(",").append((char) ('0' + (c - 'a') % 10));
        }
        String head = "fn g(" + names + "){return z+y*10;}";
        String text = head + "fn main(n){if n{return g(" + ones.substring(0, ones.length() - 1) + "main(n-1)+1);}return 7;}";
        ProgramDesk desk = Check.desk(text);
        due(desk, text, 6, 0, "", 7 + 6 * 41);
        for (int time = 0; time < 40; time++) {
            due(desk, text, 9, 2, "", 0);
        }
        due(desk, text, 6, 0, "", 7 + 6 * 41);
    }

    private static void ifAndWhile() {
        Check.sentence("An if does its block if its value is not 0; a while again and again, as long as it is not 0.");
        for (int x : new int[] {LEAST, -1, 1, 2, GREATEST}) {
            due("fn main(x){if x{print 1;}print 2;}", x, 0, "1 2", 0);
            due("fn main(x){while x{print 1;x=0;}print 2;}", x, 0, "1 2", 0);
        }
        due("fn main(x){if x{print 1;}print 2;}", 0, 0, "2", 0);
        due("fn main(x){while x{print 1;x=0;}print 2;}", 0, 0, "2", 0);
        due("fn main(x){while x{print x;x=x-1;}}", 2, 0, "2 1", 0);
        due("fn main(x){while x{print x;x=x+1;}}", -2, 0, "-2 -1", 0);
        due("fn main(x){if x{}while 0{}{}}", 1, 0, "", 0);
    }

    private static void returns() {
        Check.sentence("return ends the call with a value; a call that comes to its end gives 0.");
        due("fn main(){}", 5, 0, "", 0);
        due("fn main(){return 0-1;print 1;}", 5, 0, "", -1);
        due("fn main(x){while 1{{if x{return x;}}}}", 5, 0, "", 5);
        due("fn f(x){if x{return 3;}}fn main(){print f(1);print f(0);}", 0, 0, "3 0", 0);
        due("fn f(){return 3;}fn main(){print f();}", 0, 0, "3", 0);
        due("fn f(x){while x{return 3;}let a=7;}fn main(){print 1+f(1)*2;print 1+f(0)*2;}", 0, 0, "7 1", 0);
    }

    private static void lets() {
        Check.sentence("A let gives its variable a value each time.");
        due("fn main(n){while n{let a=0;a=a+1;print a;n=n-1;}}", 3, 0, "1 1 1", 0);
        due("fn main(n){while n{let a=n;print a;n=n-1;}}", 3, 0, "3 2 1", 0);
        due("fn main(a){let a=a+1;print a;{let a=a+1;print a;}print a;}", 1, 0, "2 3 2", 0);
    }

    private static void whatCounts() {
        Check.sentence("Each TURN of a while's block, and each call (that of main, too) counts");
        String loop = "fn main(n){while n{n=n-1;}return 7;}";
        due(loop, 299, 0, "", 7);
        due(loop, 300, 1, "", 0);
        // The last test of a while, an if and a block are none of these.
        due("fn main(n){while n{if 1{{n=n-1;}}}while 0{}while 0{}return 7;}", 299, 0, "", 7);
        due("fn f(){}fn main(n){let i=0;while i<n{i=i+1+f();}return 7;}", 149, 0, "", 7);
        due("fn f(){}fn main(n){let i=0;while i<n{i=i+1+f();}return 7;}", 150, 1, "", 0);
        due("fn main(n){let i=0;while i<n{let j=0;while j<9{j=j+1;}i=i+1;}print i;}", 29, 0, "29", 0);
        due("fn main(n){let i=0;while i<n{let j=0;while j<9{j=j+1;}i=i+1;}print i;}", 30, 1, "", 0);
        due("fn f(){}fn main(n){while n{n=n-1;}print f();print f();}", 297, 0, "0 0", 0);
        due("fn f(){}fn main(n){while n{n=n-1;}print f();print f();}", 298, 1, "0", 0);
    }

    private static void eightCallsOpen() {
        Check.sentence("when 8 calls are open and one more would begin, the run ends with outcome 2");
        String deep = "fn main(n){print n;if n{return main(n-1)+1;}return 1;}";
        due(deep, 7, 0, "7 6 5 4 3 2 1 0", 8);
        due(deep, 8, 2, "8 7 6 5 4 3 2 1", 0);
        due("fn f(){return f();}fn main(){print 1;return f();}", 0, 2, "1", 0);
        // Calls that have ended are not open.
        due("fn f(){return 1;}fn main(){return f()+f()+f()+f()+f()+f()+f()+f()+f()+f();}", 0, 0, "", 10);
        due("fn f(n){return n+1;}fn main(n){if n<6{return main(n+1);}return f(f(f(f(n))));}", 0, 0, "", 10);
        // What is sent is worked out before the call would begin.
        due("fn p(n){print n;}fn main(n){if n<7{return main(n+1);}return p(n);}", 0, 2, "", 0);
        due("fn p(n){print n;}fn main(n){if n<7{return main(n+1);}return p(n);}", 1, 0, "7", 0);
        due("fn main(n){if n<7{return main(n+1);}while 9-n{n=n+1;print n;}return n;}", 0, 0, "8 9", 9);
    }

    private static void threeHundredCounted() {
        Check.sentence("otherwise, when 300 were counted and one more would begin, with outcome 1");
        due("fn main(){while 1{}}", 0, 1, "", 0);
        ProgramDesk turns = Check.desk("fn main(n){while n{print n;n=n-1;}}");
        Check.is("299 turns", turns.run(299), 0);
        Check.is("299 printed", turns.output(-1), 299);
        Check.is("300 turns", turns.run(300), 1);
        Check.is("299 printed, and no more", turns.output(-1), 299);
        Check.is("turns without an end", turns.run(-1), 1);
        Check.is("299 printed again", turns.output(-1), 299);
        ProgramDesk calls = Check.desk("fn f(){print 1;}fn main(n){while 1{let a=f()+f();}}");
        Check.is("calls without an end", calls.run(0), 1);
        // 99 turns with their two calls and main are 298, then a turn and one call.
        Check.is("199 printed", calls.output(-1), 199);
        due("fn main(n){while n{n=n-1;}return 1;}", 299, 0, "", 1);
    }

    private static void bothAtOnce() {
        Check.sentence("the run ends with outcome 2; otherwise, when 300 were counted and one more would begin, with outcome 1");
        String text = "fn main(n,k){if n<7{return main(n+1,k);}let i=0;while i<292{i=i+1;}print 1;return main(n,k);}";
        // 8 calls and 292 turns are 300, and with the eight open another call would begin.
        due(text, 0, 2, "1", 0);
        due(text.replace("292", "291"), 0, 2, "1", 0);
        due(text.replace("292", "293"), 0, 1, "", 0);
        // Only 7 are open: 7 calls and 293 turns.
        due(text.replace("292", "293"), 1, 1, "1", 0);
        due("fn main(n){if n<7{return main(n+1);}let i=0;while i<292{i=i+1;}return 6;}", 0, 0, "", 6);
        due("fn main(n){if n<7{return main(n+1);}let i=0;while i<293{i=i+1;}return 6;}", 0, 1, "", 0);
        Check.sentence("when main ends, with outcome 0.");
        due("fn main(n){if n{return main(n-1);}let i=0;while i<292{i=i+1;}}", 7, 0, "", 0);
        due("fn main(){}", 7, 0, "", 0);
    }

    private static void faultsOrNoMain() {
        Check.sentence("IllegalStateException when there are faults; else NoSuchElementException when there is no main.");
        ProgramDesk desk = Check.desk("fn main(n){print n;return n;}");
        desk.run(6);
        desk.type('?');
        Check.refusesAndKeeps("a fault", IllegalStateException.class, desk, () -> desk.run(1));
        desk.remove(3, 1);
        Check.refusesAndKeeps("a fault and no main", IllegalStateException.class, desk, () -> desk.run(1));
        desk.remove(desk.length() - 1, 1);
        Check.refusesAndKeeps("no main", NoSuchElementException.class, desk, () -> desk.run(1));
        Check.is("the output is still there", Check.printed(desk), "6");
        Check.is("and what was given", desk.output(-2), 6);
        desk.insert(3, 'm');
        Check.is("mended", desk.run(1), 0);
        String[] faulty = {"fn main(){", "fn main(a,a){}", "fn main(){a=1;}", "fn main(){print f();}",
            "fn main(){print main(1);}", "fn main(){}fn main(){}"};
        for (String text : faulty) {
            ProgramDesk other = Check.desk(text);
            Check.refusesAndKeeps("run " + text, IllegalStateException.class, other, () -> other.run(0));
        }
        for (String text : new String[] {"", "  ", "fn f(){}", "fn mai(main){let main=main;}", "fn mainn(){}"}) {
            ProgramDesk other = Check.desk(text);
            Check.refusesAndKeeps("run " + text, NoSuchElementException.class, other, () -> other.run(0));
        }
    }

    private static void indicesOfOutput() {
        Check.sentence("NoSuchElementException when there is none: j is another one, or 32 and more.");
        ProgramDesk desk = Check.desk("fn main(n){while n{print n*10;n=n-1;}return 5;}");
        int[] never = {LEAST, LEAST + 1, -4, -3, 32, 33, 300, GREATEST - 1, GREATEST};
        for (int printed : new int[] {-1, 0, 1, 31, 32, 33, 299}) {
            // Below 0 here: before any run.
            if (printed >= 0) {
                desk.run(printed);
            }
            int count = Math.max(printed, 0);
            Check.is("output(-1) of " + printed, desk.output(-1), count);
            Check.is("output(-2) of " + printed, desk.output(-2), printed < 0 ? 0 : 5);
            for (int j = 0; j < 32; j++) {
                int asked = j;
                if (j < count) {
                    Check.is("output(" + j + ") of " + printed, desk.output(j), (printed - j) * 10);
                } else {
                    Check.refuses("output(" + j + ") of " + printed, NoSuchElementException.class, () -> desk.output(asked));
                }
            }
            for (int j : never) {
                Check.refusesAndKeeps("output(" + j + ") of " + printed, NoSuchElementException.class, desk, () -> desk.output(j));
            }
        }
    }

    private static void printedCounts() {
        Check.sentence("What was printed is the OUTPUT.");
        due("fn f(){print 2;return 9;}fn main(){print 1;let a=f();print a;}", 0, 0, "1 2 9", 0);
        due("fn main(){return 4;}", 0, 0, "", 4);
        Check.sentence("for j = -1 how many values (0 before any run);");
        ProgramDesk none = Check.desk("fn main(n){print n;if n{print n;}}");
        Check.is("before any run", none.output(-1), 0);
        none.run(1);
        Check.is("two", none.output(-1), 2);
        none.run(0);
        Check.is("one", none.output(-1), 1);
        Check.sentence("(All that is printed counts, the first 32 are kept.)");
        ProgramDesk desk = Check.desk("fn main(n){let i=0;while i<n{print i;i=i+1;}}");
        for (int n : new int[] {31, 32, 33, 64}) {
            desk.run(n);
            Check.is("printed of " + n, desk.output(-1), n);
            Check.is("the first of " + n, desk.output(0), 0);
            Check.is("the 31st of " + n, desk.output(30), 30);
        }
        Check.is("the 32nd of 64", desk.output(31), 31);
        ProgramDesk much = Check.desk("fn main(){while 1{" + Check.repeat("print 1;", 27) + "}}");
        Check.is("27 in each of 299 turns", much.run(0), 1);
        Check.is("how many", much.output(-1), 27 * 299);
    }

    private static void whatMainGave() {
        Check.sentence("for j = -2 what main gave (0 with another outcome, or before any run).");
        ProgramDesk desk = Check.desk("fn main(n){print n;if n<0{while 1{}}if 9<n{return main(n);}return n;}");
        Check.is("before any run", desk.output(-2), 0);
        desk.run(4);
        Check.is("outcome 0", desk.output(-2), 4);
        Check.is("outcome 1", desk.run(-1), 1);
        Check.is("given with outcome 1", desk.output(-2), 0);
        Check.is("printed with outcome 1", Check.printed(desk), "-1");
        desk.run(4);
        Check.is("outcome 2", desk.run(10), 2);
        Check.is("given with outcome 2", desk.output(-2), 0);
        Check.is("printed with outcome 2", Check.printed(desk), "10 10 10 10 10 10 10 10");
        for (int x : new int[] {0, 1, 9}) {
            desk.run(x);
            Check.is("given by run " + x, desk.output(-2), x);
        }
    }

    private static void latestRun() {
        Check.sentence("Of the latest run() that did not throw");
        ProgramDesk desk = Check.desk("fn main(n){while n{print n;n=n-1;}return 5;}");
        desk.run(3);
        desk.run(2);
        Check.is("the second run", Check.printed(desk), "2 1");
        Check.refuses("a value of the first run", NoSuchElementException.class, () -> desk.output(2));
        desk.type('?');
        Check.refuses("a run that throws", IllegalStateException.class, () -> desk.run(1));
        Check.is("the output of the second run", Check.printed(desk), "2 1");
        Check.is("what it gave", desk.output(-2), 5);
        desk.remove(0, desk.length());
        Check.refuses("another run that throws", NoSuchElementException.class, () -> desk.run(1));
        Check.is("the output, without a text", Check.printed(desk), "2 1");
    }
}
