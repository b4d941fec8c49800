import java.util.NoSuchElementException;

/** Promises 15 and 16: run and output. */
final class RunTest {
    public static void main(String[] args) {
        values();
        order();
        statements();
        variables();
        parametersOfMain();
        openCalls();
        counted();
        kept();
        refusals();
        wrongQuestions();
        Check.finish();
    }

    /** The outcome, what was printed, what was given. */
    private static void due(String text, int x, int outcome, String printed, int given) {
        ProgramDesk desk = Check.desk(text);
        String what = "run " + x + " of " + text;
        Check.is(what, desk.run(x), outcome);
        Check.is(what + ", printed", Check.printed(desk), printed);
        Check.is(what + ", given", desk.output(-2), given);
    }

    private static void values() {
        due("fn main(){print 1+2*3-4;print (1+2)*3;print 9-3-2;print 2*3*4;}", 0, 0, "3 9 4 24", 0);
        due("fn main(){print 1<2;print 2<1;print 1<1;print 1+1<3;print (0-1)<0;}", 0, 0, "1 0 0 1 1", 0);
        due("fn main(){print 0007;print 9999;}", 0, 0, "7 9999", 0);
        due("fn main(x){print x+1;print x*2;print 0-x-2;}", Integer.MAX_VALUE, 0, "-2147483648 -2 2147483647", 0);
        due("fn main(x){print x*x;print x-1;}", Integer.MIN_VALUE, 0, "0 2147483647", 0);
        due("fn main(x){print 9999*9999*9999;}", 0, 0, String.valueOf(9999 * 9999 * 9999), 0);
        due("fn main(x){return x;}", -5, 0, "", -5);
    }

    private static void order() {
        due("fn p(a){print a;return a;}fn main(){print p(1)+p(2)*p(3)-p(4)<p(5);}", 0, 0, "1 2 3 4 5 1", 0);
        due("fn p(a){print a;return a;}fn q(a,b,c){return a*b-c;}fn main(){print q(p(7),p(8),p(9));}", 0, 0, "7 8 9 47", 0);
        due("fn p(a){print a;return a;}fn main(){let b=p(p(1)+p(2));print p(3)*0;}", 0, 0, "1 2 3 3 0", 0);
    }

    private static void statements() {
        due("fn main(){if 0{print 1;}if 1{print 2;}if 0-1{print 3;}{print 4;}}", 0, 0, "2 3 4", 0);
        due("fn main(n){while n{print n;n=n-1;}return 5;}", 3, 0, "3 2 1", 5);
        due("fn main(n){while n{print n;n=n-1;}}", 0, 0, "", 0);
        due("fn main(n){while n{if n<3{return n;}n=n-1;}print 9;}", 7, 0, "", 2);
        due("fn main(){return 1;return 2;print 3;}", 0, 0, "", 1);
        due("fn f(){}fn main(){print f();}", 0, 0, "0", 0);
        due("fn f(a){if a{return 3;}}fn main(){print f(1);print f(0);}", 0, 0, "3 0", 0);
        due("fn main(n){let i=0;while i<n{let j=0;while j<i{print i*10+j;j=j+1;}i=i+1;}}", 3, 0, "10 20 21", 0);
        due("fn main(){}", 0, 0, "", 0);
    }

    private static void variables() {
        due("fn f(n){n=n+1;return n;}fn main(n){print f(n);print n;}", 4, 0, "5 4", 0);
        due("fn f(n){let a=n;if n{let b=f(n-1);}return a;}fn main(){print f(3);}", 0, 0, "3", 0);
        due("fn main(a){let b=a;{let a=b+1;let b=a+1;print a;print b;}print a;print b;}", 1, 0, "2 3 1 1", 0);
        due("fn main(n){while n{let a=0;a=a+1;print a;n=n-1;}}", 2, 0, "1 1", 0);
        due("fn main(n){let a=5;while n{print a;let a=6;print a;n=n-1;}print a;}", 2, 0, "5 6 5 6 5", 0);
        due("fn fib(n){if n<2{return n;}return fib(n-1)+fib(n-2);}fn main(n){return fib(n);}", 7, 0, "", 13);
        due("fn main(main){if main<1{return 0;}return main(main-1)+main;}", 4, 0, "", 10);
    }

    private static void parametersOfMain() {
        due("fn main(){return 3;}", 8, 0, "", 3);
        due("fn main(a,b,c){print a;print b;print c;}", 8, 0, "8 0 0", 0);
        due("fn f(a){return a;}fn main(a,b){if a{print main(0,a)+b;}return b;}", 8, 0, "8", 0);
    }

    private static void openCalls() {
        String text = "fn f(k){print k;if k<1{return 0;}return f(k-1)+2;}fn main(k){return f(k)+1;}";
        due(text, 6, 0, "6 5 4 3 2 1 0", 13);
        due(text, 7, 2, "7 6 5 4 3 2 1", 0);
        due("fn main(){print 1;return main();}", 0, 2, "1 1 1 1 1 1 1 1", 0);
        due("fn main(n){print n;if n<7{print main(n+1);}while 0-n+8{n=n+1;}return n;}", 0, 0, "0 1 2 3 4 5 6 7 8 8 8 8 8 8 8", 8);
        due("fn f(){return 1;}fn main(n){if n<7{return main(n+1);}return f();}", 0, 2, "", 0);
        due("fn f(){return 1;}fn main(n){if n<7{return main(n+1);}return f();}", 1, 0, "", 1);
    }

    private static void counted() {
        ProgramDesk turns = Check.desk("fn main(n){while n{n=n-1;}return 7;}");
        Check.is("299 turns and main", turns.run(299), 0);
        Check.is("what it gave", turns.output(-2), 7);
        Check.is("300 turns and main", turns.run(300), 1);
        Check.is("nothing was given", turns.output(-2), 0);
        ProgramDesk calls = Check.desk("fn f(){}fn main(n){while n{n=n-1+f();print n;}}");
        Check.is("149 turns and calls and main", calls.run(149), 0);
        Check.is("150 turns and 149 calls and main", calls.run(150), 1);
        Check.is("printed by them", calls.output(-1), 149);
        ProgramDesk last = Check.desk("fn f(){print 5;}fn main(n){while n{n=n-1;}print f();print f();}");
        Check.is("a call is the 300th", last.run(297), 0);
        Check.is("a call would be the 301st", last.run(298), 1);
        Check.is("it printed before", Check.printed(last), "5 0");
        // The count is full and 8 calls are open: the depth is looked at first.
        due("fn main(n){if n<7{return main(n+1);}let i=0;while i<292{i=i+1;}return main(0);}", 0, 2, "", 0);
        due("fn main(n){if n<7{return main(n+1);}let i=0;while i<293{i=i+1;}return main(0);}", 1, 1, "", 0);
        due("fn main(n){if n<7{return main(n+1);}let i=0;while i<293{i=i+1;}return 1;}", 0, 1, "", 0);
        due("fn main(n){if n<7{return main(n+1);}let i=0;while i<292{i=i+1;}return 1;}", 0, 0, "", 1);
        due("fn main(){while 1{}}", 0, 1, "", 0);
    }

    private static void kept() {
        ProgramDesk desk = Check.desk("fn main(n){while n{print n;n=n-1;}return 4;}");
        desk.run(32);
        Check.is("32 printed", desk.output(-1), 32);
        Check.is("the 32nd", desk.output(31), 1);
        Check.refuses("the 33rd", NoSuchElementException.class, () -> desk.output(32));
        desk.run(33);
        Check.is("33 printed", desk.output(-1), 33);
        Check.is("the 32nd of 33", desk.output(31), 2);
        Check.refuses("the 33rd of 33", NoSuchElementException.class, () -> desk.output(32));
        desk.run(1);
        Check.is("1 printed", Check.printed(desk), "1");
        Check.refuses("the second of 1", NoSuchElementException.class, () -> desk.output(1));
    }

    private static void refusals() {
        ProgramDesk desk = Check.desk("fn main(n){print n;return n;}");
        desk.run(6);
        desk.type(';');
        Check.refusesAndKeeps("run with faults", IllegalStateException.class, desk, () -> desk.run(1));
        desk.remove(0, desk.length());
        Check.refusesAndKeeps("run nothing", NoSuchElementException.class, desk, () -> desk.run(1));
        Check.is("the latest output", Check.printed(desk), "6");
        Check.is("what was given", desk.output(-2), 6);
        ProgramDesk other = Check.desk("fn f(main){let g=main;}");
        Check.refuses("no function main", NoSuchElementException.class, () -> other.run(1));
        ProgramDesk faulty = Check.desk("fn f(){a=1;}");
        Check.refuses("faults and no main", IllegalStateException.class, () -> faulty.run(1));
    }

    private static void wrongQuestions() {
        ProgramDesk desk = Check.desk("fn main(){print 3;}");
        Check.refuses("output(0) before a run", NoSuchElementException.class, () -> desk.output(0));
        Check.is("output(-1) before a run", desk.output(-1), 0);
        Check.is("output(-2) before a run", desk.output(-2), 0);
        desk.run(0);
        Check.is("output(0)", desk.output(0), 3);
        Check.refuses("output(1)", NoSuchElementException.class, () -> desk.output(1));
        Check.refuses("output(-3)", NoSuchElementException.class, () -> desk.output(-3));
        Check.refuses("output(least)", NoSuchElementException.class, () -> desk.output(Integer.MIN_VALUE));
        Check.refuses("output(greatest)", NoSuchElementException.class, () -> desk.output(Integer.MAX_VALUE));
    }
}
