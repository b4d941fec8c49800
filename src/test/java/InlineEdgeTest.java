import java.util.NoSuchElementException;

/** The edges of inline: promise 14, sentence by sentence. */
final class InlineEdgeTest {
    private static final int[] FAR = {Integer.MIN_VALUE, Integer.MIN_VALUE + 1, Integer.MAX_VALUE - 1, Integer.MAX_VALUE};

    public static void main(String[] args) {
        whatGoesAndComes();
        howMany();
        faultsBefore();
        noLet();
        calls();
        assignmentsToIt();
        assignmentsToItsExpression();
        otherMeanings();
        tooLong();
        wouldHaveFaults();
        order();
        afterARefusal();
        Check.finish();
    }

    private static void due(String text, int at, int count, String then) {
        ProgramDesk desk = Check.desk(text);
        String what = "inline " + at + " of " + text;
        Check.is(what, desk.inline(at), count);
        Check.is(what + ", the text", Check.text(desk), then);
        Check.is(what + ", all that is read", Check.state(desk), Check.state(Check.desk(then)));
    }

    private static void refused(String text, int at, Class<? extends RuntimeException> due) {
        ProgramDesk desk = Check.desk(text);
        Check.refusesAndKeeps("inline " + at + " of " + text, due, desk, () -> desk.inline(at));
    }

    private static void whatGoesAndComes() {
        Check.sentence("its let (from the l to the ;) goes, and each variable bound to it becomes ( and ) around the text of the let's expression (from its first token to its last, without blanks inside the brackets at the ends; blanks around stay).");
        due("fn f(){let a=1;print a;}", 11, 1, "fn f(){print (1);}");
        due("fn f(){ let a=1; print a ;}", 12, 1, "fn f(){  print (1) ;}");
        due("fn f(){let a=  1 + 22  ;print  a  ;}", 11, 1, "fn f(){print  (1 + 22)  ;}");
        due("fn f(){let  aaa  =  (1)  ;print aaa*aaa;}", 12, 2, "fn f(){print ((1))*((1));}");
        due("fn f(){print 1;let a=2;return a;}", 19, 1, "fn f(){print 1;return (2);}");
        due("fn f(){let a=1;if a{return a;}}", 11, 2, "fn f(){if (1){return (1);}}");
        due("fn f(b){let a=1;b=a;let c=a;print f(a);}", 12, 3, "fn f(b){b=(1);let c=(1);print f((1));}");
        for (int at : new int[] {11, 12, 22, 23}) {
            due("fn f(){let aa=1;print aa;}", at, 1, "fn f(){print (1);}");
        }
        due("fn f(){let a=1;{let a=2;print a;}print a;}", 11, 1, "fn f(){{let a=2;print a;}print (1);}");
        due("fn f(){let a=1;{let a=a;print a;}print a;}", 11, 2, "fn f(){{let a=(1);print a;}print (1);}");
        due("fn f(){let a=1;}fn g(a){print a;}", 11, 0, "fn f(){}fn g(a){print a;}");
    }

    private static void howMany() {
        Check.sentence("Answers how many were replaced (perhaps 0).");
        due("fn f(){let a=1;}", 11, 0, "fn f(){}");
        due("fn f(){let a=1;print 2;}", 11, 0, "fn f(){print 2;}");
        due("fn f(a){let a=a;}", 12, 0, "fn f(a){}");
        due(Check.filled("fn f(){let a=1;}", 240), 11, 0, Check.filled("fn f(){}", 232));
        due("fn f(){let a=1;print a;}", 21, 1, "fn f(){print (1);}");
        String sum = Check.repeat("a+", 40) + "a";
        due("fn f(){let a=1;print " + sum + ";}", 11, 41, "fn f(){print " + sum.replace("a", "(1)") + ";}");
    }

    private static void faultsBefore() {
        Check.sentence("Tested in this order: IllegalStateException when there are faults;");
        refused("fn f(){let a=1;", 11, IllegalStateException.class);
        refused("fn f(){let a=1;let a=2;}", 11, IllegalStateException.class);
        refused("fn f(){let a=1;print b;}", 11, IllegalStateException.class);
        refused("fn f(){let a=1;print g();}", 11, IllegalStateException.class);
        refused("fn f(){let a=1;print f(1);}", 11, IllegalStateException.class);
        refused("fn f(){let a=1;}fn f(){}", 11, IllegalStateException.class);
    }

    private static void noLet() {
        Check.sentence("NoSuchElementException when no token at this place is bound to the name of a let;");
        ProgramDesk desk = Check.desk("fn main(n){let a=n;print a;} ");
        desk.run(6);
        int[] places = {-1, 0, 3, 8, 10, 11, 13, 14, 16, 17, 18, 24, 26, 27, 28, 29, 240};
        for (int at : places) {
            Check.refusesAndKeeps("at " + at, NoSuchElementException.class, desk, () -> desk.inline(at));
        }
        for (int at : FAR) {
            Check.refusesAndKeeps("at " + at, NoSuchElementException.class, desk, () -> desk.inline(at));
        }
        ProgramDesk empty = new ProgramDesk();
        Check.refusesAndKeeps("of no text", NoSuchElementException.class, empty, () -> empty.inline(0));
        refused("fn f(n){n=1;print f(n);}", 8, NoSuchElementException.class);
        refused("fn f(n){n=1;print f(n);}", 18, NoSuchElementException.class);
        due("fn f(n){let a=n;print a;}", 12, 1, "fn f(n){print (n);}");
    }

    private static void calls() {
        Check.sentence("UnsupportedOperationException when the expression has a call,");
        refused("fn f(){let a=f();}", 11, UnsupportedOperationException.class);
        refused("fn f(){let a=f();print a;}", 11, UnsupportedOperationException.class);
        refused("fn f(){let a=1+2*(3-f());print a;}", 11, UnsupportedOperationException.class);
        refused("fn f(n){let a=f(1)<2;print a;}", 12, UnsupportedOperationException.class);
        due("fn f(f){let a=f;print f(a);}", 12, 1, "fn f(f){print f((f));}");
        due("fn f(){let b=f();let a=1;print f()+a+f();}", 21, 1, "fn f(){let b=f();print f()+(1)+f();}");
    }

    private static void assignmentsToIt() {
        Check.sentence("or an assignment that stands behind the let in its block (also in blocks within) is bound to the variable");
        refused("fn f(){let a=1;a=2;}", 11, UnsupportedOperationException.class);
        refused("fn f(){let a=1;a=2;}", 15, UnsupportedOperationException.class);
        refused("fn f(){let a=1;print a;a=a;}", 11, UnsupportedOperationException.class);
        refused("fn f(){let a=1;{{a=2;}}}", 11, UnsupportedOperationException.class);
        refused("fn f(){let a=1;if 0{while 0{a=2;}}}", 11, UnsupportedOperationException.class);
        refused("fn f(){let a=1;{a=2;let a=3;}}", 11, UnsupportedOperationException.class);
        due("fn f(){let a=1;{let a=3;a=2;}print a;}", 11, 1, "fn f(){{let a=3;a=2;}print (1);}");
        due("fn f(a){a=2;let a=1;print a;}", 16, 1, "fn f(a){a=2;print (1);}");
        due("fn f(a){{let a=1;print a;}a=2;}", 13, 1, "fn f(a){{print (1);}a=2;}");
    }

    private static void assignmentsToItsExpression() {
        Check.sentence("or to what a variable of the expression is bound to,");
        refused("fn f(n){let a=n;n=2;}", 12, UnsupportedOperationException.class);
        refused("fn f(n){let a=n;print a;n=2;}", 12, UnsupportedOperationException.class);
        refused("fn f(n){let a=1+(2*n);n=2;}", 12, UnsupportedOperationException.class);
        refused("fn f(m,n){let a=m+n;n=2;}", 14, UnsupportedOperationException.class);
        refused("fn f(m,n){let a=m+n;m=2;}", 14, UnsupportedOperationException.class);
        refused("fn f(n){let a=n;{{n=2;}}}", 12, UnsupportedOperationException.class);
        refused("fn f(){let n=1;let a=n;if 0{n=2;}}", 19, UnsupportedOperationException.class);
        refused("fn f(n){while n{let a=n;print a;n=n-1;}}", 20, UnsupportedOperationException.class);
        due("fn f(n){while n{n=n-1;let a=n;print a;}}", 26, 1, "fn f(n){while n{n=n-1;print (n);}}");
        due("fn f(n){n=2;let a=n;print a;}", 16, 1, "fn f(n){n=2;print (n);}");
        due("fn f(n){{let a=n;print a;}n=2;}", 13, 1, "fn f(n){{print (n);}n=2;}");
        due("fn f(n,m){let a=n;m=2;print a;}", 14, 1, "fn f(n,m){m=2;print (n);}");
        due("fn f(n){let a=n;{let n=1;n=2;}print a;}", 12, 1, "fn f(n){{let n=1;n=2;}print (n);}");
        due("fn f(n){let a=n;print a;}fn g(n){n=2;}", 12, 1, "fn f(n){print (n);}fn g(n){n=2;}");
    }

    private static void otherMeanings() {
        Check.sentence("or one of the variables that are replaced stands where a name of the expression means something else than in the let;");
        refused("fn f(n){let a=n;let n=1;print a;}", 12, UnsupportedOperationException.class);
        refused("fn f(n){let a=n;print a;let n=1;print a;}", 12, UnsupportedOperationException.class);
        refused("fn f(n){let a=n;{let n=1;{print a;}}}", 12, UnsupportedOperationException.class);
        refused("fn f(m,n){let a=m+n;{let n=1;print a;}}", 14, UnsupportedOperationException.class);
        refused("fn f(m,n){let a=m+n;{let m=1;print a;}}", 14, UnsupportedOperationException.class);
        due("fn f(n){let a=n;let n=a;print n;}", 12, 1, "fn f(n){let n=(n);print n;}");
        due("fn f(n){let a=n;{let n=1;}print a;}", 12, 1, "fn f(n){{let n=1;}print (n);}");
        due("fn f(n){let a=n;print a;let n=1;}", 12, 1, "fn f(n){print (n);let n=1;}");
        due("fn f(n){let a=n;let n=1;}", 12, 0, "fn f(n){let n=1;}");
        due("fn f(n){let a=1;let n=1;print a;}", 12, 1, "fn f(n){let n=1;print (1);}");
        // Where its own variable stands, the name means the let; in the let it means the parameter.
        refused("fn f(a){let a=a;print a;}", 12, UnsupportedOperationException.class);
        refused("fn f(a){let a=a;{print a;}}", 23, UnsupportedOperationException.class);
        due("fn f(a){let a=a;}", 12, 0, "fn f(a){}");
        due("fn f(a){print a;let a=a;}", 20, 0, "fn f(a){print a;}");
    }

    private static void tooLong() {
        Check.sentence("IllegalStateException when the text would have more than 240 characters;");
        // 'let a=1;' goes, and each variable becomes two characters longer.
        String five = "fn f(){let a=1;print a+a+a+a+a;}";
        String then = "fn f(){print (1)+(1)+(1)+(1)+(1);}";
        due(Check.filled(five, 238), 11, 5, Check.filled(then, 240));
        refused(Check.filled(five, 239), 11, IllegalStateException.class);
        refused(Check.filled(five, 240), 11, IllegalStateException.class);
        String four = "fn f(){let a=1;print a+a+a+a;}";
        due(Check.filled(four, 240), 11, 4, Check.filled("fn f(){print (1)+(1)+(1)+(1);}", 240));
        String odd = "fn f(){let a=1234-1;print a+a+a+a;}";
        due(Check.filled(odd, 225), 11, 4, Check.filled("fn f(){print (1234-1)+(1234-1)+(1234-1)+(1234-1);}", 240));
        refused(Check.filled(odd, 226), 11, IllegalStateException.class);
        String blanks = "fn f(){let aa = 1 + 1 ;print aa*aa*aa*aa;}";
        due(Check.filled(blanks, 236), 11, 4, Check.filled("fn f(){print (1 + 1)*(1 + 1)*(1 + 1)*(1 + 1);}", 240));
        refused(Check.filled(blanks, 237), 11, IllegalStateException.class);
        String front = Check.repeat(" ", 206);
        due(front + five, 217, 5, front + then);
        refused(" " + front + five, 218, IllegalStateException.class);
    }

    private static void wouldHaveFaults() {
        Check.sentence("UnsupportedOperationException when it would have faults.");
        due("fn f(){let a=1;print (((a)));}", 11, 1, "fn f(){print ((((1))));}");
        refused("fn f(){let a=1;print ((((a))));}", 11, UnsupportedOperationException.class);
        due("fn f(){let a=(1);print ((a));}", 11, 1, "fn f(){print ((((1))));}");
        refused("fn f(){let a=(1);print (((a)));}", 11, UnsupportedOperationException.class);
        due("fn f(){let a=(((1)));print a;}", 11, 1, "fn f(){print ((((1))));}");
        refused("fn f(){let a=((((1))));print a;}", 11, UnsupportedOperationException.class);
        due("fn f(){let a=((((1))));}", 11, 0, "fn f(){}");
        due("fn f(n){let a=1;print f(f(f(a)));}", 12, 1, "fn f(n){print f(f(f((1))));}");
        refused("fn f(n){let a=1;print f(f(f(f(a))));}", 12, UnsupportedOperationException.class);
        refused("fn f(){let a=1;print a;print ((((a))));print a;}", 11, UnsupportedOperationException.class);
    }

    private static void order() {
        Check.sentence("Tested in this order: IllegalStateException when there are faults; NoSuchElementException when no token");
        refused("fn f(n){let a=n;print b;}", 5, IllegalStateException.class);
        refused("fn f(n){let a=n;print b;}", -1, IllegalStateException.class);
        refused("fn f(n){let a=f(n);print b;}", 12, IllegalStateException.class);
        refused("fn f(n){let a=n;n=1;print ((((a+b))));}", 12, IllegalStateException.class);
        refused("fn f(n){let a=f(n);a=1;n=2;}", 5, NoSuchElementException.class);
        String sum = "a+a+a+a+a";
        refused(Check.filled("fn f(n){let a=1;print " + sum + ";}", 240), 5, NoSuchElementException.class);
        // What the third one finds goes before the length; each text is full without that, too.
        refused(Check.filled("fn f(n){let a=f(n);print " + sum + ";}", 240), 12, UnsupportedOperationException.class);
        refused(Check.filled("fn f(n){let a=1;print " + sum + ";a=2;}", 240), 12, UnsupportedOperationException.class);
        refused(Check.filled("fn f(n){let a=n;print " + sum + ";n=2;}", 240), 12, UnsupportedOperationException.class);
        refused(Check.filled("fn f(n){let a=n;{let n=2;print " + sum + ";}}", 240), 12, UnsupportedOperationException.class);
        refused(Check.filled("fn f(n){let a=n;print " + sum + ";}", 240), 12, IllegalStateException.class);
        // The length goes before the faults that there would be.
        refused(Check.filled("fn f(n){let a=n;print ((((" + sum + "))));}", 239), 12, IllegalStateException.class);
        refused(Check.filled("fn f(n){let a=n;print ((((" + sum + "))));}", 238), 12, UnsupportedOperationException.class);
    }

    private static void afterARefusal() {
        Check.sentence("A method that throws changes nothing.");
        ProgramDesk desk = Check.desk("fn main(n){let a=((((n))));let b=n+1;let c=main;print a-b;}");
        Check.refusesAndKeeps("a fault", IllegalStateException.class, desk, () -> desk.inline(31));
        desk.remove(desk.length() - 22, 11);
        Check.is("the text", Check.text(desk), "fn main(n){let a=((((n))));let b=n+1;print a-b;}");
        desk.run(5);
        Check.refusesAndKeeps("brackets", UnsupportedOperationException.class, desk, () -> desk.inline(15));
        Check.refusesAndKeeps("a parameter", NoSuchElementException.class, desk, () -> desk.inline(8));
        Check.is("a good one afterwards", desk.inline(31), 1);
        Check.refusesAndKeeps("brackets again", UnsupportedOperationException.class, desk, () -> desk.inline(15));
        Check.is("the text then", Check.text(desk), "fn main(n){let a=((((n))));print a-(n+1);}");
        Check.is("the output is that of the run before", Check.printed(desk), "-1");
        Check.is("a run", desk.run(6), 0);
        Check.is("what it printed", Check.printed(desk), "-1");
        desk.type(' ');
        Check.is("what is typed then", desk.length(), 43);
    }
}
