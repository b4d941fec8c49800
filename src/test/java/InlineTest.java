import java.util.NoSuchElementException;

/** Promise 14: inline. */
final class InlineTest {
    public static void main(String[] args) {
        replaces();
        noLet();
        calls();
        assignments();
        otherMeanings();
        tooLong();
        wouldHaveFaults();
        orderOfRefusals();
        theRunIsKept();
        Check.finish();
    }

    private static void due(String text, int at, int count, String then) {
        ProgramDesk desk = Check.desk(text);
        String what = "inline " + at + " of " + text;
        Check.is(what, desk.inline(at), count);
        Check.is(what + ", the text", Check.text(desk), then);
        Check.is(what + ", the faults", desk.faults(), 0);
    }

    private static void refused(String text, int at, Class<? extends RuntimeException> due) {
        ProgramDesk desk = Check.desk(text);
        Check.refusesAndKeeps("inline " + at + " of " + text, due, desk, () -> desk.inline(at));
    }

    private static void replaces() {
        due("fn f(n){let a=n+2;print a*a;}", 12, 2, "fn f(n){print (n+2)*(n+2);}");
        due("fn f(n){let a=n+2;print a*a;}", 26, 2, "fn f(n){print (n+2)*(n+2);}");
        due("fn f(){let a=1;}", 11, 0, "fn f(){}");
        due("fn f(){ let  ab  =  1 + 2  ;  print  ab  ; }", 13, 1, "fn f(){   print  (1 + 2)  ; }");
        due("fn f(){let a=(1);print a;}", 11, 1, "fn f(){print ((1));}");
        due("fn f(){let a=1<2;if a{print a;}while a{{print a;}}}", 11, 4, "fn f(){if (1<2){print (1<2);}while (1<2){{print (1<2);}}}");
        due("fn f(n){let a=1;{let a=n;print a;}print a;}", 21, 1, "fn f(n){let a=1;{print (n);}print a;}");
        due("fn f(n){let a=1;{let a=n;print a;}print a;}", 12, 1, "fn f(n){{let a=n;print a;}print (1);}");
        due("fn f(n){let a=n;let b=a;print f(b);}", 12, 1, "fn f(n){let b=(n);print f(b);}");
        due("fn f(n){let a=n;let b=a;print f(b);}", 20, 1, "fn f(n){let a=n;print f((a));}");
        due("fn f(){let a=1;let b=a;b=a;}", 11, 2, "fn f(){let b=(1);b=(1);}");
    }

    private static void noLet() {
        refused("fn f(n){let a=n;print a;}", 5, NoSuchElementException.class);
        refused("fn f(n){let a=n;print a;}", 14, NoSuchElementException.class);
        refused("fn f(n){let a=n;print a;}", 3, NoSuchElementException.class);
        refused("fn f(n){let a=n;print a;}", 8, NoSuchElementException.class);
        refused("fn f(n){let a=n;print a;}", 11, NoSuchElementException.class);
        refused("fn f(n){let a=n;print a;}", 13, NoSuchElementException.class);
        refused("fn f(n){let a=n;print a;}", -1, NoSuchElementException.class);
        refused("fn f(n){let a=n;print a;}", 25, NoSuchElementException.class);
        refused("", 0, NoSuchElementException.class);
    }

    private static void calls() {
        refused("fn f(){let a=f();}", 11, UnsupportedOperationException.class);
        refused("fn f(n){let a=1+(f(n));print a;}", 12, UnsupportedOperationException.class);
        due("fn f(n){let a=1;print f(a);}", 12, 1, "fn f(n){print f((1));}");
    }

    private static void assignments() {
        refused("fn f(){let a=1;a=2;}", 11, UnsupportedOperationException.class);
        refused("fn f(){let a=1;{{a=2;}}}", 11, UnsupportedOperationException.class);
        refused("fn f(){let a=1;a=2;}", 15, UnsupportedOperationException.class);
        refused("fn f(n){let a=n;n=2;print a;}", 12, UnsupportedOperationException.class);
        refused("fn f(n){let a=n;print a;n=2;}", 12, UnsupportedOperationException.class);
        refused("fn f(n){let a=n;if n{n=2;}}", 12, UnsupportedOperationException.class);
        refused("fn f(n,m){let a=n*(m+1);m=2;}", 14, UnsupportedOperationException.class);
        due("fn f(n){n=2;let a=n;print a;}", 16, 1, "fn f(n){n=2;print (n);}");
        due("fn f(n){{let a=n;print a;}n=2;}", 13, 1, "fn f(n){{print (n);}n=2;}");
        due("fn f(n){let a=n;{let n=1;n=2;}print a;}", 12, 1, "fn f(n){{let n=1;n=2;}print (n);}");
        due("fn f(n){while n{n=n-1;let a=n;print a;}}", 26, 1, "fn f(n){while n{n=n-1;print (n);}}");
        due("fn f(n){{let a=1;print a;}let a=n;a=2;}", 13, 1, "fn f(n){{print (1);}let a=n;a=2;}");
    }

    private static void otherMeanings() {
        refused("fn f(n){let a=n;{let n=1;print a;}}", 12, UnsupportedOperationException.class);
        refused("fn f(n){let a=n;let n=1;print a;}", 12, UnsupportedOperationException.class);
        refused("fn f(n,m){let a=m-n;if n{let n=a;print a;}}", 14, UnsupportedOperationException.class);
        due("fn f(n){let a=n;{let n=a;print n;}}", 12, 1, "fn f(n){{let n=(n);print n;}}");
        due("fn f(n){let a=n;print a;let n=1;print n;}", 12, 1, "fn f(n){print (n);let n=1;print n;}");
        // At the print, a means the let, and in the let the parameter.
        refused("fn f(a){let a=a+1;print a;}", 12, UnsupportedOperationException.class);
        due("fn f(a){let a=a+1;}", 12, 0, "fn f(a){}");
    }

    private static void tooLong() {
        String gap = Check.repeat(" ", 222);
        due("fn f(){let a=1;print a;}" + gap.substring(6), 11, 1, "fn f(){print (1);}" + gap.substring(6));
        String sum = "1+1+1+1+1+1+1+1+1+1";
        String before = "fn f(){let a=" + sum + ";print a+a;}";
        String then = "fn f(){print (" + sum + ")+(" + sum + ");}";
        String just = Check.repeat(" ", 240 - then.length());
        due(before + just, 11, 2, then + just);
        refused(before + just + " ", 11, IllegalStateException.class);
        due("fn f(){let a=1;}" + Check.repeat(" ", 224), 11, 0, "fn f(){}" + Check.repeat(" ", 224));
    }

    private static void wouldHaveFaults() {
        refused("fn f(){let a=1;print ((((a))));}", 11, UnsupportedOperationException.class);
        refused("fn f(){let a=(1);print (((a)));}", 11, UnsupportedOperationException.class);
        due("fn f(){let a=1;print (((a)));}", 11, 1, "fn f(){print ((((1))));}");
        refused("fn f(n){let a=1;print f(f(f(f(a))));}", 12, UnsupportedOperationException.class);
    }

    private static void orderOfRefusals() {
        refused("fn f(){let a=1;print b;}", 0, IllegalStateException.class);
        String gap = Check.repeat(" ", 180);
        String sum = "1+1+1+1+1+1+1+1+1+1+1";
        refused("fn f(){let a=" + sum + "+f();print a+a+a;}" + gap, 0, NoSuchElementException.class);
        refused("fn f(){let a=" + sum + "+f();print a+a+a;}" + gap, 11, UnsupportedOperationException.class);
        refused("fn f(){let a=" + sum + "+1;print a+((((a))));}" + gap, 11, IllegalStateException.class);
    }

    private static void theRunIsKept() {
        ProgramDesk desk = Check.desk("fn main(n){let a=n+2;let b=a*a;print b-a;return b;}");
        Check.is("run before", desk.run(1), 0);
        Check.is("inline a", desk.inline(15), 3);
        Check.is("the text", Check.text(desk), "fn main(n){let b=(n+2)*(n+2);print b-(n+2);return b;}");
        Check.is("printed before the change", Check.printed(desk), "6");
        Check.is("given before the change", desk.output(-2), 9);
        Check.is("inline b", desk.inline(15), 2);
        Check.is("the text then", Check.text(desk), "fn main(n){print ((n+2)*(n+2))-(n+2);return ((n+2)*(n+2));}");
        Check.is("it still runs", desk.run(2), 0);
        Check.is("and prints", Check.printed(desk), "12");
    }
}
