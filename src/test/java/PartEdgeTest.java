/** The edges of parts and of what a function is: promises 10 and 11, and where a part is broken. */
final class PartEdgeTest {
    public static void main(String[] args) {
        noParts();
        partBeforeTheFirstFn();
        fourParts();
        partsEnd();
        parameters();
        blocks();
        statements();
        expressions();
        sums();
        factors();
        fourBlocks();
        fourBrackets();
        oneTooMany();
        endsTooEarly();
        Check.finish();
    }

    /** The faults, written number@place. */
    private static void due(String text, String faults) {
        Check.is("faults of " + text, Check.faults(Check.desk(text)), faults);
    }

    private static void noParts() {
        Check.sentence("An empty text, which has no parts and no faults");
        due("", "");
        Check.sentence("What stands before the first token fn is a part, if there is a token");
        due(" ", "");
        due(Check.repeat(" ", 240), "");
        due("   fn f(){}", "");
    }

    private static void partBeforeTheFirstFn() {
        Check.sentence("What stands before the first token fn is a part, if there is a token");
        due("f", "1@0");
        due(" f fn f(){}", "1@1");
        due("f(){}fn f(){}", "1@0");
        due("{}{}{}fn f(){}", "1@0");
        due("fnn f(){}fn f(){}", "1@0");
        due(";" + Check.repeat(" ", 231) + "fn f(){}", "1@0");
        due(Check.repeat(" ", 239) + ";", "1@239");
    }

    private static void fourParts() {
        Check.sentence("each fn, as long as there are not four parts (with that one), begins another one.");
        String three = "fn a(){}fn b(){}fn c(){}";
        due(three, "");
        due(three + "fn d(){}", "");
        due(three + "fn d(){}fn e(){}", "1@32");
        due(three + "fn d(){fn e(){}", "1@31");
        due(three + "fn d(){} fn e(){} fn f(){}", "1@33");
        due(three + "fn d(){print e();}fn e(){}", "1@42");
        // Three functions are broken, and the fifth fn is still in the fourth part.
        due("fn fn fn fn d(){}fn e(){}", "1@2 1@5 1@8 1@17");
        due("fn fn fn fn fn", "1@2 1@5 1@8 1@12");
        due("fn fn fn fn", "1@2 1@5 1@8 1@11");
        // The part before the first fn is one of the four.
        due(";" + three, "1@0");
        due(";" + three + "fn d(){}", "1@0 1@25");
        due("; fn fn fn fn", "1@0 1@4 1@7 1@11");
        due("; fn fn fn", "1@0 1@4 1@7 1@10");
        Check.is("a fourth function can be called", Check.desk(three + "fn main(){print a()+b()+c();}").run(0), 0);
    }

    private static void partsEnd() {
        Check.sentence("A part goes up to the next one or the end.");
        due("fn f(){}", "");
        due("fn f(){}   ", "");
        due("fn f(){};", "1@8");
        due("fn f(){};fn g(){}", "1@8");
        due("fn f(){}fn g(){};", "1@16");
        due("fn f(){fn g(){}}", "1@7 1@15");
        due("fn f(a fn g(){}", "1@6");
        Check.sentence("A part is a FUNCTION if its tokens are, all of them");
        due("fn f(){}}", "1@8");
        due("fn f(){}{}", "1@8");
        due("fn f(){} f", "1@9");
    }

    private static void parameters() {
        Check.sentence("fn NAME ( and behind that nothing or NAMES with a comma between (the PARAMETERS), then ) and a BLOCK.");
        due("fn f(){}", "");
        due("fn f(a){}", "");
        due("fn f(a,b){}", "");
        due("fn f(,){}", "1@5");
        due("fn f(a,){}", "1@7");
        due("fn f(,a){}", "1@5");
        due("fn f(a,,b){}", "1@7");
        due("fn f(a b){}", "1@7");
        due("fn f(1){}", "1@5");
        due("fn f(let){}", "1@5");
        due("fn f(abcdefg){}", "1@5");
        due("fn f(a(){}", "1@6");
        due("fn (){}", "1@3");
        due("fn if(){}", "1@3");
        due("fn f{}", "1@4");
        due("fn f(){", "1@7");
        due("fn f()}", "1@6");
        due("fn f()print 1;", "1@6");
        StringBuilder many = new StringBuilder("fn f(a");
        for (int p = 1; p < 26; p++) {
            many.append(',').append((char) ('a' + p));
        }
        due(many + "){}", "");
        StringBuilder most = new StringBuilder(many);
        for (int p = 0; most.length() < 234; p++) {
            most.append(",a").append((char) ('a' + p % 26)).append((char) ('a' + p / 26));
        }
        Check.is("its length", most.length() + 3, 239);
        due(most + "){}", "");
    }

    private static void blocks() {
        Check.sentence("BLOCK: { any number of STATEMENTS }.");
        due("fn f(){}", "");
        due("fn f(){print 1;}", "");
        due("fn f(){" + Check.repeat("{}", 116) + "}", "");
        due("fn f(){" + Check.repeat("print 1;", 29) + "}", "");
        due("fn f(){print 1;;}", "1@15");
        due("fn f(){{}", "1@9");
    }

    private static void statements() {
        Check.sentence("STATEMENT: let NAME = EXPRESSION ; or NAME = EXPRESSION ; or print EXPRESSION ; or return EXPRESSION ; or if EXPRESSION BLOCK or while EXPRESSION BLOCK or BLOCK.");
        due("fn f(){let a=1;}", "");
        due("fn f(){let =1;}", "1@11");
        due("fn f(){let a;}", "1@12");
        due("fn f(){let a=;}", "1@13");
        due("fn f(){let a=1}", "1@14");
        due("fn f(){let print=1;}", "1@11");
        due("fn f(a){a=1;}", "");
        due("fn f(a){a 1;}", "1@10");
        due("fn f(a){a=;}", "1@10");
        due("fn f(a){a=1}", "1@11");
        due("fn f(a){f(1);}", "1@9");
        due("fn f(){print 1;}", "");
        due("fn f(){print;}", "1@12");
        due("fn f(){print 1}", "1@14");
        due("fn f(){return 1;}", "");
        due("fn f(){return;}", "1@13");
        due("fn f(){return 1}", "1@15");
        due("fn f(){if 1{}}", "");
        due("fn f(){if{}}", "1@9");
        due("fn f(){if 1;}", "1@11");
        due("fn f(){if 1 let a=1;}", "1@12");
        due("fn f(){while 1{}}", "");
        due("fn f(){while{}}", "1@12");
        due("fn f(){while 1}", "1@14");
        due("fn f(){{}}", "");
        due("fn f(){1;}", "1@7");
        due("fn f(){)}", "1@7");
        due("fn f(){?}", "1@7");
        due("fn f(){abcdefg=1;}", "1@7");
    }

    private static void expressions() {
        Check.sentence("EXPRESSION: SUMS, one, or two with < between.");
        due("fn f(){print 1;}", "");
        due("fn f(){print 1<2;}", "");
        due("fn f(){print 1<2<3;}", "1@16");
        due("fn f(){print 1<<2;}", "1@15");
        due("fn f(){print 1<;}", "1@15");
        due("fn f(){print <1;}", "1@13");
        due("fn f(){print (1<2)<(3<4);}", "");
        due("fn f(){print (1<2<3);}", "1@17");
        due("fn f(a,b){print f(1<2,3<4);}", "");
        due("fn f(a){print f(1<2<3);}", "1@19");
        due("fn f(){if 1<2{while 1<2{let a=1<2;a=1<2;return 1<2;}}}", "");
    }

    private static void sums() {
        Check.sentence("SUM: TERMS, one or more, with + or - between. TERM: FACTORS, one or more, with * between.");
        due("fn f(){print 1+2;}", "");
        due("fn f(){print 1-2;}", "");
        due("fn f(){print 1*2;}", "");
        due("fn f(){print 1+2-3+4-5;}", "");
        due("fn f(){print 1*2*3*4+5*6-7;}", "");
        due("fn f(){print +1;}", "1@13");
        due("fn f(){print -1;}", "1@13");
        due("fn f(){print *1;}", "1@13");
        due("fn f(){print 1+-2;}", "1@15");
        due("fn f(){print 1*-2;}", "1@15");
        due("fn f(){print 1+;}", "1@15");
        due("fn f(){print 1-;}", "1@15");
        due("fn f(){print 1*;}", "1@15");
        due("fn f(){print 1/2;}", "1@14");
        due("fn f(){print 1>2;}", "1@14");
        due("fn f(){print " + Check.repeat("1+", 112) + "1;}", "");
        due("fn f(){print " + Check.repeat("1*", 112) + "1;}", "");
    }

    private static void factors() {
        Check.sentence("FACTOR: NUMBER, NAME (a VARIABLE), ( EXPRESSION ), or NAME ( and nothing, or EXPRESSIONS with commas between, and ) (a CALL).");
        due("fn f(a){print 9999;}", "");
        due("fn f(a){print 10000;}", "1@14");
        due("fn f(a){print a;}", "");
        due("fn f(a){print (a);}", "");
        due("fn f(a){print ();}", "1@15");
        due("fn f(a){print (1,2);}", "1@16");
        due("fn f(){print f();}", "");
        due("fn f(a){print f(a);}", "");
        due("fn f(a,b){print f(a,b);}", "");
        due("fn f(a){print f(,);}", "1@16");
        due("fn f(a){print f(a,);}", "1@18");
        due("fn f(a){print f(,a);}", "1@16");
        due("fn f(a){print f(a b);}", "1@18");
        due("fn f(a){print f a;}", "1@16");
        due("fn f(a){print f(a;}", "1@17");
        due("fn f(a){print f(;}", "1@16");
        due("fn f(a){print f(a,;}", "1@18");
        due("fn f(a){print f(a+;}", "1@18");
        due("fn f(a){print f();}", "5@14");
        due("fn f(a){print 1(a);}", "1@15");
        due("fn f(a){print f(a)(a);}", "1@18");
        due("fn f(a){print while;}", "1@14");
    }

    private static void fourBlocks() {
        Check.sentence("At most 4 blocks (the function's own is one)");
        due("fn f(){{{}}}", "");
        due("fn f(){{{{}}}}", "");
        due("fn f(){{{{{}}}}}", "1@10");
        due("fn f(){if 1{if 1{if 1{}}}}", "");
        due("fn f(){if 1{if 1{if 1{if 1{}}}}}", "1@26");
        due("fn f(){while 1{while 1{while 1{}}}}", "");
        due("fn f(){while 1{while 1{while 1{while 1{}}}}}", "1@38");
        due("fn f(){{{{print 1;let a=1;a=2;return a;}}}}", "");
        Check.sentence("may be open at any place.");
        due("fn f(){{{{}{}}{{}}}{{{}}}}", "");
        due("fn f(){{{{}{}}{{}}}{{{}{{}}}}}", "1@24");
        due("fn f(){{{{}}}}fn g(){{{{}}}}", "");
        due("fn f(){{{{fn g(){{{{}}}}", "1@10");
        due("fn f(){{{{{fn g(){{{{}}}}", "1@10");
        due("fn f(){{{{}}}}fn g(){{{{{}}}}}", "1@24");
    }

    private static void fourBrackets() {
        Check.sentence("at most 4 ( of factors (those of calls are ones) may be open at any place.");
        due("fn f(){print (((1)));}", "");
        due("fn f(){print ((((1))));}", "");
        due("fn f(){print (((((1)))));}", "1@17");
        due("fn f(a){print f(f(f(f(1))));}", "");
        due("fn f(a){print f(f(f(f(f(1)))));}", "1@23");
        due("fn f(){print (((f())));}", "");
        due("fn f(){print ((((f()))));}", "1@18");
        due("fn f(a){print f((f((1))));}", "");
        due("fn f(a){print f((f(((1)))));}", "1@20");
        due("fn f(a,b){print f(f(1,f(1,f(1,2))),f(f(f(1,2),2),2));}", "");
        due("fn f(a,b){print f(1,f(1,f(1,f(1,(2)))));}", "1@32");
        due("fn f(){print ((((1))))+((((1))))*((((1))))<((((1))));}", "");
        due("fn f(){print ((((1))))+((((1))))*((((1))))<(((((1)))));}", "1@47");
        due("fn f(){print ((((1))));print ((((1))));}", "");
        due("fn f(){if ((((1)))){while ((((1)))){let a=((((1))));a=((((1))));return ((((1))));}}}", "");
        due("fn f(){if (((((1))))){}}", "1@14");
        due("fn f(){while (((((1))))){}}", "1@17");
        due("fn f(){let a=(((((1)))));}", "1@17");
        due("fn f(a){a=(((((1)))));}", "1@14");
        due("fn f(){return (((((1)))));}", "1@18");
        // The ( behind the function's name is none of these; blocks and brackets don't add up.
        due("fn f(a,b){{{{print ((((a))));}}}}", "");
    }

    private static void oneTooMany() {
        Check.sentence("from its first token that can't stand there on (a { or ( that is one too many can't)");
        due("fn f(){{{{if 1{}}}}}", "1@14");
        due("fn f(){{{{if 1;}}}}", "1@14");
        due("fn f(){{{{if{}}}}}", "1@12");
        due("fn f(){{{{while 1+2{}}}}}", "1@19");
        due("fn f(){{{{ { ? }}}}}", "1@11");
        due("fn f(){print (((( ( ? )))));}", "1@18");
        due("fn f(){print ((((f ( ? )))));}", "1@19");
        due("fn f(){print ((((f ? )))));}", "1@19");
        due("fn f(){print ? ?;}", "1@13");
        due("fn f(){print 1 ? ?;}", "1@15");
    }

    private static void endsTooEarly() {
        Check.sentence("or at the place behind its last token, when it ends too early.");
        String whole = "fn f(a,b){if a<(b+1)*2{let c=f(a,b);c=c-1;}while b{print a;}{return b;}}";
        due(whole, "");
        ProgramDesk desk = Check.desk(whole);
        String[] ends = {"", "   ", "fn g(){}", "   fn g(){}"};
        int tokens = desk.tokens();
        for (int k = 0; k < tokens - 1; k++) {
            String begun = whole.substring(0, desk.token(k, 2));
            for (String end : ends) {
                // A word would go on into the fn.
                boolean word = Character.isLetter(begun.charAt(begun.length() - 1)) && end.startsWith("fn");
                due(begun + (word ? " " : "") + end, "1@" + begun.length());
            }
        }
        due("fn", "1@2");
        due("fn ", "1@2");
        due("fn f(){" + Check.repeat("{}", 116) + " ", "1@239");
        due(Check.repeat(" ", 234) + "fn f()", "1@240");
        Check.is("its number and place", Check.desk(Check.repeat(" ", 234) + "fn f()").fault(0), 1 + 8 * 240);
    }
}
