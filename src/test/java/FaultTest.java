import java.util.NoSuchElementException;

/** Promises 10 and 11: faults and fault, written number@place here. */
final class FaultTest {
    public static void main(String[] args) {
        parts();
        heads();
        statements();
        expressions();
        openBlocks();
        openBrackets();
        declarations();
        calls();
        order();
        editedTexts();
        wrongQuestions();
        Check.finish();
    }

    private static void due(String text, String faults) {
        Check.is("faults of " + text, Check.faults(Check.desk(text)), faults);
    }

    private static void parts() {
        due("", "");
        due("    ", "");
        due("x", "1@0");
        due("  x y", "1@2");
        due("fn f(){}", "");
        due("x fn f(){}", "1@0");
        due("fn f(){} x", "1@9");
        due("fn f(){ fn g(){}", "1@7");
        due("fn f(){fn g(){}", "1@7");
        due("fn fn f(){}", "1@2");
        due("fn a(){}fn b(){}fn c(){}fn d(){}", "");
        due("fn a(){}fn b(){}fn c(){}fn d(){}fn e(){}", "1@32");
        due("fn a(){}fn b(){}fn c(){}fn d(){fn e(){}", "1@31");
        due("; fn a(){}fn b(){}fn c(){}", "1@0");
        due("; fn a(){}fn b(){}fn c(){}fn d(){}", "1@0 1@26");
        due("fn a fn b fn c fn d fn e", "1@4 1@9 1@14 1@20");
        due("fnf(){}", "1@0");
    }

    private static void heads() {
        due("fn", "1@2");
        due("fn  ", "1@2");
        due("fn f", "1@4");
        due("fn f(", "1@5");
        due("fn f(a", "1@6");
        due("fn f(a,", "1@7");
        due("fn f(a)", "1@7");
        due("fn f(a){", "1@8");
        due("fn f(a,b,c){}", "");
        due("fn let(){}", "1@3");
        due("fn sixteen(){}", "1@3");
        due("fn 1(){}", "1@3");
        due("fn f){}", "1@4");
        due("fn f(,){}", "1@5");
        due("fn f(a,){}", "1@7");
        due("fn f(a b){}", "1@7");
        due("fn f(1){}", "1@5");
        due("fn f(if){}", "1@5");
        due("fn f();", "1@6");
        due("fn f(){}}", "1@8");
        due("fn f(){};", "1@8");
    }

    private static void statements() {
        due("fn f(a){let b=1;a=b;print a;return b;if a{}while a{}{}}", "");
        due("fn f(){let 1=1;}", "1@11");
        due("fn f(){let a 1;}", "1@13");
        due("fn f(){let a=;}", "1@13");
        due("fn f(){let a=1}", "1@14");
        due("fn f(){let a=1,}", "1@14");
        due("fn f(){let if=1;}", "1@11");
        due("fn f(a){a;}", "1@9");
        due("fn f(a){a(1);}", "1@9");
        due("fn f(a){a=}", "1@10");
        due("fn f(){print;}", "1@12");
        due("fn f(){return;}", "1@13");
        due("fn f(){if {}}", "1@10");
        due("fn f(){if 1 print 1;}", "1@12");
        due("fn f(){while 1;}", "1@14");
        due("fn f(){1;}", "1@7");
        due("fn f(){;}", "1@7");
        due("fn f(){(1);}", "1@7");
        due("fn f(){A=1;}", "1@7");
        due("fn f(){{}", "1@9");
        due("fn f(){print 1 2;}", "1@15");
        due("fn f(){print 12345;}", "1@13");
    }

    private static void expressions() {
        due("fn f(a){print 1+2-3*4<a*(a-1)+f(2);}", "");
        due("fn f(){print 1<2<3;}", "1@16");
        due("fn f(){print (1<2)<3;}", "");
        due("fn f(){print -1;}", "1@13");
        due("fn f(){print 1+;}", "1@15");
        due("fn f(){print 1*;}", "1@15");
        due("fn f(){print 1<;}", "1@15");
        due("fn f(){print ();}", "1@14");
        due("fn f(){print (1;}", "1@15");
        due("fn f(){print 1);}", "1@14");
        due("fn f(){print (1,2);}", "1@15");
        due("fn f(){print f(;}", "1@15");
        due("fn f(){print f(,);}", "1@15");
        due("fn f(a){print f(1,);}", "1@18");
        due("fn f(a){print f(1 2);}", "1@18");
        due("fn f(){print f((1);}", "1@18");
        due("fn f(){print let;}", "1@13");
        due("fn f(){print 1=2;}", "1@14");
        due("fn f(){print f()();}", "1@16");
        due("fn f(){print 2(3);}", "1@14");
        // These numbers and this name are held as the codes of the signs are.
        due("fn f(){print 1 43 2;}", "1@15");
        due("fn f(){print 1 60 2;}", "1@15");
        due("fn f 40 ){}", "1@5");
        due("fn f(){print 1 ka 2;}", "1@15");
    }

    private static void openBlocks() {
        due("fn f(){{{{}}}}", "");
        due("fn f(){{{{{}}}}}", "1@10");
        due("fn f(){{{{}{}}{{}}}{{{}}}}", "");
        due("fn f(){{{if 1{}}}}", "");
        due("fn f(){{{{if 1{}}}}}", "1@14");
        due("fn f(){{{{while 1{}}}}}", "1@17");
        due("fn f(){{{{if 1;}}}}", "1@14");
        due("fn f(){if 1{if 2{if 3{print 1;}}}}", "");
    }

    private static void openBrackets() {
        due("fn f(){print ((((1))));}", "");
        due("fn f(){print (((((1)))));}", "1@17");
        due("fn f(a){print f(f(f(f(1))));}", "");
        due("fn f(a){print f(f(f(f(f(1)))));}", "1@23");
        due("fn f(a){print (f((f(1))));}", "");
        due("fn f(a){print (f((f((1)))));}", "1@20");
        due("fn f(a){print ((((a(1)))));}", "1@19");
        due("fn f(){print ((((1))))+((((2))));}", "");
        due("fn f(a){{{{print ((((a))));}}}}", "");
    }

    private static void declarations() {
        due("fn f(a,a){}", "2@7");
        due("fn f(a,b,a,a){}", "2@9 2@11");
        due("fn f(a){let a=a;}", "");
        due("fn f(){let a=1;let a=2;let a=3;}", "2@19 2@27");
        due("fn f(){let a=1;{let a=2;}}", "");
        due("fn f(){{let a=1;}{let a=2;}let a=3;}", "");
        due("fn f(){let a=a;}", "3@13");
        due("fn f(){print a;let a=1;print a;}", "3@13");
        due("fn f(){{let a=1;}print a;}", "3@23");
        due("fn f(){a=1;}", "3@7");
        due("fn f(){a=a;let a=1;a=a;}", "3@7 3@9");
        due("fn f(a){}fn g(){print a;}", "3@22");
        due("fn f(){print f;}", "3@13");
        due("fn f(){let a=1;let a=b;}", "2@19 3@21");
        due("fn f(){if 1{let b=1;}print b;}", "3@27");
        due("fn f(){while 1{print c;let c=2;}}", "3@21");
    }

    private static void calls() {
        due("fn f(){print g();}fn g(){}", "");
        due("fn f(){print g();}", "4@13");
        due("fn f(){let g=1;print g();}", "4@21");
        due("fn f(a){print f();}", "5@14");
        due("fn f(a){print f(1,2);}", "5@14");
        due("fn f(){print f(1);}", "5@13");
        due("fn f(a,b){print f(1,2);}", "");
        due("fn f(a,a){print f(1,2)+f(1);}", "2@7 5@23");
        due("fn f(){}fn f(){}", "6@11");
        due("fn f(){}fn f(){}fn f(){}", "6@11 6@19");
        due("fn f(){}fn f(a){print f(1)+f();}", "6@11 5@22");
        due("fn f(a){;}fn f(){print f();}", "1@8");
        due("fn f(){;}fn g(){print f();}", "1@7 4@22");
        due("fn f(){print g(h(),x);}fn g(){}", "5@13 4@15 3@19");
        due("fn f(f){let g=f(f);}", "");
    }

    private static void order() {
        due("x fn f(a,a){print b+g(c)+f(1);}fn f(){}fn h(){", "1@0 2@9 3@18 4@20 3@22 5@25 6@34 1@46");
        due("fn f(a){print f(b,c);}", "5@14 3@16 3@18");
    }

    /** What was behind the end before must not be seen any more. */
    private static void editedTexts() {
        String whole = "fn f(){print (1)*f();}";
        ProgramDesk desk = Check.desk(whole);
        Check.is("faults of the whole text", desk.faults(), 0);
        for (int length = whole.length() - 1; length > 0; length--) {
            desk.remove(length, 1);
            String left = Check.text(desk);
            Check.is("faults of what is left: " + left, Check.faults(desk), Check.faults(Check.desk(left)));
            Check.is("one fault in " + left, desk.faults(), 1);
        }
    }

    private static void wrongQuestions() {
        ProgramDesk desk = Check.desk("fn f(){a=1;}");
        Check.is("number + 8 * place", desk.fault(0), 3 + 8 * 7);
        Check.refuses("fault 1", NoSuchElementException.class, () -> desk.fault(1));
        Check.refuses("fault -1", NoSuchElementException.class, () -> desk.fault(-1));
        Check.refuses("fault greatest", NoSuchElementException.class, () -> desk.fault(Integer.MAX_VALUE));
        desk.remove(7, 4);
        Check.is("mended", desk.faults(), 0);
        Check.refuses("fault 0 of none", NoSuchElementException.class, () -> desk.fault(0));
        ProgramDesk full = Check.desk("fn f(){print " + Check.repeat("a+", 112) + "a;}");
        Check.is("240 characters", full.length(), 240);
        Check.is("113 faults", full.faults(), 113);
        Check.is("the last one", full.fault(112), 3 + 8 * 237);
    }
}
