import java.util.NoSuchElementException;

/** The edges of scopes and faults: promises 10 and 11, sentence by sentence. */
final class FaultEdgeTest {
    private static final int[] FAR = {Integer.MIN_VALUE, Integer.MIN_VALUE + 1, Integer.MAX_VALUE - 1, Integer.MAX_VALUE};

    public static void main(String[] args) {
        scopes();
        whereALetHolds();
        shadows();
        broken();
        declaredBefore();
        noDeclaration();
        placesOfFaults();
        noFunction();
        otherNumber();
        sameFunctionName();
        order();
        howMany();
        noSuchFault();
        Check.finish();
    }

    private static void due(String text, String faults) {
        Check.is("faults of " + text, Check.faults(Check.desk(text)), faults);
    }

    private static void scopes() {
        Check.sentence("A block is a scope; the parameters are in one around the function's block.");
        due("fn f(a){let a=1;}", "");
        due("fn f(a){let a=1;let a=2;}", "2@20");
        due("fn f(a){let b=a;{print a;}}", "");
        due("fn f(a){print a;}fn g(){print a;}", "3@30");
        due("fn g(){print a;}fn f(a){print a;}", "3@13");
    }

    private static void whereALetHolds() {
        Check.sentence("A let declares its variable in its block, from behind its ; to the end of the block");
        due("fn f(){a=1;let a=1;}", "3@7");
        due("fn f(){let a=a;}", "3@13");
        due("fn f(){let a=1+(2*a);}", "3@18");
        due("fn f(){let a=1;a=a;}", "");
        due("fn f(){let a=1;{{{a=a;}}}}", "");
        due("fn f(){if 1{let a=1;print a;}print a;}", "3@35");
        due("fn f(){if 1{let a=1;print a;}if a{}}", "3@32");
        due("fn f(){while 1{let a=1;}while a{}}", "3@30");
        due("fn f(){{let a=1;}a=2;}", "3@17");
        due("fn f(){{let a=1;}{print a;}}", "3@24");
        due("fn f(){let a=1;}fn g(){print a;}", "3@29");
        due("fn f(){while a{let a=1;}}", "3@13");
    }

    private static void shadows() {
        Check.sentence("in scopes within, it is SHADOWED from behind a let of the same name on.");
        bound("fn f(){let a=1;{print a;let a=a;print a;}print a;}", 11, "11 22 30 47");
        bound("fn f(){let a=1;{print a;let a=a;print a;}print a;}", 28, "28 38");
        bound("fn f(a){let a=a;a=a;}", 5, "5 14");
        bound("fn f(a){let a=a;a=a;}", 12, "12 16 18");
        bound("fn f(a){{let a=1;{let a=2;a=3;}a=4;}a=5;}", 5, "5 36");
        bound("fn f(a){{let a=1;{let a=2;a=3;}a=4;}a=5;}", 13, "13 31");
        bound("fn f(a){{let a=1;{let a=2;a=3;}a=4;}a=5;}", 22, "22 26");
    }

    /** The references of the token at a place. */
    private static void bound(String text, int at, String places) {
        ProgramDesk desk = Check.desk(text);
        StringBuilder found = new StringBuilder();
        for (int j = 0; desk.reference(at, j) != ProgramDesk.NONE; j++) {
            found.append(j == 0 ? "" : " ").append(desk.reference(at, j));
        }
        Check.is("references at " + at + " of " + text, found.toString(), places);
    }

    private static void broken() {
        Check.sentence("1 a part is broken (there).");
        due("fn f(){?}", "1@7");
        due("fn f(", "1@5");
        due("?", "1@0");
        // In a part that is broken nothing else is a fault, before it or behind.
        due("fn f(a,a){print b+g();?}", "1@22");
        due("fn f(a,a){?print b+g();}", "1@10");
        due("fn f(){}fn f(){?}", "1@15");
    }

    private static void declaredBefore() {
        Check.sentence("2 a let or parameter whose name is declared in the same scope before (it declares nothing).");
        due("fn f(a,b){}", "");
        due("fn f(a,a){}", "2@7");
        due("fn f(a,b,a){}", "2@9");
        due("fn f(a,a,a){}", "2@7 2@9");
        due("fn f(){let a=1;let b=1;}", "");
        due("fn f(){let a=1;let a=1;}", "2@19");
        due("fn f(){let a=1;let b=1;let a=1;let b=1;}", "2@27 2@35");
        due("fn f(){let a=1;{let a=1;let a=1;}}", "2@28");
        due("fn f(){{let a=1;}let a=1;{let a=1;}}", "");
        due("fn f(){let a=1;{}let a=1;}", "2@21");
        due("fn f(){let a=1;}fn g(){let a=1;}", "");
        due("fn f(a){}fn g(a){}", "");
        // What declares nothing is bound to nothing, and the first one holds on.
        bound("fn f(a,a){print a;}", 16, "5 16");
        bound("fn f(){let a=1;let a=a;print a;}", 11, "11 21 29");
        Check.refuses("the second one is not bound", NoSuchElementException.class,
            () -> Check.desk("fn f(){let a=1;let a=a;print a;}").reference(19, 0));
    }

    private static void noDeclaration() {
        Check.sentence("3 a variable or assignment that means no declaration.");
        due("fn f(a){print a;a=a;}", "");
        due("fn f(a){print b;}", "3@14");
        due("fn f(a){b=a;}", "3@8");
        due("fn f(a){b=b;}", "3@8 3@10");
        due("fn f(a){print f;}", "3@14");
        due("fn f(a){f=1;}", "3@8");
        due("fn f(a){print ab;}", "3@14");
        due("fn f(ab){print a;}", "3@15");
        due("fn f(){if b{while c{return d;}}}", "3@10 3@18 3@27");
    }

    private static void placesOfFaults() {
        Check.sentence("In functions, each at the first character of its NAME token:");
        due("fn ff(abc,  abc){}", "2@12");
        due("fn ff(){let abc=1;let  abc  =2;}", "2@23");
        due("fn ff(){print  abc ;  abcdef =1;}", "3@15 3@22");
        due("fn ff(){print  gg (1);}", "4@15");
        due("fn ff(){print  ff (1);}", "5@15");
        due("fn ff(){}fn  ff (){}", "6@13");
        due("  fn  ff ( ) { print 1+  ff  ( ff ( 1 ) ) ; }", "5@25 5@31");
    }

    private static void noFunction() {
        Check.sentence("4 a call that means no function.");
        due("fn f(){print f();}", "");
        due("fn f(){print g();}", "4@13");
        due("fn f(){print g(1,2);}", "4@13");
        due("fn f(){print g();}fn g(){}", "");
        due("fn f(g){print g(g);}", "4@14");
        due("fn f(){let g=1;print g();}", "4@21");
        due("fn f(){print main();}", "4@13");
        Check.sentence("A call means the first function (not broken) of that name.");
        due("fn f(){print g();}fn g(){?}", "4@13 1@25");
        due("fn g(a){?}fn f(){print g();}fn g(){}", "1@8");
        due("fn g(){}fn f(){print g();}fn g(a){}", "6@29");
        due("fn g(a){}fn f(){print g();}fn g(){}", "5@22 6@30");
        bound("fn g(){?}fn g(){}fn f(){print g();}", 30, "12 30");
        bound("fn g(){}fn g(){print g();}", 21, "3 21");
    }

    private static void otherNumber() {
        Check.sentence("5 a call with another number of expressions than the function has parameters.");
        due("fn f(){print f();}", "");
        due("fn f(){print f(1);}", "5@13");
        due("fn f(a){print f();}", "5@14");
        due("fn f(a){print f(1);}", "");
        due("fn f(a){print f(1,2);}", "5@14");
        due("fn f(a,b){print f(1);}", "5@16");
        due("fn f(a,b){print f(1,2);}", "");
        due("fn f(a,b){print f(1,2,3);}", "5@16");
        due("fn f(a,b){print f(f(1),2);}", "5@18");
        due("fn f(a,b){print f(f(1,2));}", "5@16");
        // A name between the brackets is a parameter, also with fault 2.
        due("fn f(a,a){print f(1,2);}", "2@7");
        due("fn f(a,a){print f(1);}", "2@7 5@16");
        // A call with this fault means its function all the same.
        bound("fn f(a){print f();}", 14, "3 14");
    }

    private static void sameFunctionName() {
        Check.sentence("6 the name of a function that another one before has.");
        due("fn f(){}fn g(){}", "");
        due("fn f(){}fn f(){}", "6@11");
        due("fn f(){}fn g(){}fn f(){}", "6@19");
        due("fn f(){}fn f(){}fn f(){}fn f(){}", "6@11 6@19 6@27");
        due("fn f(){?}fn f(){}", "1@7");
        due("fn f(f){let f=1;}", "");
        Check.refuses("the second one is not bound", NoSuchElementException.class,
            () -> Check.desk("fn f(){}fn f(){}").reference(11, 0));
        bound("fn f(){}fn f(a){print a;}", 13, "13 22");
    }

    private static void order() {
        Check.sentence("FAULTS, in the order of their places (of one place, of their numbers)");
        due("fn f(a,a){print b+g();}fn f(){print f();}fn h(", "2@7 3@16 4@18 6@26 5@36 1@46");
        due("?fn f(a,a){print f(b,g(),1);}fn f(){", "1@0 2@8 5@17 3@19 4@21 1@36");
        due("fn f(){print g()+g(g(b));}fn g(){print f(1);}", "5@17 5@19 3@21 5@39");
        // No text has two faults at one place; nearest are a part that ends and the one behind it.
        due("fn f(fn g(", "1@5 1@10");
        due("fn f(fn f(a,a){}", "1@5 2@12");
        due("fn fn", "1@2 1@5");
    }

    private static void howMany() {
        Check.sentence("How many faults there are.");
        Check.is("none", new ProgramDesk().faults(), 0);
        Check.is("none in a function", Check.desk("fn f(){}").faults(), 0);
        Check.is("one", Check.desk("fn f(){").faults(), 1);
        Check.is("four broken parts", Check.desk("fn fn fn fn").faults(), 4);
        // A full text in which each a but the first is declared before.
        String full = Check.filled("fn f(" + Check.repeat("a,", 115) + "a){}", 240);
        Check.is("115", Check.desk(full).faults(), 115);
        Check.is("the last of them", Check.desk(full).fault(114), 2 + 8 * 235);
    }

    private static void noSuchFault() {
        Check.sentence("Fault k (from 0): its number + 8 * its place. NoSuchElementException when there is no such fault.");
        ProgramDesk desk = Check.desk("fn main(n){print n;}");
        desk.run(4);
        Check.refusesAndKeeps("fault 0 of none", NoSuchElementException.class, desk, () -> desk.fault(0));
        Check.refusesAndKeeps("fault -1 of none", NoSuchElementException.class, desk, () -> desk.fault(-1));
        for (int at = 0; at < 3; at++) {
            desk.insert(17, 'm');
            desk.insert(18, '+');
        }
        Check.is("the text", Check.text(desk), "fn main(n){print m+m+m+n;}");
        Check.is("how many", desk.faults(), 3);
        Check.is("the first", desk.fault(0), 3 + 8 * 17);
        Check.is("the second", desk.fault(1), 3 + 8 * 19);
        Check.is("the last", desk.fault(2), 3 + 8 * 21);
        Check.refusesAndKeeps("one below", NoSuchElementException.class, desk, () -> desk.fault(-1));
        Check.refusesAndKeeps("one above", NoSuchElementException.class, desk, () -> desk.fault(3));
        for (int k : FAR) {
            Check.refusesAndKeeps("fault " + k, NoSuchElementException.class, desk, () -> desk.fault(k));
        }
        desk.remove(17, 2);
        Check.is("the last that is left", desk.fault(1), 3 + 8 * 19);
        Check.refusesAndKeeps("the one that is mended", NoSuchElementException.class, desk, () -> desk.fault(2));
        ProgramDesk one = Check.desk("?");
        Check.is("1 at place 0", one.fault(0), 1);
    }
}
