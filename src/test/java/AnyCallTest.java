import java.lang.reflect.InvocationTargetException;
import java.lang.reflect.Method;
import java.lang.reflect.Modifier;
import java.util.ArrayList;
import java.util.Comparator;
import java.util.List;

/** Any call with any arguments in any state: none may throw, and the same calls answer the same. */
public final class AnyCallTest {
    private static final int[] NUMBERS = {0, 0, 1, 1, 2, 3, 4, 5, 7, 8, 9, 10, 12, 15, 31, 32, 59, 60, 61, 100, 101, 255, 256, 400,
        99999, 100000, -1, -2, -8, -256, Integer.MAX_VALUE, Integer.MIN_VALUE, Integer.MAX_VALUE - 1};
    private static final String[] BOOKS = {
        "thing a 9 1;thing b 8 1 lost 7;thing c 7 1;thing d 6 1 sells 4;thing e 5 1;thing f 4 1;thing g 3 1 lends 3;thing h 2 1;"
            + "set a b earns 5 if in>2 or week*week-3>home+in*2;set c earns 4;set h earns 3 if not [week=2 or in<1];"
            + "needs 3 if home>2*in;coin 99;weeks 60;luck 500;cousin 20 till 59",
        "thing h 1 0 lost 60;set h earns 9999;coin 9999;weeks 60;cousin 9999 till 60",
        "thing a 9999 999 lost 1 lends 9999;coin 9999;weeks 1;luck 0;cousin 1 till 1",
        "thing c 5 0;thing f 4 2;set f earns 2;weeks 10;luck 321;coin 4;cousin 3 till 9;needs 1 if week/0=0",
        "weeks 1", "coin", "thing a 1 1;set a a"};
    private static final String[] RULES = {
        "like adds*100-owed if week*2<home+in and not [coin>50];like adds+worth-runs*2+left if adds>0;like 1", "like 1;keep 9",
        "like 99999*99999*99999*99999/owed", "keep 0", "like", "like left/home if in = 3"};

    private long seed = 5;

    private int any(int below) {
        seed = seed * 6364136223846793005L + 1442695040888963407L;
        return (int) ((seed >>> 33) % below);
    }

    private void tell(OutOfPawn x, OutOfPawn y, List<String> said) {
        boolean isBook = any(3) == 0;
        String text = isBook ? BOOKS[any(BOOKS.length)] : RULES[any(RULES.length)];
        said.add(text);
        Check.tape(x, text);
        Check.tape(y, text);
        if (any(4) > 0) {
            Check.due(text, isBook ? x.book() : x.rule(), isBook ? y.book() : y.rule());
        }
    }

    private void call(OutOfPawn x, OutOfPawn y, Method m, List<String> said) throws IllegalAccessException {
        Object[] args = new Object[m.getParameterCount()];
        StringBuilder told = new StringBuilder(m.getName());
        for (int i = 0; i < args.length; i++) {
            boolean small = any(3) > 0;
            args[i] = small ? any(9) : NUMBERS[any(NUMBERS.length)];
            told.append(' ').append(args[i]);
        }
        said.add(told.toString());
        try {
            Object one = m.invoke(x, args);
            Object other = m.invoke(y, args);
            Check.due(told.toString(), one.equals(other), true);
        } catch (InvocationTargetException e) {
            System.out.println(said + " threw " + e.getCause());
            Check.due(told.toString(), false, true);
        }
    }

    private void run(List<Method> methods) throws IllegalAccessException {
        OutOfPawn x = new OutOfPawn();
        OutOfPawn y = new OutOfPawn();
        List<String> said = new ArrayList<>();
        for (int i = 0; i < 400 && Check.allWell(); i++) {
            if (any(8) == 0) {
                tell(x, y, said);
            }
            call(x, y, methods.get(any(methods.size())), said);
        }
    }

    public static void main(String[] args) throws IllegalAccessException {
        List<Method> methods = new ArrayList<>();
        for (Method m : OutOfPawn.class.getDeclaredMethods()) {
            if (Modifier.isPublic(m.getModifiers())) {
                methods.add(m);
            }
        }
        methods.sort(Comparator.comparing(Method::getName));
        AnyCallTest test = new AnyCallTest();
        for (int i = 0; i < 250; i++) {
            test.run(methods);
        }
        Check.finish("AnyCallTest");
    }
}
