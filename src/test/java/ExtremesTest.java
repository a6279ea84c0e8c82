import java.lang.reflect.InvocationTargetException;
import java.lang.reflect.Method;
import java.lang.reflect.Modifier;

/**
 * Each call with all mixtures of odd arguments, in objects of several states: none throws, and one
 * that is refused changes nothing.
 */
public final class ExtremesTest extends Edges {
    private static final int[] ODD = {
        LOW, LOW + 1, -100, -33, -32, -3, -1, 0, 1, 2, 3, 5, 6, 7, 8, 9, 31, 32, 33, 60, 61, 99, 100, 127, 128, HIGH};
    private static final int[] FEW = {LOW, -1, 0, 1, 4, 9, HIGH};
    private static final long[] LONGS = {
        0, 1, -1, 48, 126, 127, 128, 255, 256, 0x3130, 0x313000, 0x3736353433323130L, 0x7e7e7e7e7e7e7e7eL,
        0x7f7e7e7e7e7e7e7eL, Long.MIN_VALUE, Long.MAX_VALUE};
    private static final int STATES = 6;

    public static void main(String[] args) throws Exception {
        for (Method call : TopSpeaks.class.getDeclaredMethods()) {
            if (Modifier.isPublic(call.getModifiers())) {
                for (int state = 0; state < STATES; state++) {
                    tryAll(call, state, new Object[call.getParameterCount()], 0);
                }
            }
        }
        farBeyondTheLastCall();
        end();
    }

    private static TopSpeaks inState(int state) {
        TopSpeaks x = easy(state == 0 ? 0 : state == 1 ? 3 : 7);
        switch (state) {
            case 1: ruled(x, "01,12"); x.rise(2); page(x, "0,1"); break;
            case 2: allRise(x, 6, 5, 4, 3, 2, 1, 0); x.image(); page(x, "0123456"); break;
            case 3: page(x, "01,02,03,04,05,06,10,12,13,14;9x"); break;
            case 4: x.chair(0, 0); allRise(x, 0, 1); x.image(); break;
            case 5: useUp(x); break;
            default: break;
        }
        return x;
    }

    private static void useUp(TopSpeaks x) {
        for (int i = 0; i < 40; i++) {
            x.order(1, 0);
            x.midnight(1);
        }
    }

    private static void tryAll(Method call, int state, Object[] chosen, int place) throws Exception {
        if (place == chosen.length) {
            tryOne(call, state, chosen);
        } else if (call.getParameterTypes()[place] == long.class) {
            for (long one : LONGS) {
                chosen[place] = one;
                tryAll(call, state, chosen, place + 1);
            }
        } else {
            for (int one : chosen.length > 3 ? FEW : ODD) {
                chosen[place] = one;
                tryAll(call, state, chosen, place + 1);
            }
        }
    }

    private static void tryOne(Method call, int state, Object[] chosen) throws Exception {
        String told = call.getName() + java.util.Arrays.toString(chosen) + " in state " + state;
        TopSpeaks x = inState(state);
        try {
            long before = x.digest();
            Object answer = call.invoke(x, chosen);
            if (answer instanceof Integer && isRefusal((Integer) answer)) {
                due("digest() behind the refused " + told, x.digest(), before);
            }
        } catch (InvocationTargetException thrown) {
            due(told + " threw " + thrown.getCause(), 1, 0);
        }
    }

    /** What an object answers behind its 512th call is free; but it answers. */
    private static void farBeyondTheLastCall() {
        TopSpeaks x = easy(7);
        x.chair(0, 0);
        for (int i = 0; i < 5000; i++) {
            x.letters(packed("01;9"));
            x.rule();
            x.rise(i % 7);
            x.image();
            x.order(127, 0);
            x.laws(127, 0);
            x.midnight(5);
            x.sessions(60, i, 0);
            x.restore();
            x.digest();
        }
    }
}
