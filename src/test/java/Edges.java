import java.util.NoSuchElementException;
import java.util.function.IntFunction;

/** What the tests of boundary cases share. Each of them is a method with the words it is of. */
abstract class Edges {
    static final int LEAST = Integer.MIN_VALUE;
    static final int GREATEST = Integer.MAX_VALUE;

    static void is(long due, long got) {
        Check.is("", due, got);
    }

    static void is(boolean due, boolean got) {
        Check.is("", due, got);
    }

    static void noIndex(Check.Call call) {
        Check.fails("", IndexOutOfBoundsException.class, call);
    }

    static void noArgument(Check.Call call) {
        Check.fails("", IllegalArgumentException.class, call);
    }

    static void noState(Check.Call call) {
        Check.fails("", IllegalStateException.class, call);
    }

    static void noElement(Check.Call call) {
        Check.fails("", NoSuchElementException.class, call);
    }

    /** There is an index from 0 to end - 1, and no other one. */
    static void noIndexBeyond(int end, IntFunction<Object> call) {
        for (int index : new int[] {-1, -2, end, end + 1, 2 * end, LEAST, LEAST + 1, GREATEST}) {
            Check.fails("index " + index, IndexOutOfBoundsException.class, () -> call.apply(index));
        }
    }

    /** There is a what from 0 to last, and no other one. */
    static void noWhatBeyond(int last, IntFunction<Object> call) {
        for (int what : new int[] {-1, -2, last + 1, last + 2, LEAST, GREATEST}) {
            Check.fails("what " + what, IllegalArgumentException.class, () -> call.apply(what));
        }
    }
}
