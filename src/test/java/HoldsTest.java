import java.lang.reflect.Field;
import java.util.Arrays;

/**
 * "It HOLDS, if after each STEP each object .. is of a SITE that is in the SET told for that". The
 * SETS of the LAST ROUND have all that a RUN can bring, so no run of calls shows an answer 0. This
 * test reaches into the object instead: with any one SET emptied, a RUN that comes there holds no
 * more. How SETS are held is free; where they are held otherwise, there is nothing to empty.
 */
public final class HoldsTest extends Due {
    /** A RUN by this seed brings the only SITE to every place of the program. */
    private static final int SEED = 1;

    /** The one SITE comes to NAMES of two METHODS, to a FIELD, an ELEMENT and a STATIC. */
    private static PointsToRounds program(int mode) {
        PointsToRounds x = oneMethod();
        x.method(0, 1);
        x.field(0);
        x.mode(mode);
        say(x, 0, NEW, 1, 0, 0);
        say(x, 0, STORE, 1, 1, 0);
        say(x, 0, LAY, 1, 1, 0);
        say(x, 0, PUT, 2, 1, 0);
        x.statement(0, CALL, 2, 1, 1, 1, 1);
        say(x, 1, MOVE, 5, 0, 0);
        say(x, 1, MOVE, 3, 5, 0);
        return x;
    }

    /** What is told of all SETS, in a row. */
    private static int[] told(PointsToRounds x, int mode) {
        int[] row = new int[6 * 2 * (1 + mode) + 3];
        int place = 0;
        for (int name = 0; name < 6; name++) {
            for (int context = 0; context <= mode; context++) {
                row[place++] = x.points(0, context, name);
                row[place++] = x.points(1, context, name);
            }
        }
        row[place++] = x.inField(0, 0);
        row[place++] = x.element(0);
        row[place] = x.inStatic(2);
        return row;
    }

    private static int[] rowOfSets(PointsToRounds x) throws IllegalAccessException {
        try {
            Field sets = PointsToRounds.class.getDeclaredField("sets");
            sets.setAccessible(true);
            Field now = sets.getType().getDeclaredField("now");
            now.setAccessible(true);
            return now.get(sets.get(x)) instanceof int[] row ? row : null;
        } catch (NoSuchFieldException e) {
            return null;
        }
    }

    private static int filled(int[] row) {
        return (int) Arrays.stream(row).filter(bits -> bits != 0).count();
    }

    private static void emptied(int mode) throws IllegalAccessException {
        sentence("17 1 it HOLDS, 0; MODE " + mode);
        PointsToRounds x = program(mode);
        due("with all SETS", x.run(SEED, 300), 1);
        int[] full = told(x, mode);
        int[] row = rowOfSets(x);
        int emptied = 0;
        for (int place = 0; row != null && place < row.length; place++) {
            if (row[place] == 0) {
                continue;
            }
            PointsToRounds y = program(mode);
            y.rounds();
            rowOfSets(y)[place] = 0;
            int[] less = told(y, mode);
            boolean isSet = !Arrays.equals(full, less);
            emptied += isSet ? 1 : 0;
            due("with place " + place + " emptied", y.run(SEED, 300), isSet ? 0 : 1);
        }
        if (row != null) {
            due("SETS emptied", emptied, filled(full));
        }
    }

    public static void main(String[] args) throws IllegalAccessException {
        emptied(0);
        emptied(1);
        end();
    }
}
