import java.util.ArrayList;
import java.util.Arrays;
import java.util.List;

/**
 * Being sure, where there are too many rows to try. It goes forward from the units that have come, while the program
 * goes backward from the end of the stream. What a code makes of one more unit is read off PlainJudge, with an
 * example of each way a row can stand.
 */
final class Foresight {
    private static final int UNITS = 8;
    private static final int BAD = -1;
    private static final int NO_ROW = Integer.MIN_VALUE;

    /** How rows can stand in one code, each with a row that stands so, and where each unit leads. */
    private static final class Stands {
        final String text;
        final List<String> names = new ArrayList<>();
        final List<String> examples = new ArrayList<>();
        final List<int[]> nexts = new ArrayList<>();
        final List<int[]> gains = new ArrayList<>();

        Stands(String text) {
            this.text = text;
            numberOf("");
            // the list grows while it is gone through, until no unit leads to a new stand
            for (int stand = 0; stand < examples.size(); stand++) {
                lead(stand);
            }
        }

        private void lead(int stand) {
            String row = examples.get(stand);
            int[] next = new int[UNITS];
            int[] gain = new int[UNITS];
            for (int unit = 0; unit < UNITS; unit++) {
                next[unit] = numberOf(row + unit);
                gain[unit] = next[unit] == BAD ? 0 : weight(row + unit) - weight(row);
            }
            nexts.add(next);
            gains.add(gain);
        }

        int numberOf(String row) {
            PlainJudge.Told told = PlainJudge.read(text, row);
            if (told.bad != PlainJudge.NONE) {
                return BAD;
            }
            String name = told.left + "," + (told.sorts.isEmpty() ? "" : told.sorts.substring(told.sorts.length() - 1));
            if (!names.contains(name)) {
                names.add(name);
                examples.add(row);
            }
            return names.indexOf(name);
        }

        int weight(String row) {
            return PlainJudge.weight(text, PlainJudge.read(text, row));
        }

        boolean isWhole(int stand) {
            return PlainJudge.read(text, examples.get(stand)).valid();
        }

        int size() {
            return examples.size();
        }
    }

    private final List<Stands> codes = new ArrayList<>();

    Foresight(List<String> texts) {
        for (String text : texts) {
            codes.add(new Stands(text));
        }
    }

    /** Whether the code is sure when these units have come and so many more are still to come. */
    boolean isSure(int code, String units, int more) {
        // against itself a code can never lead, but only whole rows have a lead at all
        if (greatestLead(codes.get(code), codes.get(code), units, more) == NO_ROW) {
            return false;
        }
        for (int rival = 0; rival < codes.size(); rival++) {
            int lead = rival == code ? NO_ROW : greatestLead(codes.get(code), codes.get(rival), units, more);
            if (lead != NO_ROW && (lead > 0 || lead == 0 && rival < code)) {
                return false;
            }
        }
        return true;
    }

    /** By how much the rival outweighs the code at most, in a row that is valid in both. */
    private static int greatestLead(Stands own, Stands rival, String units, int more) {
        int mine = own.numberOf(units);
        int other = rival.numberOf(units);
        if (mine == BAD || other == BAD) {
            return NO_ROW;
        }
        int[] leads = new int[own.size() * rival.size()];
        Arrays.fill(leads, NO_ROW);
        leads[mine * rival.size() + other] = rival.weight(units) - own.weight(units);
        for (int i = 0; i < more; i++) {
            leads = oneUnitLater(own, rival, leads);
        }
        int greatest = NO_ROW;
        for (int i = 0; i < leads.length; i++) {
            if (own.isWhole(i / rival.size()) && rival.isWhole(i % rival.size())) {
                greatest = Math.max(greatest, leads[i]);
            }
        }
        return greatest;
    }

    private static int[] oneUnitLater(Stands own, Stands rival, int[] leads) {
        int[] later = new int[leads.length];
        Arrays.fill(later, NO_ROW);
        for (int i = 0; i < leads.length; i++) {
            int mine = i / rival.size();
            int other = i % rival.size();
            for (int unit = 0; unit < UNITS && leads[i] != NO_ROW; unit++) {
                int mineNext = own.nexts.get(mine)[unit];
                int otherNext = rival.nexts.get(other)[unit];
                if (mineNext != BAD && otherNext != BAD) {
                    int to = mineNext * rival.size() + otherNext;
                    int lead = leads[i] + rival.gains.get(other)[unit] - own.gains.get(mine)[unit];
                    later[to] = Math.max(later[to], lead);
                }
            }
        }
        return later;
    }
}
