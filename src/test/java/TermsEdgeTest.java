/** The edges of what holds for all promises: the constants, the use of an object, which refusal is the first. */
public final class TermsEdgeTest {
    public static void main(String[] args) throws IllegalAccessException {
        Edges.run(TermsEdgeTest.class);
    }

    private static void termsTheConstants() {
        Due.is("NONE", YieldDoors.NONE, -1000000);
        Due.is("BAD", YieldDoors.BAD, -1000001);
        Due.is("STATE", YieldDoors.STATE, -1000002);
        Due.is("FULL", YieldDoors.FULL, -1000003);
    }

    private static void termsFindingsAreToldByTheirNumbers() {
        YieldDoors x = Due.told("m1,1;g0,0,0;");
        x.row(0, 0, 1);
        x.row(1, 1, 1);
        Due.is("1 NULL", x.drop(7), -1000011);
        Due.is("2 PLACE", x.set(0, 1, 0), -1000012);
        Due.is("3 KIND", x.as(0, 1), -1000013);
        Due.is("4 SIZE", x.row(0, 0, -1), -1000014);
        Due.is("5 STORE", x.copy(0, 0, 1, 0, 0), -1000015);
    }

    private static void termsFaultsAreToldByTheirPlaces() {
        YieldDoors x = new YieldDoors();
        Due.is("at 0", x.ministry(), -1000100);
        Due.is("at 5", Due.tell(x, "m1,1;"), -1000105);
    }

    private static void termsNumbersGoFrom0On() {
        YieldDoors x = Due.told("m1,1;g5,0,0;");
        Due.is("ROW 0", x.row(0, 0, 1), 1);
        Due.is("ITEM 0", x.set(0, 0, 3), 3);
        Due.is("PERSON 0", x.person(0, 0), 5);
        Due.is("DOOR 0", x.door(0, 0), 1);
        Due.is("IMAGE 0", x.image(0), 1);
    }

    private static void termsTheLastOf512CallsIsAnswered() {
        YieldDoors x = Due.told(Due.GUESTS);
        int calls = Due.GUESTS.length() + 1;
        for (; calls < 511; calls += 2) {
            x.revise(0, 0, calls % 10);
            x.undo();
        }
        for (; calls < 511; calls++) {
            x.count(0);
        }
        Due.is("bows(0, 0)", x.bows(0, 0), 0);
    }

    private static void termsCallsThatGoOnForLongChangeNothingByThemselves() {
        YieldDoors x = Due.busy();
        for (int i = 0; i < 60; i++) {
            x.third(0, 0);
            x.drawn(60, 999999, 1);
            x.bows(0, 1);
            x.ranks(0, 1, 0, 0, 3);
        }
        Due.alikeButStatus(x, Due.busy());
    }
}
