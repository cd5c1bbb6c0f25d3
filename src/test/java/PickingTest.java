/** Picking: zones and spill, and the three policies (promise 12). */
public final class PickingTest {
    public static void main(String[] args) {
        onlyNearOnes();
        spill();
        spillWithoutFraction();
        spillOfSeveral();
        spillOfEachZone();
        furtherAttemptsSpillToo();
        leastUsed();
        sticky();
        stickyAndZones();
        Check.end();
    }

    private static void onlyNearOnes() {
        MeshRouter x = new MeshRouter();
        x.addBackend(0, 0, 9);
        x.addBackend(0, 1, 1);
        x.addBackend(0, 1, 1);
        Check.rule(x, "/=0");
        x.setZoneLimit(100);
        Check.same("zone 1", Check.askOften(x, "/", 1, 4), "1 2 1 2");
        Check.same("zone 0", Check.askOften(x, "/", 0, 3), "0 0 0");
        Check.same("zone 2, of nobody", Check.askOften(x, "/", 2, 3), "0 0 0");
        Check.due("credit of 1", x.backend(1, 4), 3);
        Check.same("service", Check.service(x, 0), "0 3 5 50 20 500 3 0 10 10 0 0 0");
    }

    /** Backend 1 of zone 0, with three quarters of its weight, is ejected. */
    private static MeshRouter shortOfWeight(int zoneLimit) {
        MeshRouter x = new MeshRouter();
        x.addBackend(0, 0, 1);
        x.addBackend(0, 0, 3);
        x.addBackend(0, 1, 1);
        x.addBackend(1, 0, 9);
        x.configure(0, 0, 1, 20, 100, 0);
        x.setPattern(1, 0);
        x.setZoneLimit(zoneLimit);
        Check.rule(x, "/=0");
        Check.due("the request that ejects", Check.ask(x, "/", 0, 0), MeshRouter.FAILED);
        Check.due("ejected", x.backend(1, 9), 20);
        return x;
    }

    private static void spill() {
        MeshRouter x = shortOfWeight(100);
        for (int spill = 25; spill < 100; spill += 25) {
            Check.due("request", Check.ask(x, "/", 0, 0), 2);
            Check.due("spill", x.service(0, 10), spill);
        }
        Check.due("request", Check.ask(x, "/", 0, 0), 0);
        Check.due("spill", x.service(0, 10), 0);
        Check.due("request", Check.ask(x, "/", 0, 0), 2);
        Check.same("trace", Check.trace(x), "2,1,0,0");
        x.setWeight(1, 0);
        Check.due("request without the ejected weight", Check.ask(x, "/", 0, 0), 0);
        Check.due("spill", x.service(0, 10), 25);
        x.setWeight(1, 3);
        x.setWeight(2, 0);
        Check.due("request without others", Check.ask(x, "/", 0, 0), 0);
        Check.due("spill", x.service(0, 10), 25);
        x.setWeight(2, 1);
        x.setWeight(0, 0);
        Check.due("request without near ones", Check.ask(x, "/", 0, 0), 2);
        Check.due("spill", x.service(0, 10), 25);
    }

    private static void spillWithoutFraction() {
        MeshRouter enough = shortOfWeight(25);
        Check.same("limit 25", Check.askOften(enough, "/", 0, 2), "0 0");
        Check.due("spill", enough.service(0, 10), 0);
        MeshRouter x = shortOfWeight(26);
        Check.due("request", Check.ask(x, "/", 0, 0), 2);
        Check.due("spill", x.service(0, 10), 96);
        Check.due("request", Check.ask(x, "/", 0, 0), 0);
        Check.due("spill", x.service(0, 10), 92);
    }

    /** 5 of 7 near ones are left: a little less than 72 hundredths, and more than 71. */
    private static void spillOfSeveral() {
        MeshRouter x = new MeshRouter();
        x.addBackend(0, 0, 5);
        x.addBackend(0, 0, 2);
        x.addBackend(0, 1, 1);
        x.configure(0, 1, 1, 20, 100, 0);
        x.setPattern(1, 0);
        x.setZoneLimit(71);
        Check.rule(x, "/=0");
        Check.same("answers", Check.askOften(x, "/", 0, 3), "0 -6 0");
        Check.due("spill", x.service(0, 10), 0);
        x.setZoneLimit(72);
        Check.due("request", Check.ask(x, "/", 0, 0), 2);
        Check.due("spill, 10000 * 5 / (72 * 7)", x.service(0, 10), 99);
        Check.due("request", Check.ask(x, "/", 0, 0), 0);
        Check.due("spill", x.service(0, 10), 98);
    }

    private static void spillOfEachZone() {
        MeshRouter x = new MeshRouter();
        for (int i = 0; i < 6; i++) {
            x.addBackend(0, i / 2, 1);
            x.setPattern(i, 254);
        }
        x.configure(0, 0, 1, 20, 100, 0);
        x.setZoneLimit(100);
        Check.rule(x, "/=0");
        for (int zone = 0; zone < 3; zone++) {
            Check.due("request that ejects", Check.ask(x, "/", 0, zone), MeshRouter.FAILED);
        }
        x.setPattern(1, 255);
        x.setPattern(3, 255);
        x.setPattern(5, 255);
        Check.due("zone 2", Check.ask(x, "/", 0, 2), 1);
        Check.due("spill of zone 2", x.service(0, 12), 50);
        Check.due("zone 2", Check.ask(x, "/", 0, 2), 5);
        Check.due("zone 1", Check.ask(x, "/", 0, 1), 5);
        Check.due("spill of zone 1", x.service(0, 11), 50);
        Check.due("spill of zone 2", x.service(0, 12), 0);
        Check.due("zone 0", Check.ask(x, "/", 0, 0), 3);
        Check.due("zone 2", Check.ask(x, "/", 0, 2), 1);
        Check.due("zone 2", Check.ask(x, "/", 0, 2), 5);
        Check.due("zone 1", Check.ask(x, "/", 0, 1), 3);
        Check.same("service", Check.service(x, 0), "0 1 20 100 0 300 6 3 10 7 50 0 0");
    }

    /** The near weight of a further attempt leaves out what was attempted; the whole does not. */
    private static void furtherAttemptsSpillToo() {
        MeshRouter x = new MeshRouter();
        x.addBackend(0, 0, 2);
        x.addBackend(0, 0, 1);
        x.addBackend(0, 1, 1);
        x.configure(0, 0, 9, 1, 0, 100);
        x.setPattern(0, 0);
        Check.rule(x, "/=0*2");
        Check.due("request", Check.ask(x, "/", 0, 0), 2);
        Check.same("trace", Check.trace(x), "0,0,1,0 2,1,0,0");
        Check.due("spill, 10000 * 1 / (70 * 3)", x.service(0, 10), 47);
        x.setZoneLimit(33);
        x.setWeight(1, 1);
        Check.due("request", Check.ask(x, "/", 0, 0), 1);
        Check.due("request", Check.ask(x, "/", 0, 0), 1);
        Check.same("trace", Check.trace(x), "0,0,1,0 1,1,1,0");
        Check.due("spill", x.service(0, 10), 47);
    }

    private static void leastUsed() {
        MeshRouter x = new MeshRouter();
        x.configure(0, 1, 9, 1, 0, 100);
        x.addBackend(0, 0, 1);
        x.addBackend(0, 0, 2);
        x.addBackend(0, 0, 3);
        Check.rule(x, "/=0*4");
        Check.same("answers", Check.askOften(x, "/", 0, 7), "0 1 2 2 1 2 0");
        Check.due("credit", x.backend(0, 4), 0);
        Check.due("credit", x.backend(2, 4), 0);
        x.setPattern(1, 0);
        x.setPattern(2, 0);
        Check.due("request", Check.ask(x, "/", 0, 0), 0);
        Check.same("trace", Check.trace(x), "1,0,1,0 2,0,1,0 0,1,1,0");
        Check.due("remembered", x.remembered(0, 0), MeshRouter.NONE);
    }

    private static void sticky() {
        MeshRouter x = new MeshRouter();
        x.configure(0, 2, 9, 1, 0, 100);
        x.addBackend(0, 0, 1);
        x.addBackend(0, 0, 1);
        Check.rule(x, "/=0");
        Check.due("value 3", Check.ask(x, "/", 3, 0), 0);
        Check.due("value 3", Check.ask(x, "/", 3, 0), 0);
        Check.due("credit", x.backend(0, 4), -1);
        Check.due("value 9", Check.ask(x, "/", 9, 0), 1);
        Check.due("value 3", Check.ask(x, "/", 3, 0), 0);
        Check.due("value 0", Check.ask(x, "/", 0, 0), 0);
        Check.same("kept", Check.kept(x, 0), "0 -1 -1 0 -1 -1 -1 -1 -1 1");
        x.setWeight(0, 0);
        Check.due("value 3", Check.ask(x, "/", 3, 0), 1);
        x.setWeight(0, 1);
        Check.due("value 3", Check.ask(x, "/", 3, 0), 1);
        Check.same("kept", Check.kept(x, 0), "0 -1 -1 1 -1 -1 -1 -1 -1 1");
        Check.same("kept by another", Check.kept(x, 1), "-1 -1 -1 -1 -1 -1 -1 -1 -1 -1");
        x.setPattern(0, 0);
        Check.due("the failed one is remembered", Check.ask(x, "/", 0, 0), MeshRouter.FAILED);
        Check.due("remembered", x.remembered(0, 0), 0);
        Check.rule(x, "/=0*2");
        x.removeRule(0);
        Check.due("a further attempt", Check.ask(x, "/", 0, 0), 1);
        Check.due("remembered", x.remembered(0, 0), 1);
    }

    private static void stickyAndZones() {
        MeshRouter x = new MeshRouter();
        x.configure(0, 2, 9, 1, 0, 100);
        x.addBackend(0, 0, 1);
        x.addBackend(0, 1, 1);
        Check.rule(x, "/=0");
        Check.due("zone 0", Check.ask(x, "/", 5, 0), 0);
        Check.due("zone 1", Check.ask(x, "/", 5, 1), 1);
        Check.due("remembered", x.remembered(0, 5), 1);
        Check.due("zone 2", Check.ask(x, "/", 5, 2), 1);
        Check.due("zone 0", Check.ask(x, "/", 5, 0), 0);
    }
}
